/-! ===== what is bound: both sides' words for it ===== -/
theorem tb15 (i : Nat) : Nat.testBit 15 i = decide (i < 4) := Nat.testBit_two_pow_sub_one 4 i
theorem tb_lt {x i : Nat} (h : x < 16) (hi : ¬ i < 4) : x.testBit i = false := Nat.testBit_lt_two_pow (Nat.lt_of_lt_of_le h (show 2 ^ 4 ≤ 2 ^ i from Nat.pow_le_pow_right (by decide) (by omega)))
def bm (c : Nat) : Nat := 65535 - 15 * 2 ^ (4 * c)
theorem nb_same {S x c d : Nat} (hx : x < 16) (hc : c ≤ 3) : ((((S &&& bm c) ||| (x <<< (4 * c))) ||| (d <<< 16)) >>> (4 * c)) &&& 15 = x := by
  refine Nat.eq_of_testBit_eq (fun i => ?_)
  rw [Nat.testBit_and, Nat.testBit_shiftRight, Nat.testBit_or, Nat.testBit_or, Nat.testBit_and, Nat.testBit_shiftLeft, Nat.testBit_shiftLeft, tb15]
  by_cases hi : i < 4
  · have m : ∀ c, c ≤ 3 → ∀ i, i < 4 → (bm c).testBit (4 * c + i) = false := by decide
    rw [m c hc i hi, decide_eq_true hi, decide_eq_false (show ¬ 4 * c + i ≥ 16 by omega), decide_eq_true (show 4 * c + i ≥ 4 * c by omega), show 4 * c + i - 4 * c = i by omega]
    simp
  · rw [decide_eq_false hi, tb_lt hx hi]; simp
theorem nb_other {S x c c' d : Nat} (hx : x < 16) (hc : c ≤ 3) (hc' : c' ≤ 3) (h : ¬ c' = c) : ((((S &&& bm c) ||| (x <<< (4 * c))) ||| (d <<< 16)) >>> (4 * c')) &&& 15 = (S >>> (4 * c')) &&& 15 := by
  refine Nat.eq_of_testBit_eq (fun i => ?_)
  rw [Nat.testBit_and, Nat.testBit_shiftRight, Nat.testBit_or, Nat.testBit_or, Nat.testBit_and, Nat.testBit_shiftLeft, Nat.testBit_shiftLeft, tb15, Nat.testBit_and, Nat.testBit_shiftRight, tb15]
  by_cases hi : i < 4
  · have m : ∀ c, c ≤ 3 → ∀ c', c' ≤ 3 → ¬ c' = c → ∀ i, i < 4 → (bm c).testBit (4 * c' + i) = true := by decide
    rw [m c hc c' hc' h i hi, decide_eq_true hi, decide_eq_false (show ¬ 4 * c' + i ≥ 16 by omega)]
    by_cases g : c ≤ c'
    · rw [tb_lt hx (show ¬ 4 * c' + i - 4 * c < 4 by omega)]; simp
    · rw [decide_eq_false (show ¬ 4 * c' + i ≥ 4 * c by omega)]; simp
  · rw [decide_eq_false hi]; simp
theorem nb_dep {S x c d : Nat} (hx : x < 16) (hc : c ≤ 3) : ((((S &&& bm c) ||| (x <<< (4 * c))) ||| (d <<< 16)) >>> 16) = d := by
  refine Nat.eq_of_testBit_eq (fun i => ?_)
  rw [Nat.testBit_shiftRight, Nat.testBit_or, Nat.testBit_or, Nat.testBit_and, Nat.testBit_shiftLeft, Nat.testBit_shiftLeft]
  have m : (bm c).testBit (16 + i) = false := Nat.testBit_lt_two_pow (Nat.lt_of_lt_of_le (show bm c < 2 ^ 16 by unfold bm; omega) (Nat.pow_le_pow_right (by decide) (by omega)))
  rw [m, tb_lt hx (show ¬ 16 + i - 4 * c < 4 by omega), decide_eq_true (show 16 + i ≥ 16 by omega), show 16 + i - 16 = i by omega]
  simp
theorem ior_nat {x y : Int} (h0 : 0 ≤ x) (h1 : x < 1073741824) (hy0 : 0 ≤ y) (hy1 : y < 1073741824) : ior x y = ((x.toNat ||| y.toNat : Nat) : Int) := by
  unfold ior
  have e : (Int32.ofInt x ||| Int32.ofInt y).toBitVec.toNat = x.toNat ||| y.toNat := by
    rw [Int32.toBitVec_or, BitVec.toNat_or, nonneg_bv h0 (by omega), nonneg_bv hy0 (by omega)]
  have h2 : x.toNat ||| y.toNat < 2 ^ 30 := Nat.or_lt_two_pow (by omega) (by omega)
  rw [toInt_small _ (by rw [e]; omega), e]
theorem ior_nn {a b : Nat} (ha : a < 1073741824) (hb : b < 1073741824) : ior (a : Int) (b : Int) = ((a ||| b : Nat) : Int) := by
  have := ior_nat (x := (a : Int)) (y := (b : Int)) (by omega) (by omega) (by omega) (by omega)
  rw [Int.toNat_natCast, Int.toNat_natCast] at this
  exact this
/-- and with a word whose high bits stand -/
theorem iand_hi {x m : Int} {k : Nat} (h0 : 0 ≤ x) (h1 : x < 2147483648) (hm : (Int32.ofInt m).toBitVec.toNat = k) : iand x m = ((x.toNat &&& k : Nat) : Int) := by
  unfold iand
  have e : (Int32.ofInt x &&& Int32.ofInt m).toBitVec.toNat = x.toNat &&& k := by
    rw [Int32.toBitVec_and, BitVec.toNat_and, nonneg_bv h0 h1, hm]
  have h2 : x.toNat &&& k ≤ x.toNat := Nat.and_le_left
  rw [toInt_small _ (by rw [e]; omega), e]
theorem mskC : ∀ c : Nat, c ≤ 3 → (Int32.ofInt (ixor (ishl 15 (wI (4 * (c : Int)))) (-1))).toBitVec.toNat = 4294967295 - 15 * 2 ^ (4 * c) := by decide +kernel
theorem mskC2 : ∀ c : Nat, c ≤ 3 → 65535 &&& (4294967295 - 15 * 2 ^ (4 * c)) = bm c := by decide +kernel
theorem shlC : ∀ c : Nat, c ≤ 3 → ∀ x : Nat, x < 16 → ishl (x : Int) (wI (4 * (c : Int))) = ((x <<< (4 * c) : Nat) : Int) := by decide +kernel
theorem shlD : ∀ d : Nat, d < 16 → ishl (d : Int) 16 = ((d <<< 16 : Nat) : Int) := by decide +kernel
theorem shrC {x : Int} (h0 : 0 ≤ x) (h1 : x < 2147483648) {c : Nat} (hc : c ≤ 3) : ishr x (wI (4 * (c : Int))) = ((x.toNat >>> (4 * c) : Nat) : Int) := by
  rw [wI_id (x := 4 * (c : Int)) (by omega) (by omega), show (4 : Int) * (c : Int) = ((4 * c : Nat) : Int) by omega, ishr_e h0 h1 (by omega), Nat.shiftRight_eq_div_pow]
  obtain ⟨n, rfl⟩ := Int.eq_ofNat_of_zero_le h0
  simp
theorem bindC_nat {sc k s : Int} {c : Nat} (h0 : 0 ≤ sc) (h1 : sc < 1048576) (hc : c ≤ 3) (hk : 0 ≤ k ∧ k ≤ 2) (hs : 0 ≤ s ∧ s ≤ 3) (hd : 0 ≤ ishr sc 16 ∧ ishr sc 16 ≤ 3) : bindC sc (c : Int) k s = (((((sc.toNat &&& bm c) ||| ((1 + k + 4 * s).toNat <<< (4 * c))) ||| ((ishr sc 16 + 1).toNat <<< 16) : Nat)) : Int) := by
  unfold bindC
  have e1 : iand sc 65535 = ((sc.toNat &&& 65535 : Nat) : Int) := iand_nat h0 (by omega) (by decide) (by decide)
  have l1 : sc.toNat &&& 65535 ≤ 65535 := Nat.and_le_right
  have e2 : iand (iand sc 65535) (ixor (ishl 15 (wI (4 * (c : Int)))) (-1)) = ((sc.toNat &&& bm c : Nat) : Int) := by
    rw [iand_hi (by rw [e1]; omega) (by rw [e1]; omega) (mskC c hc), e1, Int.toNat_natCast, Nat.and_assoc, mskC2 c hc]
  have l2 : sc.toNat &&& bm c ≤ bm c := Nat.and_le_right
  have l3 : bm c ≤ 65535 := by unfold bm; omega
  have e3 : wI (wI (1 + k) + wI (4 * s)) = (((1 + k + 4 * s).toNat : Nat) : Int) := by
    rw [wI_id (x := 1 + k) (by omega) (by omega), wI_id (x := 4 * s) (by omega) (by omega), wI_id (x := 1 + k + 4 * s) (by omega) (by omega)]; omega
  have e4 := shlC c hc (1 + k + 4 * s).toNat (by omega)
  have e5 : wI (ishr sc 16 + 1) = (((ishr sc 16 + 1).toNat : Nat) : Int) := by
    rw [wI_id (x := ishr sc 16 + 1) (by omega) (by omega)]; omega
  have e6 := shlD (ishr sc 16 + 1).toNat (by omega)
  have b4 : (1 + k + 4 * s).toNat <<< (4 * c) < 2 ^ 16 := by
    rw [Nat.shiftLeft_eq]
    have p : (2 : Nat) ^ (4 * c) ≤ 2 ^ 12 := Nat.pow_le_pow_right (by decide) (by omega)
    have q : (1 + k + 4 * s).toNat ≤ 15 := by omega
    exact Nat.lt_of_le_of_lt (Nat.mul_le_mul q p) (by decide)
  have b6 : (ishr sc 16 + 1).toNat <<< 16 < 2 ^ 20 := by
    rw [Nat.shiftLeft_eq]
    have q : (ishr sc 16 + 1).toNat ≤ 4 := by omega
    exact Nat.lt_of_le_of_lt (Nat.mul_le_mul_right _ q) (by decide)
  have b7 : (sc.toNat &&& bm c) ||| ((1 + k + 4 * s).toNat <<< (4 * c)) < 2 ^ 16 := Nat.or_lt_two_pow (by omega) b4
  rw [e2, e3, e4, e5, e6, ior_nn (by omega) (Nat.lt_trans b4 (by decide)), ior_nn (Nat.lt_trans b7 (by decide)) (Nat.lt_trans b6 (by decide))]
theorem tb3 (i : Nat) : Nat.testBit 3 i = decide (i < 2) := Nat.testBit_two_pow_sub_one 2 i
theorem tb_lt4 {x i : Nat} (h : x < 4) (hi : ¬ i < 2) : x.testBit i = false := Nat.testBit_lt_two_pow (Nat.lt_of_lt_of_le h (show 2 ^ 2 ≤ 2 ^ i from Nat.pow_le_pow_right (by decide) (by omega)))
def rm (v : Nat) : Nat := 4294967295 - 3 * 2 ^ (2 * v)
theorem rb_same {B x v : Nat} (hx : x < 4) (hv : v < 4) : (((B &&& rm v) ||| (x <<< (2 * v))) >>> (2 * v)) &&& 3 = x := by
  refine Nat.eq_of_testBit_eq (fun i => ?_)
  rw [Nat.testBit_and, Nat.testBit_shiftRight, Nat.testBit_or, Nat.testBit_and, Nat.testBit_shiftLeft, tb3]
  by_cases hi : i < 2
  · have m : ∀ v, v < 4 → ∀ i, i < 2 → (rm v).testBit (2 * v + i) = false := by decide +kernel
    rw [m v hv i hi, decide_eq_true hi, decide_eq_true (show 2 * v + i ≥ 2 * v by omega), show 2 * v + i - 2 * v = i by omega]
    simp
  · rw [decide_eq_false hi, tb_lt4 hx hi]; simp
theorem rb_other {B x v u : Nat} (hx : x < 4) (hv : v < 4) (hu : u < 4) (h : ¬ u = v) : (((B &&& rm v) ||| (x <<< (2 * v))) >>> (2 * u)) &&& 3 = (B >>> (2 * u)) &&& 3 := by
  refine Nat.eq_of_testBit_eq (fun i => ?_)
  rw [Nat.testBit_and, Nat.testBit_shiftRight, Nat.testBit_or, Nat.testBit_and, Nat.testBit_shiftLeft, tb3, Nat.testBit_and, Nat.testBit_shiftRight, tb3]
  by_cases hi : i < 2
  · have m : ∀ v, v < 4 → ∀ u, u < 4 → ¬ u = v → ∀ i, i < 2 → (rm v).testBit (2 * u + i) = true := by decide +kernel
    rw [m v hv u hu h i hi, decide_eq_true hi]
    by_cases g : v ≤ u
    · rw [tb_lt4 hx (show ¬ 2 * u + i - 2 * v < 2 by omega)]; simp
    · rw [decide_eq_false (show ¬ 2 * u + i ≥ 2 * v by omega)]; simp
  · rw [decide_eq_false hi]; simp
theorem rb_dep {B x v : Nat} (hx : x < 4) (hv : v < 4) (hB : B < 2048) : ((B &&& rm v) ||| (x <<< (2 * v))) >>> 8 = B >>> 8 := by
  refine Nat.eq_of_testBit_eq (fun i => ?_)
  rw [Nat.testBit_shiftRight, Nat.testBit_or, Nat.testBit_and, Nat.testBit_shiftLeft, Nat.testBit_shiftRight]
  rw [tb_lt4 hx (show ¬ 8 + i - 2 * v < 2 by omega)]
  by_cases hi : i < 3
  · have m : ∀ v, v < 4 → ∀ i, i < 3 → (rm v).testBit (8 + i) = true := by decide +kernel
    rw [m v hv i hi]; simp
  · have : B.testBit (8 + i) = false := Nat.testBit_lt_two_pow (Nat.lt_of_lt_of_le hB (show 2 ^ 11 ≤ 2 ^ (8 + i) from Nat.pow_le_pow_right (by decide) (by omega)))
    rw [this]; simp
theorem mskR : ∀ v : Nat, v < 4 → (Int32.ofInt (ixor (ishl 3 (wI (2 * (v : Int)))) (-1))).toBitVec.toNat = rm v := by decide +kernel
theorem shlR : ∀ v : Nat, v < 4 → ∀ x : Nat, x < 4 → ishl (x : Int) (wI (2 * (v : Int))) = ((x <<< (2 * v) : Nat) : Int) := by decide +kernel
theorem shrR {x : Int} (h0 : 0 ≤ x) (h1 : x < 2147483648) {v : Nat} (hv : v < 4) : ishr x (wI (2 * (v : Int))) = ((x.toNat >>> (2 * v) : Nat) : Int) := by
  rw [wI_id (x := 2 * (v : Int)) (by omega) (by omega), show (2 : Int) * (v : Int) = ((2 * v : Nat) : Int) by omega, ishr_e h0 h1 (by omega), Nat.shiftRight_eq_div_pow]
  obtain ⟨n, rfl⟩ := Int.eq_ofNat_of_zero_le h0
  simp
theorem bindR_nat {bo k : Int} {v : Nat} (h0 : 0 ≤ bo) (h1 : bo < 2048) (hv : v < 4) (hk : 0 ≤ k ∧ k ≤ 2) : bindR bo (v : Int) k = (((((bo.toNat &&& rm v) ||| (k.toNat <<< (2 * v))) + 256 : Nat)) : Int) ∧ ((bo.toNat &&& rm v) ||| (k.toNat <<< (2 * v))) < 2048 := by
  unfold bindR
  have e1 : iand bo (ixor (ishl 3 (wI (2 * (v : Int)))) (-1)) = ((bo.toNat &&& rm v : Nat) : Int) := iand_hi h0 (by omega) (mskR v hv)
  have l1 : bo.toNat &&& rm v ≤ bo.toNat := Nat.and_le_left
  have e2 := shlR v hv k.toNat (by omega)
  rw [show ((k.toNat : Nat) : Int) = k by omega] at e2
  have b2 : k.toNat <<< (2 * v) < 2 ^ 11 := by
    rw [Nat.shiftLeft_eq]
    have p : (2 : Nat) ^ (2 * v) ≤ 2 ^ 6 := Nat.pow_le_pow_right (by decide) (by omega)
    have q : k.toNat ≤ 2 := by omega
    exact Nat.lt_of_le_of_lt (Nat.mul_le_mul q p) (by decide)
  have b3 : (bo.toNat &&& rm v) ||| (k.toNat <<< (2 * v)) < 2 ^ 11 := Nat.or_lt_two_pow (by omega) b2
  refine ⟨?_, b3⟩
  rw [e1, e2, ior_nn (by omega) (Nat.lt_trans b2 (by decide))]
  generalize hX : (bo.toNat &&& rm v) ||| (k.toNat <<< (2 * v)) = X at b3 ⊢
  rw [wI_id (by omega) (by omega)]
  rfl
theorem bnd_nat {bo : Int} {v : Nat} (h0 : 0 ≤ bo) (h1 : bo < 2147483648) (hv : v < 4) : bnd bo (v : Int) = if (bo.toNat >>> (2 * v)) &&& 3 = 3 then -1 else (((bo.toNat >>> (2 * v)) &&& 3 : Nat) : Int) := by
  unfold bnd
  rw [shrR h0 h1 hv]
  have l : bo.toNat >>> (2 * v) ≤ bo.toNat := by rw [Nat.shiftRight_eq_div_pow]; exact Nat.div_le_self _ _
  rw [iand_nat (Int.natCast_nonneg _) (by omega) (by decide) (by decide), Int.toNat_natCast]
  show (if (((bo.toNat >>> (2 * v)) &&& 3 : Nat) : Int) = 3 then _ else _) = _
  by_cases e : (bo.toNat >>> (2 * v)) &&& 3 = 3
  · rw [if_pos e, if_pos (by rw [e]; rfl)]
  · rw [if_neg e, if_neg (fun z => e (by omega))]; rfl
def cn (v : Nat) : Nat := if v = 3 then 0 else v + 1
theorem cv_n : ∀ v : Nat, v < 4 → cv (v : Int) = ((cn v : Nat) : Int) ∧ cn v ≤ 3 := by decide
theorem cn_inj : ∀ v : Nat, v < 4 → ∀ u : Nat, u < 4 → ¬ u = v → ¬ cn u = cn v := by decide
theorem cbd_nat {sc : Int} {v : Nat} (h0 : 0 ≤ sc) (h1 : sc < 2147483648) (hv : v < 4) : cbd sc (v : Int) = (((sc.toNat >>> (4 * cn v)) &&& 15 : Nat) : Int) := by
  unfold cbd
  obtain ⟨e1, e2⟩ := cv_n v hv
  rw [e1, shrC h0 h1 e2]
  have l : sc.toNat >>> (4 * cn v) ≤ sc.toNat := by rw [Nat.shiftRight_eq_div_pow]; exact Nat.div_le_self _ _
  rw [iand_nat (Int.natCast_nonneg _) (by omega) (by decide) (by decide), Int.toNat_natCast]
  rfl
theorem idiv256 (x : Nat) (h : x < 2304) : idiv (x : Int) 256 = ((x / 256 : Nat) : Int) := by
  rw [idiv_e (by omega) (by omega) (by decide) (by decide)]; rfl
/-- both words say the same of every variable, and of the depth -/
def ScR (sc bo : Int) : Prop := (0 ≤ sc ∧ sc < 1048576) ∧ (0 ≤ bo ∧ bo < 1280) ∧ (∀ v : Nat, v < 4 → (bnd bo (v : Int) = -1 ∧ cbd sc (v : Int) = 0) ∨ (¬ cbd sc (v : Int) = 0 ∧ 0 ≤ bnd bo (v : Int) ∧ bnd bo (v : Int) ≤ 2 ∧ iand (wI (cbd sc (v : Int) - 1)) 3 = bnd bo (v : Int))) ∧ ishr sc 16 = idiv bo 256 ∧ 0 ≤ ishr sc 16 ∧ ishr sc 16 ≤ 4
theorem ScR.start : ScR 0 255 := ⟨by decide, by decide, by decide +kernel, by decide +kernel, by decide +kernel, by decide +kernel⟩
theorem low3 : ∀ k : Nat, k < 3 → ∀ s : Nat, s < 4 → iand (wI (((1 + k + 4 * s : Nat) : Int) - 1)) 3 = (k : Int) := by decide +kernel
theorem bindC_ex {sc : Int} {v k s : Nat} (h0 : 0 ≤ sc) (h1 : sc < 1048576) (hv : v < 4) (hk : k ≤ 2) (hs : s ≤ 3) (hd : ishr sc 16 = (s : Int)) : ∃ N : Nat, bindC sc (cv (v : Int)) (k : Int) (s : Int) = (N : Int) ∧ N < 1048576 ∧ (N >>> (4 * cn v)) &&& 15 = 1 + k + 4 * s ∧ (∀ u : Nat, u < 4 → ¬ u = v → (N >>> (4 * cn u)) &&& 15 = (sc.toNat >>> (4 * cn u)) &&& 15) ∧ N / 65536 = s + 1 := by
  obtain ⟨c1, c2⟩ := cv_n v hv
  have e := bindC_nat (k := (k : Int)) (s := (s : Int)) h0 h1 c2 ⟨by omega, by omega⟩ ⟨by omega, by omega⟩ ⟨by omega, by omega⟩
  have e1 : (1 + (k : Int) + 4 * (s : Int)).toNat = 1 + k + 4 * s := by omega
  have e2 : (ishr sc 16 + 1).toNat = s + 1 := by omega
  rw [e1, e2] at e
  have hx : 1 + k + 4 * s < 16 := by omega
  have l3 : sc.toNat &&& bm (cn v) ≤ bm (cn v) := Nat.and_le_right
  have l4 : bm (cn v) ≤ 65535 := by unfold bm; omega
  have b4 : (1 + k + 4 * s) <<< (4 * cn v) < 2 ^ 20 := by
    rw [Nat.shiftLeft_eq]
    have p : (2 : Nat) ^ (4 * cn v) ≤ 2 ^ 12 := Nat.pow_le_pow_right (by decide) (by omega)
    exact Nat.lt_of_le_of_lt (Nat.mul_le_mul (show _ ≤ 15 by omega) p) (by decide)
  have b6 : (s + 1) <<< 16 < 2 ^ 20 := by
    rw [Nat.shiftLeft_eq]
    exact Nat.lt_of_le_of_lt (Nat.mul_le_mul_right _ (show _ ≤ 4 by omega)) (by decide)
  refine ⟨_, by rw [c1]; exact e, Nat.or_lt_two_pow (Nat.or_lt_two_pow (by omega) b4) b6, nb_same hx c2, fun u hu hn => nb_other hx c2 (cv_n u hu).2 (cn_inj v hv u hu hn), ?_⟩
  have d := nb_dep (S := sc.toNat) (d := s + 1) hx c2
  rw [Nat.shiftRight_eq_div_pow] at d
  exact d
theorem bindR_ex {bo : Int} {v k : Nat} (h0 : 0 ≤ bo) (h1 : bo < 2048) (hv : v < 4) (hk : k ≤ 2) : ∃ N : Nat, bindR bo (v : Int) (k : Int) = (N : Int) ∧ N < 2304 ∧ (N >>> (2 * v)) &&& 3 = k ∧ (∀ u : Nat, u < 4 → ¬ u = v → (N >>> (2 * u)) &&& 3 = (bo.toNat >>> (2 * u)) &&& 3) ∧ N / 256 = bo.toNat / 256 + 1 := by
  obtain ⟨f, fB⟩ := bindR_nat (bo := bo) (k := (k : Int)) h0 h1 hv ⟨by omega, by omega⟩
  rw [Int.toNat_natCast] at f fB
  have q : ∀ X u : Nat, u < 4 → ((X + 256) >>> (2 * u)) &&& 3 = (X >>> (2 * u)) &&& 3 := fun X u hu => by
    rw [Nat.shiftRight_eq_div_pow, Nat.shiftRight_eq_div_pow, show (3 : Nat) = 2 ^ 2 - 1 from rfl, Nat.and_two_pow_sub_one_eq_mod, Nat.and_two_pow_sub_one_eq_mod]
    have : u = 0 ∨ u = 1 ∨ u = 2 ∨ u = 3 := by omega
    rcases this with z | z | z | z <;> subst z <;> omega
  have rd := rb_dep (B := bo.toNat) (x := k) (v := v) (by omega) hv (by omega)
  rw [Nat.shiftRight_eq_div_pow, Nat.shiftRight_eq_div_pow] at rd
  refine ⟨_, f, by omega, by rw [q _ v hv]; exact rb_same (by omega) hv, fun u hu hn => by rw [q _ u hu]; exact rb_other (by omega) hv hu hn, ?_⟩
  have rd : ((bo.toNat &&& rm v) ||| (k <<< (2 * v))) / 256 = bo.toNat / 256 := rd
  generalize (bo.toNat &&& rm v) ||| (k <<< (2 * v)) = X at rd ⊢
  omega
theorem ScR.step {sc bo : Int} (h : ScR sc bo) (hd : ishr sc 16 < 4) {v k : Int} (hv : 0 ≤ v ∧ v ≤ 3) (hk : 0 ≤ k ∧ k ≤ 2) : ScR (bindC sc (cv v) k (ishr sc 16)) (bindR bo v k) := by
  obtain ⟨a1, a2, a3, a4, a5, a6⟩ := h
  obtain ⟨v, rfl⟩ := Int.eq_ofNat_of_zero_le hv.1
  obtain ⟨k, rfl⟩ := Int.eq_ofNat_of_zero_le hk.1
  obtain ⟨s, hs⟩ := Int.eq_ofNat_of_zero_le a5
  have hv4 : v < 4 := by omega
  obtain ⟨N, e, N1, N2, N3, N4⟩ := bindC_ex (v := v) (k := k) (s := s) a1.1 a1.2 hv4 (by omega) (by omega) hs
  obtain ⟨R, f, R1, R2, R3, R4⟩ := bindR_ex (bo := bo) (v := v) (k := k) a2.1 (by omega) hv4 (by omega)
  have i1 := idiv256 bo.toNat (by omega)
  rw [show ((bo.toNat : Nat) : Int) = bo by omega] at i1
  have dep : ishr (N : Int) 16 = (s : Int) + 1 := by
    have := ishr_e (x := (N : Int)) (k := 16) (by omega) (by omega) (by decide)
    rw [show ((16 : Nat) : Int) = 16 from rfl] at this
    rw [this, show ((2 : Int) ^ 16) = 65536 from rfl]
    omega
  rw [hs, e, f]
  have i2 := idiv256 R R1
  refine ⟨⟨by omega, by omega⟩, ⟨by omega, by omega⟩, ?_, by rw [dep, i2]; omega, by omega, by omega⟩
  intro u hu
  rw [cbd_nat (by omega) (by omega) hu, Int.toNat_natCast, bnd_nat (by omega) (by omega) hu, Int.toNat_natCast]
  by_cases eq : u = v
  · subst eq
    rw [N2, R2, if_neg (by omega)]
    right
    refine ⟨by omega, by omega, by omega, ?_⟩
    exact low3 k (by omega) s (by omega)
  · rw [N3 u hu eq, R3 u hu eq]
    have := a3 u hu
    rw [cbd_nat a1.1 (by omega) hu, bnd_nat a2.1 (by omega) hu] at this
    exact this
