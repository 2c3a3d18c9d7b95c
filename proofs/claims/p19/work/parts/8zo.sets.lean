section
/-! ===== sets of stories, in their order ===== -/
def pop8 (a : Nat) : Nat := (a.testBit 0).toNat + (a.testBit 1).toNat + (a.testBit 2).toNat + (a.testBit 3).toNat + (a.testBit 4).toNat + (a.testBit 5).toNat + (a.testBit 6).toNat + (a.testBit 7).toNat
def rev8 (a : Nat) : Nat := a % 2 * 128 + a / 2 % 2 * 64 + a / 4 % 2 * 32 + a / 8 % 2 * 16 + a / 16 % 2 * 8 + a / 32 % 2 * 4 + a / 64 % 2 * 2 + a / 128 % 2
def lowb (d : Nat) : Nat := d &&& (256 - d)
def key8 (a : Nat) : Nat := pop8 a * 256 + (255 - rev8 a)
/-- the one goes before the other -/
def bef (a b : Nat) : Bool := decide (pop8 a < pop8 b) || (decide (pop8 a = pop8 b) && !decide (a &&& lowb (a ^^^ b) = 0))
theorem low_i : ∀ d : Nat, d < 256 → iand (d : Int) (ineg (d : Int)) = ((lowb d : Nat) : Int) ∧ lowb d < 256 := by decide +kernel
theorem pop_b : ∀ a : Nat, a < 256 → pop8 a ≤ 8 := by decide +kernel
theorem rev_lt : ∀ a : Nat, a < 256 → rev8 a < 256 := by decide +kernel
theorem rev_inj1 : ∀ a : Nat, a < 256 → rev8 (rev8 a) = a := by decide +kernel
theorem key_inj {a b : Nat} (ha : a < 256) (hb : b < 256) (h : key8 a = key8 b) : a = b := by
  have r1 := rev_lt a ha
  have r2 := rev_lt b hb
  have : rev8 a = rev8 b := by unfold key8 at h; omega
  rw [← rev_inj1 a ha, ← rev_inj1 b hb, this]
theorem z_hl4 (z : Nat) : z = 0 ↔ (z / 2 ^ 4 = 0 ∧ z % 2 ^ 4 = 0) := by omega
theorem and_la (a l : Nat) (hl : l < 16) : (a &&& l = 0) ↔ (a % 16 &&& l = 0) := by
  rw [z_hl4 (a &&& l), Nat.and_div_two_pow, Nat.and_mod_two_pow, show l / 2 ^ 4 = 0 by omega, show l % 2 ^ 4 = l by omega, Nat.and_zero]
  exact ⟨fun h => h.2, fun h => ⟨rfl, h⟩⟩
theorem and_ha (a l : Nat) : (a &&& (16 * l) = 0) ↔ (a / 16 &&& l = 0) := by
  rw [z_hl4 (a &&& (16 * l)), Nat.and_div_two_pow, Nat.and_mod_two_pow, show 16 * l / 2 ^ 4 = l by omega, show 16 * l % 2 ^ 4 = 0 by omega, Nat.and_zero]
  exact ⟨fun h => h.1, fun h => ⟨h, rfl⟩⟩
theorem low_n : ∀ d : Nat, d < 256 → (¬ d % 16 = 0 → lowb d = lowb (d % 16)) ∧ (d % 16 = 0 → lowb d = 16 * lowb (d / 16)) ∧ (d < 16 → lowb d < 16) ∧ rev8 d = rev8 (d % 16) + rev8 (d / 16) / 16 := by decide +kernel
theorem lex4 : ∀ a : Nat, a < 16 → ∀ b : Nat, b < 16 → ((a &&& lowb (a ^^^ b) = 0) ↔ ¬ rev8 b < rev8 a) ∧ (rev8 a = rev8 b → a = b) ∧ (a ^^^ b = 0 ↔ a = b) ∧ rev8 a % 16 = 0 ∧ rev8 a < 256 := by decide +kernel
theorem lex_n {x y u v p q : Nat} (hx : x % 16 = 0) (hy : y % 16 = 0) (hu : u < 256) (hv : v < 256) (n : ¬ x = y) : (y + v / 16 < x + u / 16) ↔ y < x := by omega
theorem lex_m {x u v : Nat} (hu : u % 16 = 0) (hv : v % 16 = 0) : (x + v / 16 < x + u / 16) ↔ v < u := by omega
theorem lex8 : ∀ a : Nat, a < 256 → ∀ b : Nat, b < 256 → (!decide (a &&& lowb (a ^^^ b) = 0)) = decide (rev8 b < rev8 a) := fun a ha b hb => by
  have hd : a ^^^ b < 256 := Nat.xor_lt_two_pow (n := 8) ha hb
  obtain ⟨d1, d2, -, -⟩ := low_n (a ^^^ b) hd
  have ra := (low_n a ha).2.2.2
  have rb := (low_n b hb).2.2.2
  have em : (a ^^^ b) % 16 = a % 16 ^^^ b % 16 := Nat.xor_mod_two_pow (n := 4)
  have ed : (a ^^^ b) / 16 = a / 16 ^^^ b / 16 := Nat.xor_div_two_pow (n := 4)
  obtain ⟨m1, m2, m3, m4, m5⟩ := lex4 (a % 16) (by omega) (b % 16) (by omega)
  obtain ⟨-, -, -, k4, k5⟩ := lex4 (b % 16) (by omega) (b % 16) (by omega)
  obtain ⟨h1, h2, h3, h4, h5⟩ := lex4 (a / 16) (by omega) (b / 16) (by omega)
  obtain ⟨-, -, -, g4, g5⟩ := lex4 (b / 16) (by omega) (b / 16) (by omega)
  have main : (a &&& lowb (a ^^^ b) = 0) ↔ ¬ rev8 b < rev8 a := by
    by_cases c : (a ^^^ b) % 16 = 0
    · have e : a % 16 = b % 16 := m3.mp (em.symm.trans c)
      rw [d2 c, and_ha, ed, h1, ra, rb, e, lex_m h4 g4]
    · have ne : ¬ rev8 (a % 16) = rev8 (b % 16) := fun w => c (em.trans (m3.mpr (m2 w)))
      have l16 : lowb (a % 16 ^^^ b % 16) < 16 := (low_n _ (Nat.lt_of_lt_of_le (Nat.xor_lt_two_pow (n := 4) (show a % 16 < 2 ^ 4 by omega) (show b % 16 < 2 ^ 4 by omega)) (by decide))).2.2.1 (Nat.xor_lt_two_pow (n := 4) (show a % 16 < 2 ^ 4 by omega) (show b % 16 < 2 ^ 4 by omega))
      rw [d1 c, em, and_la _ _ l16, m1, ra, rb, lex_n (p := 0) (q := 0) m4 k4 h5 g5 ne]
  by_cases c : rev8 b < rev8 a
  · rw [decide_eq_true c, decide_eq_false (fun w => main.mp w c)]; rfl
  · rw [decide_eq_false c, decide_eq_true (main.mpr c)]; rfl
theorem bef_key {a b : Nat} (ha : a < 256) (hb : b < 256) : bef a b = decide (key8 a < key8 b) := by
  unfold bef
  rw [lex8 a ha b hb]
  have r1 := rev_lt a ha
  have r2 := rev_lt b hb
  have p1 := pop_b a ha
  have p2 := pop_b b hb
  unfold key8
  by_cases c1 : pop8 a < pop8 b
  · rw [decide_eq_true c1, decide_eq_true (show pop8 a * 256 + (255 - rev8 a) < pop8 b * 256 + (255 - rev8 b) by omega)]; rfl
  · by_cases c2 : pop8 a = pop8 b
    · rw [decide_eq_false c1, decide_eq_true c2, Bool.false_or, Bool.true_and]
      by_cases c3 : rev8 b < rev8 a
      · rw [decide_eq_true c3, decide_eq_true (show pop8 a * 256 + (255 - rev8 a) < pop8 b * 256 + (255 - rev8 b) by omega)]
      · rw [decide_eq_false c3, decide_eq_false (show ¬ pop8 a * 256 + (255 - rev8 a) < pop8 b * 256 + (255 - rev8 b) by omega)]
    · rw [decide_eq_false c1, decide_eq_false c2, decide_eq_false (show ¬ pop8 a * 256 + (255 - rev8 a) < pop8 b * 256 + (255 - rev8 b) by omega)]; rfl
theorem iand_assoc (x y z : Int) : iand (iand x y) z = iand x (iand y z) := by
  unfold iand
  rw [Int32.ofInt_toInt, Int32.ofInt_toInt, Int32.and_assoc]
theorem iand_c (a b : Nat) (ha : a < 2147483648) (hb : b < 2147483648) : iand (a : Int) (b : Int) = ((a &&& b : Nat) : Int) := by
  rw [iand_nat (by omega) (by omega) (by omega) (by omega), Int.toNat_natCast, Int.toNat_natCast]
theorem and_c0 (a b : Nat) (ha : a < 2147483648) (hb : b < 2147483648) : (iand (a : Int) (b : Int) = 0) ↔ (a &&& b = 0) := by
  rw [iand_c a b ha hb]
  omega
/-- no story that the other has not -/
theorem sub_i {a b : Nat} (ha : a < 256) (hb : b < 256) : (iand (a : Int) (ixor (b : Int) (-1)) = 0) ↔ (∀ s : Nat, a.testBit s = true → b.testBit s = true) := by
  rw [iand_clr (by omega) (by omega)]
  have e : (((a &&& (4095 ^^^ b) : Nat) : Int) = 0) ↔ (a &&& (4095 ^^^ b) = 0) := by omega
  rw [e]
  have tb : ∀ s : Nat, (a &&& (4095 ^^^ b)).testBit s = (a.testBit s && (decide (s < 12) ^^ b.testBit s)) := fun s => by
    rw [Nat.testBit_and, Nat.testBit_xor, show (4095 : Nat) = 2 ^ 12 - 1 from rfl, Nat.testBit_two_pow_sub_one]
  constructor
  · intro h s hs
    have h2 := tb s
    rw [h, Nat.zero_testBit, hs, Bool.true_and] at h2
    have s12 : s < 12 := by
      apply Classical.byContradiction
      intro h3
      have := Nat.testBit_lt_two_pow (Nat.lt_of_lt_of_le ha (Nat.pow_le_pow_right (n := 2) (by decide) (show 8 ≤ s by omega)))
      rw [hs] at this
      cases this
    rw [decide_eq_true s12] at h2
    cases z : b.testBit s with
    | true => rfl
    | false => rw [z] at h2; cases h2
  · intro h
    refine Nat.eq_of_testBit_eq (fun s => ?_)
    rw [tb, Nat.zero_testBit]
    cases z : a.testBit s with
    | false => rfl
    | true =>
      have hb2 := h s z
      have s12 : s < 12 := by
        apply Classical.byContradiction
        intro h3
        have := Nat.testBit_lt_two_pow (Nat.lt_of_lt_of_le ha (Nat.pow_le_pow_right (n := 2) (by decide) (show 8 ≤ s by omega)))
        rw [z] at this
        cases this
      rw [hb2, decide_eq_true s12]; rfl
section
variable {M : Mem}
def bcI (x : Int) : Int :=
  let b9 := wI (x - iand (iushr x 1) 1431655765)
  let b23 := wI (iand b9 858993459 + iand (iushr b9 2) 858993459)
  let b33 := iand (wI (b23 + iushr b23 4)) 252645135
  let b40 := wI (b33 + iushr b33 8)
  let b47 := wI (b40 + iushr b40 16)
  iand b47 63
theorem bc_256 : ∀ a : Nat, a < 256 → bcI (a : Int) = ((pop8 a : Nat) : Int) := by decide +kernel
theorem q_bc {a : Nat} (ha : a < 256) : pw (mJ6_bitCount_0f7a4 (a : Int) M) (fun q => q.2 = M ∧ q.1 = ((pop8 a : Nat) : Int)) := by
  have h := bc_256 a ha
  unfold bcI at h
  unfold mJ6_bitCount_0f7a4
  refine p_some (fun b9 h9 => p_some (fun b23 h23 => p_some (fun b33 h33 => p_some (fun b40 h40 => p_some (fun b47 h47 => p_ret ⟨rfl, ?_⟩)))))
  subst h9; subst h23; subst h33; subst h40; subst h47
  exact h
theorem q_isBefore {a b : Nat} (ha : a < 256) (hb : b < 256) : pw (mX4_isBefore (a : Int) (b : Int) M) (fun q => q.2 = M ∧ q.1 = b2i (bef a b)) := by
  have p1 := pop_b a ha
  have p2 := pop_b b hb
  have x8 : a ^^^ b < 256 := Nat.xor_lt_two_pow (n := 8) ha hb
  obtain ⟨l1, l2⟩ := low_i (a ^^^ b) x8
  unfold mX4_isBefore
  refine p_call (q_bc ha) (fun v m y => ?_)
  obtain ⟨y1, y2⟩ := y
  replace y1 : m = M := y1
  replace y2 : v = ((pop8 a : Nat) : Int) := y2
  subst y1; subst y2
  refine p_call (q_bc hb) (fun v m2 y => ?_)
  obtain ⟨y1, y2⟩ := y
  replace y1 : m2 = m := y1
  replace y2 : v = ((pop8 b : Nat) : Int) := y2
  subst y1; subst y2
  refine p_some (fun z hz => ?_)
  rw [ixor_nn (by omega) (by omega), l1] at hz
  subst hz
  rw [wI_id (x := ((pop8 a : Nat) : Int) - ((pop8 b : Nat) : Int)) (by omega) (by omega)]
  unfold mX4_isBefore_35
  unfold bef
  refine p_if (fun c => p_ret ⟨rfl, ?_⟩) (fun c => p_if (fun c2 => p_if (fun c3 => p_ret ⟨rfl, ?_⟩) (fun c3 => p_ret ⟨rfl, ?_⟩)) (fun c2 => p_ret ⟨rfl, ?_⟩))
  · rw [decide_eq_true (show pop8 a < pop8 b by omega)]; rfl
  · rw [decide_eq_false (show ¬ pop8 a < pop8 b by omega), decide_eq_true (show pop8 a = pop8 b by omega), decide_eq_true ((and_c0 a _ (by omega) (by omega)).mp c3)]; rfl
  · rw [decide_eq_false (show ¬ pop8 a < pop8 b by omega), decide_eq_true (show pop8 a = pop8 b by omega), decide_eq_false (fun e => c3 ((and_c0 a _ (by omega) (by omega)).mpr e))]; rfl
  · rw [decide_eq_false (show ¬ pop8 a < pop8 b by omega), decide_eq_false (show ¬ pop8 a = pop8 b by omega)]; rfl
theorem w_isLessRow {a b : Nat} (ha : a < 256) (hb : b < 256) : pw (mX9_isLessRow (a : Int) (b : Int) M) (fun q => q.2 = M ∧ q.1 = b2i (!decide (a &&& lowb (a ^^^ b) = 0))) := by
  have x8 : a ^^^ b < 256 := Nat.xor_lt_two_pow (n := 8) ha hb
  obtain ⟨l1, l2⟩ := low_i (a ^^^ b) x8
  unfold mX9_isLessRow
  rw [ixor_nn (by omega) (by omega), iand_assoc, l1]
  refine p_if (fun c3 => p_ret ⟨rfl, ?_⟩) (fun c3 => p_ret ⟨rfl, ?_⟩)
  · rw [decide_eq_true ((and_c0 a _ (by omega) (by omega)).mp c3)]; rfl
  · rw [decide_eq_false (fun e => c3 ((and_c0 a _ (by omega) (by omega)).mpr e))]; rfl
end
/-! the k-th of them -/
def nbt (T : Nat) (k : Int) : Nat → Int
  | 0 => -1
  | d + 1 => if T.testBit (7 - d) = true then (if k = ((ctn (fun s => T.testBit s) (7 - d) : Nat) : Int) then ((7 - d : Nat) : Int) else nbt T k d) else nbt T k d
theorem wI_sub1 (x : Int) : wI (wI x + (-1)) = wI (x - 1) := by
  unfold wI
  omega
theorem wI_z {k : Int} {c : Nat} (hk : (-2147483648) ≤ k ∧ k ≤ 2147483647) (hc : c ≤ 8) : (wI (k - (c : Int)) = 0) ↔ k = (c : Int) := by
  constructor
  · intro h
    by_cases z : -2147483648 ≤ k - (c : Int)
    · rw [wI_id z (by omega)] at h
      omega
    · exfalso
      have e : wI (k - (c : Int)) = k - (c : Int) + 4294967296 := by
        unfold wI
        omega
      omega
  · intro h
    rw [h, Int.sub_self]
    exact wI_id (by decide) (by decide)
section
variable {M : Mem}
theorem q_nthBit {T : Nat} {k : Int} (hT : T < 256) (hk : (-2147483648) ≤ k ∧ k ≤ 2147483647) : pw (mX8_nthBit (T : Int) k M) (fun q => q.2 = M ∧ q.1 = nbt T k 8) := by
  have loop : ∀ (fu d : Nat), d ≤ 8 → pw (mX8_nthBit_4 fu (T : Int) (wI (k - ((ctn (fun s => T.testBit s) (8 - d) : Nat) : Int))) ((8 - d : Nat) : Int) M) (fun q => q.2 = M ∧ q.1 = nbt T k d) := by
    intro fu
    induction fu with
    | zero => intro d _; exact p_none
    | succ fu ih =>
      intro d hd
      show pw (bX8_nthBit_4 (mX8_nthBit_4 fu) (T : Int) _ ((8 - d : Nat) : Int) M) _
      unfold bX8_nthBit_4
      cases d with
      | zero => exact p_it1 (by omega) (p_ret ⟨rfl, rfl⟩)
      | succ d =>
        have cl := ctn_le (fun s => T.testBit s) (7 - d)
        have e8 : 8 - (d + 1) = 7 - d := by omega
        rw [e8]
        have i := ih d (by omega)
        rw [show 8 - d = 7 - d + 1 by omega, ctn_s] at i
        refine p_it0 (by omega) (p_if (fun c => ?_) (fun c => p_if (fun c2 => p_ret ⟨rfl, ?_⟩) (fun c2 => ?_)))
        · have f := (ibit (x := T) (k := 7 - d) (by omega) (by omega)).mp c
          unfold mX8_nthBit_27
          rw [wI_s (p := 7 - d) (by omega)]
          rw [f] at i
          refine p_mono i (fun q y => ⟨y.1, y.2.trans ?_⟩)
          show _ = (if T.testBit (7 - d) = true then _ else nbt T k d)
          rw [f, if_neg (by decide)]
        all_goals
          have f : T.testBit (7 - d) = true := by
            cases e : T.testBit (7 - d) with
            | true => rfl
            | false => exact absurd ((ibit (x := T) (k := 7 - d) (by omega) (by omega)).mpr e) c
        · show ((7 - d : Nat) : Int) = (if T.testBit (7 - d) = true then (if k = ((ctn (fun s => T.testBit s) (7 - d) : Nat) : Int) then ((7 - d : Nat) : Int) else nbt T k d) else nbt T k d)
          rw [if_pos f, if_pos ((wI_z hk (by omega)).mp c2)]
        · unfold mX8_nthBit_27
          rw [wI_s (p := 7 - d) (by omega), wI_sub1]
          rw [f] at i
          have e : k - ((ctn (fun s => T.testBit s) (7 - d) : Nat) : Int) - 1 = k - ((ctn (fun s => T.testBit s) (7 - d) + true.toNat : Nat) : Int) := by
            rw [Bool.toNat_true]; omega
          rw [e]
          refine p_mono i (fun q y => ⟨y.1, y.2.trans ?_⟩)
          show _ = (if T.testBit (7 - d) = true then (if k = ((ctn (fun s => T.testBit s) (7 - d) : Nat) : Int) then ((7 - d : Nat) : Int) else nbt T k d) else nbt T k d)
          rw [if_pos f, if_neg (fun w => c2 ((wI_z hk (by omega)).mpr w))]
  unfold mX8_nthBit
  have := loop FU 8 (Nat.le_refl _)
  rw [show 8 - 8 = 0 from rfl] at this
  have e : wI (k - ((ctn (fun s => T.testBit s) 0 : Nat) : Int)) = k := by
    show wI (k - ((0 : Nat) : Int)) = k
    rw [show k - ((0 : Nat) : Int) = k by omega]
    exact wI_id hk.1 (by omega)
  rw [e] at this
  exact this
theorem w_numberIn {T : Nat} {k : Int} (hT : T < 256) : pw (mX9_numberIn (T : Int) k M) (fun q => q.2 = M ∧ q.1 = nbt T k 8) := by
  have loop : ∀ (fu d : Nat), d ≤ 8 → pw (mX9_numberIn_4 fu (T : Int) k ((ctn (fun s => T.testBit s) (8 - d) : Nat) : Int) ((8 - d : Nat) : Int) M) (fun q => q.2 = M ∧ q.1 = nbt T k d) := by
    intro fu
    induction fu with
    | zero => intro d _; exact p_none
    | succ fu ih =>
      intro d hd
      show pw (bX9_numberIn_4 (mX9_numberIn_4 fu) (T : Int) k _ ((8 - d : Nat) : Int) M) _
      unfold bX9_numberIn_4
      cases d with
      | zero => exact p_it1 (by omega) (p_ret ⟨rfl, rfl⟩)
      | succ d =>
        have cl := ctn_le (fun s => T.testBit s) (7 - d)
        have e8 : 8 - (d + 1) = 7 - d := by omega
        rw [e8]
        have i := ih d (by omega)
        rw [show 8 - d = 7 - d + 1 by omega, ctn_s] at i
        refine p_it0 (by omega) (p_it0 (by omega) (p_if (fun c => ?_) (fun c => p_if (fun c2 => p_ret ⟨rfl, ?_⟩) (fun c2 => ?_))))
        · have f := (ibit (x := T) (k := 7 - d) (by omega) (by omega)).mp c
          unfold mX9_numberIn_33
          rw [wI_s (p := 7 - d) (by omega)]
          rw [f] at i
          refine p_mono i (fun q y => ⟨y.1, y.2.trans ?_⟩)
          show _ = (if T.testBit (7 - d) = true then _ else nbt T k d)
          rw [f, if_neg (by decide)]
        all_goals
          have f : T.testBit (7 - d) = true := by
            cases e : T.testBit (7 - d) with
            | true => rfl
            | false => exact absurd ((ibit (x := T) (k := 7 - d) (by omega) (by omega)).mpr e) c
        · show ((7 - d : Nat) : Int) = (if T.testBit (7 - d) = true then (if k = ((ctn (fun s => T.testBit s) (7 - d) : Nat) : Int) then ((7 - d : Nat) : Int) else nbt T k d) else nbt T k d)
          rw [if_pos f, if_pos c2.symm]
        · unfold mX9_numberIn_33
          rw [wI_s (p := 7 - d) (by omega), wI_s (p := ctn (fun s => T.testBit s) (7 - d)) (by omega)]
          rw [f, Bool.toNat_true] at i
          refine p_mono i (fun q y => ⟨y.1, y.2.trans ?_⟩)
          show _ = (if T.testBit (7 - d) = true then (if k = ((ctn (fun s => T.testBit s) (7 - d) : Nat) : Int) then ((7 - d : Nat) : Int) else nbt T k d) else nbt T k d)
          rw [if_pos f, if_neg (fun w => c2 w.symm)]
  exact loop FU 8 (Nat.le_refl _)
theorem w_numberN {k : Int} : pw (mX9_numberIn (-1) k M) (fun q => q.2 = M ∧ q.1 = -1) := by
  unfold mX9_numberIn
  show pw (mX9_numberIn_4 (69999 + 1) _ _ _ _ M) _
  show pw (bX9_numberIn_4 (mX9_numberIn_4 69999) (-1) k 0 0 M) _
  unfold bX9_numberIn_4
  exact p_it0 (by decide) (p_it1 rfl (p_ret ⟨rfl, rfl⟩))
end
end
section
/-! ===== the fewest stories that leave nothing, on both sides ===== -/
/-- the worlds of f in which the stories of T are so -/
def wth (S : SH) (P : Nat → List Row) (f : Nat → Bool) (T w : Nat) : Bool := f w && allb (stw S P T w) 8
/-- T leaves nothing -/
def LN (S : SH) (P : Nat → List Row) (n : Nat) (f : Nat → Bool) (T : Nat) : Prop := ∀ w, w < 2 ^ n → wth S P f T w = false
def subs (a b : Nat) : Prop := ∀ s : Nat, a.testBit s = true → b.testBit s = true
/-- X is the first of those that leave nothing -/
def FST (S : SH) (P : Nat → List Row) (n vw : Nat) (f : Nat → Bool) (X : Nat) : Prop := (X < 256 ∧ subs X vw ∧ LN S P n f X) ∧ ∀ T, T < 256 → subs T vw → LN S P n f T → ¬ key8 T < key8 X
theorem FST.uniq {S : SH} {P : Nat → List Row} {n vw : Nat} {f : Nat → Bool} {X Y : Nat} (h : FST S P n vw f X) (k : FST S P n vw f Y) : X = Y := by
  have h1 := h.2 Y k.1.1 k.1.2.1 k.1.2.2
  have h2 := k.2 X h.1.1 h.1.2.1 h.1.2.2
  exact key_inj h.1.1 k.1.1 (by omega)
theorem LN.mono {S : SH} {P : Nat → List Row} {n : Nat} {f : Nat → Bool} {T U : Nat} (h : LN S P n f T) (hs : subs T U) : LN S P n f U := fun w hw => by
  have h7 := h w hw
  unfold wth at h7 ⊢
  cases e : f w with
  | false => rfl
  | true =>
    rw [e, Bool.true_and] at h7
    rw [Bool.true_and]
    cases e2 : allb (stw S P U w) 8 with
    | false => rfl
    | true =>
      have a := (allb_t 8).mp e2
      have h9 : allb (stw S P T w) 8 = true := (allb_t 8).mpr (fun s hs8 => by
        have := a s hs8
        unfold stw at this ⊢
        cases e3 : T.testBit s with
        | false => rfl
        | true => rw [hs s e3] at this; exact this)
      rw [h9] at h7
      cases h7
section
variable {S : SH} {P : Nat → List Row} {M : Mem}
/-- the truths of the stories of vw -/
def TRS (S : SH) (P : Nat → List Row) (n : Int) (vw : Nat) (M : Mem) : Prop := ∀ s : Nat, s < 8 → vw.testBit s = true → WS (47 + 2 * (s : Int)) n (TMw S (P s)) M
theorem q_leavesNothing {l : Int} {n T vw : Nat} {f : Nat → Bool} (n12 : n ≤ 12) (hf : ∀ w, ¬ w < 2 ^ n → f w = false) (k2 : K2 M) (ws : WS l (n : Int) f M) (tr : TRS S P (n : Int) vw M) (hT : T < 256) (hs : subs T vw) : pw (mX4_leavesNothing 2 l (T : Int) M) (fun q => q.2 = M ∧ ((LN S P n f T ∧ q.1 = 1) ∨ (¬ LN S P n f T ∧ q.1 = 0))) := by
  have ub := uw_b (n := (n : Int)) ⟨by omega, by omega⟩
  obtain ⟨Q, hQ⟩ : ∃ Q : Int × Mem → Prop, Q = fun q => q.2 = M ∧ ((LN S P n f T ∧ q.1 = 1) ∨ (¬ LN S P n f T ∧ q.1 = 0)) := ⟨_, rfl⟩
  rw [← hQ]
  have l2 : ∀ (fu a : Nat), a ≤ uw (n : Int) → (∀ w, w < 64 * a → wth S P f T w = false) → pw (mX4_leavesNothing_2 fu 2 l (T : Int) (a : Int) M) Q := by
    intro fu
    induction fu with
    | zero => intro a _ _; exact p_none
    | succ fu ih =>
      intro a ha hz
      show pw (bX4_leavesNothing_2 (mX4_leavesNothing_2 fu) 2 l (T : Int) (a : Int) M) _
      unfold bX4_leavesNothing_2
      refine p_gK (p_call (P := fun q => q.2 = M ∧ q.1 = ((uw (n : Int) : Nat) : Int)) ?_ (fun r m y => ?_))
      · unfold mX7_usedWords
        exact p_gFc (ji := 1) rfl ws.1.2.1 (p_ret ⟨rfl, rfl⟩)
      obtain ⟨y1, y2⟩ := y
      replace y1 : m = M := y1
      replace y2 : r = ((uw (n : Int) : Nat) : Int) := y2
      subst y1
      refine p_if (fun c => p_ret ?_) (fun c => ?_)
      · rw [hQ]
        refine ⟨rfl, Or.inl ⟨fun w hw => hz w ?_, rfl⟩⟩
        have c : r ≤ (a : Int) := c
        have p := ub.2.2.1
        rw [Int.toNat_natCast] at p
        omega
      · have c : ¬ r ≤ (a : Int) := c
        have a1 : a < uw (n : Int) := by omega
        obtain ⟨v1, v2⟩ := ws.2 a a1
        refine p_gFc (ji := 0) rfl ws.1.1 (p_aG (fun x hx => ?_))
        rw [hx] at v1 v2
        have l21 : ∀ (fu2 s : Nat) (v : Int), s ≤ 8 → InLL v → (∀ b : Nat, b < 64 → lb v b = (f (64 * a + b) && allb (stw S P T (64 * a + b)) s)) → pw (mX4_leavesNothing_21 (mX4_leavesNothing_2 fu) fu2 2 l (T : Int) (a : Int) v (s : Int) m) Q := by
          intro fu2
          induction fu2 with
          | zero => intro s v _ _ _; exact p_none
          | succ fu2 ih2 =>
            intro s v hs8 hv1 hv2
            show pw (bX4_leavesNothing_21 (mX4_leavesNothing_2 fu) (mX4_leavesNothing_21 (mX4_leavesNothing_2 fu) fu2) 2 l (T : Int) (a : Int) v (s : Int) m) _
            unfold bX4_leavesNothing_21
            refine p_if (fun d => ?_) (fun d => ?_)
            · have e8 : s = 8 := by omega
              subst e8
              refine p_if (fun z => ?_) (fun z => p_ret ?_)
              · rw [wI_s (p := a) (by omega)]
                have z := (l_zero hv1).mp ((lcmp_0 _ _).mp z)
                refine ih (a + 1) (by omega) (fun w hw => ?_)
                by_cases c2 : w < 64 * a
                · exact hz w c2
                · have := hv2 (w - 64 * a) (by omega)
                  rw [z _ (by omega), show 64 * a + (w - 64 * a) = w by omega] at this
                  exact this.symm
              · rw [hQ]
                refine ⟨rfl, Or.inr ⟨fun ln => z ((lcmp_0 _ _).mpr ((l_zero hv1).mpr (fun b hb => ?_))), rfl⟩⟩
                rw [hv2 b hb]
                by_cases c2 : 64 * a + b < 2 ^ n
                · exact ln _ c2
                · rw [hf _ c2]; rfl
            · have go : ∀ v2 : Int, InLL v2 → (∀ b : Nat, b < 64 → lb v2 b = (f (64 * a + b) && allb (stw S P T (64 * a + b)) (s + 1))) → pw (mX4_leavesNothing_54 (mX4_leavesNothing_2 fu) (mX4_leavesNothing_21 (mX4_leavesNothing_2 fu) fu2) 2 l (T : Int) (a : Int) v2 (s : Int) m) Q := fun v2 h1 h2 => by
                unfold mX4_leavesNothing_54
                rw [wI_s (p := s) (by omega)]
                exact ih2 (s + 1) v2 (by omega) h1 h2
              refine p_if (fun c2 => go v hv1 (fun b hb => ?_)) (fun c2 => ?_)
              · have t := (ibit (x := T) (k := s) (by omega) (by omega)).mp c2
                rw [hv2 b hb]
                show (_ && allb _ s) = (_ && (allb _ s && stw S P T (64 * a + b) s))
                have : stw S P T (64 * a + b) s = true := by unfold stw; rw [t]; rfl
                rw [this, Bool.and_true]
              · have t : T.testBit s = true := by
                  cases e : T.testBit s with
                  | true => rfl
                  | false => exact absurd ((ibit (x := T) (k := s) (by omega) (by omega)).mpr e) c2
                have wt := tr s (by omega) (hs s t)
                obtain ⟨u1, u2⟩ := wt.2 a a1
                refine p_gFc (ji := 3) rfl k2.c2_3 (p_aGc (k2.ws (s := s) (by omega)).1 (p_gFc (ji := 0) rfl wt.1.1 (p_aG (fun y hy => go _ (land_L _ _) (fun b hb => ?_)))))
                rw [hy] at u2
                rw [lb_and, hv2 b hb, u2 b hb]
                show ((_ && allb _ s) && _) = (_ && (allb _ s && stw S P T (64 * a + b) s))
                have : stw S P T (64 * a + b) s = TMw S (P s) (64 * a + b) := by unfold stw; rw [t]; rfl
                rw [this, Bool.and_assoc]
        refine l21 FU 0 x (Nat.zero_le _) v1 (fun b hb => ?_)
        rw [v2 b hb]
        show _ = (_ && true)
        rw [Bool.and_true]
  exact l2 FU 0 (Nat.zero_le _) (fun w hw => absurd hw (by omega))
theorem q_fewest {l : Int} {n vw : Nat} {f : Nat → Bool} (n12 : n ≤ 12) (hf : ∀ w, ¬ w < 2 ^ n → f w = false) (k2 : K2 M) (h11 : 0 ≤ mG M 3 11 ∧ mG M 3 11 ≤ 8) (hv : vwb M = vw) (v8 : vw < 256) (ws : WS l (n : Int) f M) (tr : TRS S P (n : Int) vw M) (hl : LN S P n f vw) : pw (mX4_fewestAgainst 2 l M) (fun q => q.2 = M ∧ ∃ X : Nat, q.1 = (X : Int) ∧ FST S P n vw f X) := by
  obtain ⟨Q, hQ⟩ : ∃ Q : Int × Mem → Prop, Q = fun q => q.2 = M ∧ ∃ X : Nat, q.1 = (X : Int) ∧ FST S P n vw f X := ⟨_, rfl⟩
  rw [← hQ]
  have loop : ∀ (fu T X : Nat), T ≤ 256 → X < 256 → subs X vw → LN S P n f X → (∀ U, U < T → subs U vw → LN S P n f U → ¬ key8 U < key8 X) → pw (mX4_fewestAgainst_13 fu 2 l (vw : Int) (X : Int) (T : Int) M) Q := by
    intro fu
    induction fu with
    | zero => intro T X _ _ _ _ _; exact p_none
    | succ fu ih =>
      intro T X hT hX xs xl hm
      show pw (bX4_fewestAgainst_13 (mX4_fewestAgainst_13 fu) 2 l (vw : Int) (X : Int) (T : Int) M) _
      unfold bX4_fewestAgainst_13
      refine p_if (fun c => p_ret ?_) (fun c => ?_)
      · rw [hQ]
        exact ⟨rfl, X, rfl, ⟨hX, xs, xl⟩, fun U hU => hm U (by omega)⟩
      have T8 : T < 256 := by omega
      have stay : (subs T vw → LN S P n f T → ¬ key8 T < key8 X) → pw (mX4_fewestAgainst_64 (mX4_fewestAgainst_13 fu) 2 l (vw : Int) (X : Int) (T : Int) M) Q := fun h => by
        unfold mX4_fewestAgainst_64
        rw [wI_s (p := T) (by omega)]
        refine ih (T + 1) X (by omega) hX xs xl (fun U hU us ul => ?_)
        by_cases e : U = T
        · rw [e] at us ul ⊢
          exact h us ul
        · exact hm U (by omega) us ul
      refine p_if (fun c2 => ?_) (fun c2 => ?_)
      · have ts : subs T vw := (sub_i T8 v8).mp c2
        refine p_call (q_isBefore T8 hX) (fun v m y => ?_)
        obtain ⟨y1, y2⟩ := y
        replace y1 : m = M := y1
        replace y2 : v = b2i (bef T X) := y2
        subst y1
        rw [bef_key T8 hX] at y2
        refine p_if (fun c3 => ?_) (fun c3 => ?_)
        · have c3 : v = 0 := c3
          have := b2i_0.mp (y2.symm.trans c3)
          have nk := of_decide_eq_false this
          unfold mX4_fewestAgainst_43 mX4_fewestAgainst_44
          exact p_it1 rfl (stay (fun _ _ => nk))
        · have c3 : ¬ v = 0 := c3
          have bk : key8 T < key8 X := by
            apply Classical.byContradiction
            intro h
            rw [decide_eq_false h] at y2
            exact c3 y2
          unfold mX4_fewestAgainst_44
          refine p_it0 z_1 (p_gK (p_call (q_leavesNothing n12 hf k2 ws tr T8 ts) (fun r m2 y => ?_)))
          obtain ⟨y3, y4⟩ := y
          replace y3 : m2 = m := y3
          subst y3
          rcases y4 with ⟨ln, e⟩ | ⟨ln, e⟩
          · replace e : r = 1 := e
            refine p_it0 (show ¬ r = 0 by omega) ?_
            unfold mX4_fewestAgainst_64
            rw [wI_s (p := T) (by omega)]
            refine ih (T + 1) T (by omega) T8 ts ln (fun U hU us ul => ?_)
            by_cases e : U = T
            · rw [e]; omega
            · have := hm U (by omega) us ul
              omega
          · exact p_it1 e (stay (fun _ w => absurd w ln))
      · unfold mX4_fewestAgainst_43 mX4_fewestAgainst_44
        exact p_it1 rfl (stay (fun w => absurd ((sub_i T8 v8).mpr w) c2))
  unfold mX4_fewestAgainst
  refine p_gFc (ji := 0) rfl k2.c2_0 (p_gK (p_call (q_viewed k2 h11) (fun v m y => ?_)))
  obtain ⟨y1, y2⟩ := y
  replace y1 : m = M := y1
  replace y2 : v = ((vwb M : Nat) : Int) := y2
  subst y1
  rw [hv] at y2
  subst y2
  exact loop FU 0 vw (by omega) v8 (fun _ h => h) hl (fun U hU => absurd hU (by omega))
end
end
section
/-! ===== the reference: which stories are so together ===== -/
theorem pop8_c (a : Nat) : ctn (fun s => a.testBit s) 8 = pop8 a := by
  unfold pop8
  show 0 + (a.testBit 0).toNat + (a.testBit 1).toNat + (a.testBit 2).toNat + (a.testBit 3).toNat + (a.testBit 4).toNat + (a.testBit 5).toNat + (a.testBit 6).toNat + (a.testBit 7).toNat = _
  omega
/-- the stories that are so in a world -/
def sof (S : SH) (P : Nat → List Row) (vw w : Nat) : Nat → Nat := bitsOf (fun s => vw.testBit s && TMw S (P s) w)
/-- a world that is asked for -/
def frw (n : Nat) (F : Int → Int) (g : Int) (as : Bool) (w : Nat) : Bool := allb (okp (n : Int) F w) n && (decide (g = -1) || !(phw (n : Int) w g == as))
section
variable {S : SH} {P : Nat → List Row} {M : Mem}
theorem v_asKnown {n w : Nat} {F : Int → Int} (hF : ∀ p, F p = -1 ∨ F p = 0 ∨ F p = 1) (n12 : n ≤ 12) (hw : w < 2 ^ n) (e49 : mG M 126 49 = ((kbs F n : Nat) : Int)) (e50 : mG M 126 50 = ((kss F n : Nat) : Int)) : pw (mX9_isAsKnown 126 (w : Int) M) (fun q => q.2 = M ∧ q.1 = b2i (allb (okp (n : Int) F w) n)) := by
  have p12 : 2 ^ n ≤ 2 ^ 12 := Nat.pow_le_pow_right (n := 2) (by decide) n12
  have ak := as_known (n := n) (w := w) hF
  have l1 := kb_lt F n
  unfold mX9_isAsKnown
  refine p_gFc (ji := 49) rfl e49 (p_gFc (ji := 50) rfl e50 ?_)
  rw [iand_nat (by omega) (by omega) (by omega) (by omega), Int.toNat_natCast, Int.toNat_natCast]
  refine p_if (fun c => p_ret ⟨rfl, ?_⟩) (fun c => p_ret ⟨rfl, ?_⟩)
  · rw [ak.mp (by omega)]; rfl
  · cases e : allb (okp (n : Int) F w) n with
    | false => rfl
    | true => exact absurd (congrArg (fun x : Nat => (x : Int)) (ak.mpr e)) c
/-- what changes while it is found what is together -/
def FT9 (M M' : Mem) : Prop := ∀ c j : Int, ¬ (c = 126 ∧ j = 46) → ¬ c = 154 → ¬ c = 160 → ¬ c = 161 → ¬ c = 163 → mG M' c j = mG M c j
theorem FT9.tr {M M' M'' : Mem} (h : FT9 M M') (k : FT9 M' M'') : FT9 M M'' := fun c j x y z w u => (k c j x y z w u).trans (h c j x y z w u)
theorem FI.ft {M M' : Mem} (h : FI M M') : FT9 M M' := fun c j x y z w _ => h c j x y z w
/-- what stands meanwhile -/
def RTg (S : SH) (P : Nat → List Row) (K : Int) (F : Int → Int) (n : Nat) (M : Mem) : Prop := (K9 M ∧ RSH S M) ∧ (mG M 138 0 = K ∧ mG M 126 49 = ((kbs F n : Nat) : Int) ∧ mG M 126 50 = ((kss F n : Nat) : Int)) ∧ RTP S P K M
theorem RTg.ft {K : Int} {n : Nat} {F : Int → Int} {M' : Mem} (h : RTg S P K F n M) (k : FT9 M M') : RTg S P K F n M' := by
  obtain ⟨⟨ka, kb⟩, ⟨kc, ke, kf⟩, kg⟩ := h
  have g6 : ∀ c j : Int, ¬ c = 126 → ¬ c = 154 → ¬ c = 160 → ¬ c = 161 → ¬ c = 163 → mG M' c j = mG M c j := fun c j a b d e f => k c j (fun y => a y.1) b d e f
  have g5 : ∀ j : Int, ¬ j = 46 → mG M' 126 j = mG M 126 j := fun j hj => k 126 j (fun y => hj y.2) (by decide) (by decide) (by decide) (by decide)
  exact ⟨⟨ka.kp (fun j hj => g5 j (by omega)), kb.kp (fun c j hc => g6 c j (by omega) (by omega) (by omega) (by omega) (by omega))⟩, ⟨(g6 138 0 (by decide) (by decide) (by decide) (by decide) (by decide)).trans kc, (g5 49 (by decide)).trans ke, (g5 50 (by decide)).trans kf⟩, fun s hs => ⟨⟨(g6 141 _ (by decide) (by decide) (by decide) (by decide) (by decide)).trans (kg s hs).1.1, fun i r hr => ((kg s hs).1.2 i r hr).kp (fun c c0 c1 => g6 c _ (by omega) (by omega) (by omega) (by omega) (by omega))⟩, (kg s hs).2⟩⟩
/-- the sets that are together, by the worlds below w -/
def TGS (fr : Nat → Bool) (so : Nat → Nat) (w : Nat) (m : Mem) : Prop := ∀ t : Nat, t < 256 → (mG m 163 (t : Int) = 0 ∧ ¬ ∃ u, u < w ∧ fr u = true ∧ so u = t) ∨ (mG m 163 (t : Int) = 1 ∧ ∃ u, u < w ∧ fr u = true ∧ so u = t)
theorem TGS.skip {fr : Nat → Bool} {so : Nat → Nat} {w : Nat} {m m' : Mem} (h : TGS fr so w m) (hf : fr w = false) (g : ∀ j, mG m' 163 j = mG m 163 j) : TGS fr so (w + 1) m' := fun t ht => by
  rw [g]
  have up : (∃ u, u < w + 1 ∧ fr u = true ∧ so u = t) ↔ ∃ u, u < w ∧ fr u = true ∧ so u = t := by
    constructor
    · rintro ⟨u, u1, u2, u3⟩
      by_cases e : u = w
      · rw [e, hf] at u2; cases u2
      · exact ⟨u, by omega, u2, u3⟩
    · rintro ⟨u, u1, u2, u3⟩
      exact ⟨u, by omega, u2, u3⟩
  rw [up]
  exact h t ht
theorem v_findTogether {m : Mem} {n K : Nat} {g as : Int} {bs : Bool} (ok : S.ok) (hn : S.nf = (n : Int)) (n12 : n ≤ 12) (h8 : 0 ≤ mG M 138 0 ∧ mG M 138 0 ≤ 8) (hK : mG M 138 0 = (K : Int)) (hg : g = -1 ∨ (0 ≤ g ∧ g < (n : Int))) (has : as = b2i bs) (rb : RPC S P M m) : pw (mX9_findTogether 126 g as m) (fun q => TGS (frw n (knR S M) g bs) (fun w => sof S P (tvb M) w K) (2 ^ n) q.2 ∧ RTg S P (K : Int) (knR S M) n q.2 ∧ tvb q.2 = tvb M) := by
  have hF : ∀ p, knR S M p = -1 ∨ knR S M p = 0 ∨ knR S M p = 1 := fun p => knf_rg _ _ _ _ _ _
  have K8 : K ≤ 8 := by omega
  have vl := tvb_lt hK
  have p8 : 2 ^ K ≤ 2 ^ 8 := Nat.pow_le_pow_right (n := 2) (by decide) K8
  have p12 : 2 ^ n ≤ 2 ^ 12 := Nat.pow_le_pow_right (n := 2) (by decide) n12
  obtain ⟨⟨a1, a2, a3, a4⟩, ⟨e1, e2, e3⟩⟩ := rb
  obtain ⟨vw, hvw⟩ : ∃ vw, vw = tvb M := ⟨_, rfl⟩
  obtain ⟨F, hFe⟩ : ∃ F, F = knR S M := ⟨_, rfl⟩
  rw [← hvw] at vl e2 ⊢
  rw [← hFe] at hF e3 ⊢
  obtain ⟨fr, hfr⟩ : ∃ fr, fr = frw n F g bs := ⟨_, rfl⟩
  obtain ⟨so, hso⟩ : ∃ so : Nat → Nat, so = fun w => sof S P vw w K := ⟨_, rfl⟩
  rw [← hfr, ← hso]
  obtain ⟨Q, hQ⟩ : ∃ Q : Int × Mem → Prop, Q = fun q => TGS fr so (2 ^ n) q.2 ∧ RTg S P (K : Int) F n q.2 ∧ tvb q.2 = vw := ⟨_, rfl⟩
  rw [← hQ]
  have tvk : ∀ m', FT9 m m' ∨ (∀ c j : Int, ¬ c = 126 → ¬ c = 154 → ¬ c = 160 → ¬ c = 161 → ¬ c = 163 → mG m' c j = mG m c j) → tvb m' = vw := fun m' hm => by
    have g6 : ∀ c j : Int, ¬ c = 126 → ¬ c = 154 → ¬ c = 160 → ¬ c = 161 → ¬ c = 163 → mG m' c j = mG m c j := by
      rcases hm with hm | hm
      · exact fun c j a b d e f => hm c j (fun y => a y.1) b d e f
      · exact hm
    rw [← e2]
    unfold tvb
    rw [g6 131 0 (by decide) (by decide) (by decide) (by decide) (by decide), g6 132 0 (by decide) (by decide) (by decide) (by decide) (by decide), g6 138 0 (by decide) (by decide) (by decide) (by decide) (by decide), show mG m' 139 = mG m 139 from funext (fun j => g6 139 j (by decide) (by decide) (by decide) (by decide) (by decide)), show mG m' 140 = mG m 140 from funext (fun j => g6 140 j (by decide) (by decide) (by decide) (by decide) (by decide))]
  have slt : ∀ w k, k ≤ 8 → sof S P vw w k < 256 := fun w k hk => by
    have := bitsOf_lt (fun s => vw.testBit s && TMw S (P s) w) k
    have : 2 ^ k ≤ 2 ^ 8 := Nat.pow_le_pow_right (n := 2) (by decide) hk
    unfold sof
    omega
  have l37 : ∀ (fu w : Nat) (m1 : Mem), w ≤ 2 ^ n → RTg S P (K : Int) F n m1 → TGS fr so w m1 → (∀ c j : Int, ¬ c = 126 → ¬ c = 154 → ¬ c = 160 → ¬ c = 161 → ¬ c = 163 → mG m1 c j = mG m c j) → pw (mX9_findTogether_37 fu 126 g as (vw : Int) (w : Int) m1) Q := by
    intro fu
    induction fu with
    | zero => intro w m1 _ _ _ _; exact p_none
    | succ fu ih =>
      intro w m1 hw rt tg fg
      show pw (bX9_findTogether_37 (mX9_findTogether_37 fu) 126 g as (vw : Int) (w : Int) m1) _
      unfold bX9_findTogether_37
      refine p_gK (p_call (v_manyFacts ok rt.1.1 rt.1.2) (fun v m4 y => ?_))
      obtain ⟨y6, y7⟩ := y
      replace y6 : m4 = m1 := y6
      replace y7 : v = S.nf := y7
      subst y6
      rw [hn] at y7
      subst y7
      rw [ishl1 n (by omega), show (2 : Int) ^ n = ((2 ^ n : Nat) : Int) by simp]
      refine p_if (fun c => p_ret ?_) (fun c => ?_)
      · rw [show w = 2 ^ n by omega] at tg
        rw [hQ]
        exact ⟨tg, rt, tvk m4 (Or.inr fg)⟩
      have w1 : w < 2 ^ n := by omega
      refine p_gK (p_call (v_layWorld (w := w) ok hn n12 rt.1.1 rt.1.2 (by omega)) (fun v m5 y => ?_))
      obtain ⟨lw, y4⟩ := y
      replace lw : LW S (phw S.nf w) m5 := lw
      replace y4 : ∀ c j : Int, ¬ c = 154 → mG m5 c j = mG m4 c j := y4
      have f5 : FT9 m4 m5 := fun c j _ y _ _ _ => y4 c j y
      have r5 := rt.ft f5
      have skip : ∀ m6, FT9 m4 m6 → (∀ j, mG m6 163 j = mG m4 163 j) → fr w = false → pw (mX9_findTogether_143 (mX9_findTogether_37 fu) 126 g as (vw : Int) (w : Int) m6) Q := fun m6 f6 g6 hf => by
        unfold mX9_findTogether_143
        rw [wI_s (p := w) (by omega)]
        exact ih (w + 1) m6 (by omega) (rt.ft f6) (tg.skip hf g6) (fun c j a b d e f => (f6 c j (fun y => a y.1) b d e f).trans (fg c j a b d e f))
      have g5 : ∀ j, mG m5 163 j = mG m4 163 j := fun j => y4 163 j (by decide)
      refine p_gK (p_call (v_asKnown hF n12 w1 r5.2.1.2.1 r5.2.1.2.2) (fun v m6 y => ?_))
      obtain ⟨z1, z2⟩ := y
      replace z1 : m6 = m5 := z1
      replace z2 : v = b2i (allb (okp (n : Int) F w) n) := z2
      subst z1
      refine p_if (fun c2 => skip m6 f5 g5 ?_) (fun c2 => ?_)
      · have := b2i_0.mp (z2.symm.trans c2)
        rw [hfr]; unfold frw; rw [this]; rfl
      have ak : allb (okp (n : Int) F w) n = true := by
        cases e : allb (okp (n : Int) F w) n with
        | true => rfl
        | false => rw [e] at z2; exact absurd z2 c2
      have go : fr w = true → pw (mX9_findTogether_81 (mX9_findTogether_37 fu) 126 g as (vw : Int) (w : Int) m6) Q := fun hf => by
        have l87 : ∀ (fu2 s : Nat) (m7 : Mem), s ≤ K → FT9 m4 m7 → LW S (phw S.nf w) m7 → (∀ j, mG m7 163 j = mG m4 163 j) → pw (mX9_findTogether_87 (mX9_findTogether_37 fu) fu2 126 g as (vw : Int) (w : Int) ((sof S P vw w s : Nat) : Int) (s : Int) m7) Q := by
          intro fu2
          induction fu2 with
          | zero => intro s m7 _ _ _ _; exact p_none
          | succ fu2 ih2 =>
            intro s m7 hs f7 lw7 g7
            show pw (bX9_findTogether_87 (mX9_findTogether_37 fu) (mX9_findTogether_87 (mX9_findTogether_37 fu) fu2) 126 g as (vw : Int) (w : Int) ((sof S P vw w s : Nat) : Int) (s : Int) m7) _
            have r7 := rt.ft f7
            have sl := slt w s (by omega)
            unfold bX9_findTogether_87
            refine p_gFc (ji := 12) rfl r7.1.1.c12 (p_aGc r7.2.1.1 (p_if (fun c3 => ?_) (fun c3 => ?_)))
            · have e : s = K := by omega
              refine p_gFc (ji := 55) rfl r7.1.1.c55 (p_aSZ (fun m8 h8' => ?_))
              have f8 : FT9 m4 m8 := f7.tr (fun c j _ _ _ _ z => st_ne h8' (fun y => z y.1))
              unfold mX9_findTogether_143
              rw [wI_s (p := w) (by omega)]
              refine ih (w + 1) m8 (by omega) (rt.ft f8) (fun t ht => ?_) (fun c j a b d e f => (f8 c j (fun y => a y.1) b d e f).trans (fg c j a b d e f))
              have sw : so w = sof S P vw w s := by rw [hso, e]
              by_cases et : t = so w
              · right
                refine ⟨?_, w, by omega, hf, et.symm⟩
                rw [et, sw]
                exact st_eq h8'
              · have ne : mG m8 163 (t : Int) = mG m4 163 (t : Int) := by
                  rw [st_ne h8' (fun y => et (by have := y.2; omega))]
                  exact g7 _
                rw [ne]
                rcases tg t ht with ⟨u1, u2⟩ | ⟨u1, u2⟩
                · left
                  refine ⟨u1, ?_⟩
                  rintro ⟨u, x1, x2, x3⟩
                  by_cases eu : u = w
                  · rw [eu] at x3; exact et x3.symm
                  · exact u2 ⟨u, by omega, x2, x3⟩
                · right
                  obtain ⟨u, x1, x2, x3⟩ := u2
                  exact ⟨u1, u, by omega, x2, x3⟩
            have s1 : s < K := by omega
            have g0 : ∀ m8, FT9 m4 m8 → LW S (phw S.nf w) m8 → (∀ j, mG m8 163 j = mG m4 163 j) → (vw.testBit s && TMw S (P s) w) = false → pw (mX9_findTogether_125 (mX9_findTogether_37 fu) (mX9_findTogether_87 (mX9_findTogether_37 fu) fu2) 126 g as (vw : Int) (w : Int) (s : Int) ((sof S P vw w s : Nat) : Int) m8) Q := fun m8 f8 lw8 g8 hz => by
              unfold mX9_findTogether_125 mX9_findTogether_126
              rw [wI_s (p := s) (by omega), show (0 : Int) = ((0 : Nat) : Int) from rfl, ior_nn (by omega) (by omega), Nat.or_zero]
              have i := ih2 (s + 1) m8 (by omega) f8 lw8 g8
              have e : sof S P vw w (s + 1) = sof S P vw w s := by
                show (bitsOf _ s ||| (if (vw.testBit s && TMw S (P s) w) = true then 2 ^ s else 0)) = _
                rw [hz, if_neg (by decide), Nat.or_zero]; rfl
              rw [e] at i
              exact i
            refine p_if (fun c4 => g0 m7 f7 lw7 g7 (by rw [(ibit (x := vw) (k := s) (by omega) (by omega)).mp c4]; rfl)) (fun c4 => ?_)
            have vb : vw.testBit s = true := by
              cases e : vw.testBit s with
              | true => rfl
              | false => exact absurd ((ibit (x := vw) (k := s) (by omega) (by omega)).mpr e) c4
            obtain ⟨r1, r2, r3⟩ := r7.2.2 s (by omega)
            refine p_gK (p_call (w_means (t := (s : Int)) ok (RM.mk ok r7.1.1 r7.1.2 lw7 r1) (by omega) r2 r3) (fun v m8 y => ?_))
            obtain ⟨⟨y5, y6⟩, y7⟩ := y
            replace y6 : FM m7 m8 := y6
            replace y7 : v = b2i (TMw S (P s) w) := y7
            have f8 : FT9 m4 m8 := f7.tr y6.fi.ft
            have g8 : ∀ j, mG m8 163 j = mG m4 163 j := fun j => (y6 163 j (by omega) (by decide) (by decide)).trans (g7 j)
            refine p_if (fun c5 => g0 m8 f8 y5.2.2.2.1 g8 (by rw [b2i_0.mp (y7.symm.trans c5), Bool.and_false])) (fun c5 => ?_)
            have tm : TMw S (P s) w = true := by
              cases e : TMw S (P s) w with
              | true => rfl
              | false => rw [e] at y7; exact absurd y7 c5
            have ps : 2 ^ s ≤ 2 ^ 7 := Nat.pow_le_pow_right (n := 2) (by decide) (by omega)
            unfold mX9_findTogether_126
            rw [wI_s (p := s) (by omega), ishl1 s (by omega), show (2 : Int) ^ s = ((2 ^ s : Nat) : Int) by simp, ior_nn (by omega) (by omega)]
            have i := ih2 (s + 1) m8 (by omega) f8 y5.2.2.2.1 g8
            have e : sof S P vw w (s + 1) = sof S P vw w s ||| 2 ^ s := by
              show (bitsOf _ s ||| (if (vw.testBit s && TMw S (P s) w) = true then 2 ^ s else 0)) = _
              rw [vb, tm, if_pos (show (true && true) = true from rfl)]; rfl
            rw [e] at i
            exact i
        unfold mX9_findTogether_81
        exact l87 FU 0 m6 (Nat.zero_le _) f5 lw g5
      refine p_if (fun c3 => go ?_) (fun c3 => ?_)
      · rw [hfr]; unfold frw; rw [ak, decide_eq_true c3]; rfl
      · have hg2 : 0 ≤ g ∧ g < (n : Int) := hg.resolve_left c3
        have ph := lw g hg2.1 (by omega)
        rw [hn] at ph
        refine p_gFc (ji := 28) rfl r5.1.1.c28 (p_aGc ph ?_)
        have fw : fr w = !(phw (n : Int) w g == bs) := by rw [hfr]; unfold frw; rw [ak, decide_eq_false c3]; rfl
        refine p_if (fun c4 => skip m6 f5 g5 ?_) (fun c4 => go ?_)
        · rw [fw]
          rw [has] at c4
          cases e : phw (n : Int) w g <;> cases e2 : bs <;> rw [e, e2] at c4 <;> first | rfl | exact absurd c4 (by decide)
        · rw [fw]
          rw [has] at c4
          cases e : phw (n : Int) w g <;> cases e2 : bs <;> rw [e, e2] at c4 <;> first | rfl | exact absurd rfl c4
  unfold mX9_findTogether
  refine p_gK (p_call (v_told a1 (by rw [e1]; exact h8)) (fun v m1 y => ?_))
  obtain ⟨y1, y2⟩ := y
  replace y1 : m1 = m := y1
  replace y2 : v = ((tvb m : Nat) : Int) := y2
  subst y1
  rw [e2] at y2
  subst y2
  have l8 : ∀ (fu t : Nat) (m2 : Mem), t ≤ 256 → (∀ c j : Int, ¬ c = 163 → mG m2 c j = mG m1 c j) → (∀ x : Nat, x < t → mG m2 163 (x : Int) = 0) → pw (mX9_findTogether_8 fu 126 g as (vw : Int) (t : Int) m2) Q := by
    intro fu
    induction fu with
    | zero => intro t m2 _ _ _; exact p_none
    | succ fu ih =>
      intro t m2 ht g2 hz
      show pw (bX9_findTogether_8 (mX9_findTogether_8 fu) 126 g as (vw : Int) (t : Int) m2) _
      have k2 : K9 m2 := a1.kp (fun j _ => g2 126 j (by decide))
      unfold bX9_findTogether_8
      refine p_if (fun c => ?_) (fun c => ?_)
      · have kn2 : KNO S m2 := by
          refine ⟨by rw [g2 146 0 (by decide)]; exact a3.1, fun k hk => ?_⟩
          rw [g2 146 0 (by decide)] at hk
          rw [g2 147 _ (by decide), g2 148 _ (by decide)]
          exact a3.2 k hk
        have ek : knR S m2 = F := by
          rw [← e3]
          funext p
          unfold knR
          rw [g2 131 0 (by decide), g2 132 0 (by decide), g2 146 0 (by decide), show mG m2 147 = mG m1 147 from funext (fun j => g2 147 j (by decide)), show mG m2 148 = mG m1 148 from funext (fun j => g2 148 j (by decide)), show mG m2 149 = mG m1 149 from funext (fun j => g2 149 j (by decide))]
        refine p_gK (p_call (v_findKnown ok hn n12 k2 (a2.kp (fun c j hc => g2 c j (by omega))) kn2) (fun v m3 y => ?_))
        obtain ⟨y3, y4, y5⟩ := y
        rw [ek] at y3 y4
        replace y3 : mG m3 126 49 = ((kbs F n : Nat) : Int) := y3
        replace y4 : mG m3 126 50 = ((kss F n : Nat) : Int) := y4
        replace y5 : FK m2 m3 := y5
        have g3 : ∀ c j : Int, ¬ c = 126 → ¬ c = 163 → mG m3 c j = mG m1 c j := fun c j x y => (y5 c j (fun w => x w.1)).trans (g2 c j y)
        have rt : RTg S P (K : Int) F n m3 := ⟨⟨k2.kp (fun j hj => y5 126 j (fun w => by omega)), a2.kp (fun c j hc => g3 c j (by omega) (by omega))⟩, ⟨(g3 138 0 (by decide) (by decide)).trans (e1.trans hK), y3, y4⟩, fun s hs => ⟨⟨(g3 141 _ (by decide) (by decide)).trans (a4 s (by omega)).1.1, fun i r hr => ((a4 s (by omega)).1.2 i r hr).kp (fun c c0 c1 => g3 c _ (by omega) (by omega))⟩, (a4 s (by omega)).2⟩⟩
        refine l37 FU 0 m3 (Nat.zero_le _) rt (fun x hx => Or.inl ⟨?_, ?_⟩) (fun c j a b d e f => g3 c j a f)
        · rw [y5 163 _ (fun w => absurd w.1 (by decide))]
          exact hz x (by omega)
        · rintro ⟨u, u1, _⟩
          omega
      · refine p_gFc (ji := 55) rfl k2.c55 (p_aSZ (fun m3 h3 => ?_))
        rw [wI_s (p := t) (by omega)]
        refine ih (t + 1) m3 (by omega) (fun c j x => (st_ne h3 (fun w => x w.1)).trans (g2 c j x)) (fun x hx => ?_)
        by_cases e : x = t
        · rw [e]; exact st_eq h3
        · rw [st_ne h3 (fun w => e (by have := w.2; omega))]
          exact hz x (by omega)
  exact l8 FU 0 m1 (by omega) (fun _ _ _ => rfl) (fun x hx => absurd hx (by omega))
end
end
