/-! ===== sets of stories, in their order ===== -/
def pop8 (a : Nat) : Nat := (a.testBit 0).toNat + (a.testBit 1).toNat + (a.testBit 2).toNat + (a.testBit 3).toNat + (a.testBit 4).toNat + (a.testBit 5).toNat + (a.testBit 6).toNat + (a.testBit 7).toNat
def rev8 (a : Nat) : Nat := a % 2 * 128 + a / 2 % 2 * 64 + a / 4 % 2 * 32 + a / 8 % 2 * 16 + a / 16 % 2 * 8 + a / 32 % 2 * 4 + a / 64 % 2 * 2 + a / 128 % 2
def lowb (d : Nat) : Nat := d &&& (256 - d)
def key8 (a : Nat) : Nat := pop8 a * 256 + (255 - rev8 a)
/-- the one goes before the other -/
def bef (a b : Nat) : Bool := decide (pop8 a < pop8 b) || (decide (pop8 a = pop8 b) && !decide (a &&& lowb (a ^^^ b) = 0))
theorem low_i : ∀ d : Nat, d < 256 → iand (d : Int) (ineg (d : Int)) = ((lowb d : Nat) : Int) ∧ lowb d < 256 := by decide +kernel
theorem pop_b : ∀ a : Nat, a < 256 → pop8 a ≤ 8 := by decide +kernel
theorem rev_lt : ∀ a : Nat, a < 256 → rev8 a < 256 := by decide +kernel
theorem rev_inj1 : ∀ a : Nat, a < 256 → rev8 (rev8 a) = a := by decide +kernel
theorem key_inj {a b : Nat} (ha : a < 256) (hb : b < 256) (h : key8 a = key8 b) : a = b := by
  have r1 := rev_lt a ha
  have r2 := rev_lt b hb
  have : rev8 a = rev8 b := by unfold key8 at h; omega
  rw [← rev_inj1 a ha, ← rev_inj1 b hb, this]
theorem lex8 : ∀ a : Nat, a < 256 → ∀ b : Nat, b < 256 → (!decide (a &&& lowb (a ^^^ b) = 0)) = decide (rev8 b < rev8 a) := by decide +kernel
theorem bef_key {a b : Nat} (ha : a < 256) (hb : b < 256) : bef a b = decide (key8 a < key8 b) := by
  unfold bef
  rw [lex8 a ha b hb]
  have r1 := rev_lt a ha
  have r2 := rev_lt b hb
  have p1 := pop_b a ha
  have p2 := pop_b b hb
  unfold key8
  by_cases c1 : pop8 a < pop8 b
  · rw [decide_eq_true c1, decide_eq_true (show pop8 a * 256 + (255 - rev8 a) < pop8 b * 256 + (255 - rev8 b) by omega)]; rfl
  · by_cases c2 : pop8 a = pop8 b
    · rw [decide_eq_false c1, decide_eq_true c2, Bool.false_or, Bool.true_and]
      by_cases c3 : rev8 b < rev8 a
      · rw [decide_eq_true c3, decide_eq_true (show pop8 a * 256 + (255 - rev8 a) < pop8 b * 256 + (255 - rev8 b) by omega)]
      · rw [decide_eq_false c3, decide_eq_false (show ¬ pop8 a * 256 + (255 - rev8 a) < pop8 b * 256 + (255 - rev8 b) by omega)]
    · rw [decide_eq_false c1, decide_eq_false c2, decide_eq_false (show ¬ pop8 a * 256 + (255 - rev8 a) < pop8 b * 256 + (255 - rev8 b) by omega)]; rfl
theorem iand_assoc (x y z : Int) : iand (iand x y) z = iand x (iand y z) := by
  unfold iand
  rw [Int32.ofInt_toInt, Int32.ofInt_toInt, Int32.and_assoc]
theorem iand_c (a b : Nat) (ha : a < 2147483648) (hb : b < 2147483648) : iand (a : Int) (b : Int) = ((a &&& b : Nat) : Int) := by
  rw [iand_nat (by omega) (by omega) (by omega) (by omega), Int.toNat_natCast, Int.toNat_natCast]
theorem and_c0 (a b : Nat) (ha : a < 2147483648) (hb : b < 2147483648) : (iand (a : Int) (b : Int) = 0) ↔ (a &&& b = 0) := by
  rw [iand_c a b ha hb]
  omega
/-- no story that the other has not -/
theorem sub_i {a b : Nat} (ha : a < 256) (hb : b < 256) : (iand (a : Int) (ixor (b : Int) (-1)) = 0) ↔ (∀ s : Nat, a.testBit s = true → b.testBit s = true) := by
  rw [iand_clr (by omega) (by omega)]
  have e : (((a &&& (4095 ^^^ b) : Nat) : Int) = 0) ↔ (a &&& (4095 ^^^ b) = 0) := by omega
  rw [e]
  have tb : ∀ s : Nat, (a &&& (4095 ^^^ b)).testBit s = (a.testBit s && (decide (s < 12) ^^ b.testBit s)) := fun s => by
    rw [Nat.testBit_and, Nat.testBit_xor, show (4095 : Nat) = 2 ^ 12 - 1 from rfl, Nat.testBit_two_pow_sub_one]
  constructor
  · intro h s hs
    have h2 := tb s
    rw [h, Nat.zero_testBit, hs, Bool.true_and] at h2
    have s12 : s < 12 := by
      apply Classical.byContradiction
      intro h3
      have := Nat.testBit_lt_two_pow (Nat.lt_of_lt_of_le ha (Nat.pow_le_pow_right (n := 2) (by decide) (show 8 ≤ s by omega)))
      rw [hs] at this
      cases this
    rw [decide_eq_true s12] at h2
    cases z : b.testBit s with
    | true => rfl
    | false => rw [z] at h2; cases h2
  · intro h
    refine Nat.eq_of_testBit_eq (fun s => ?_)
    rw [tb, Nat.zero_testBit]
    cases z : a.testBit s with
    | false => rfl
    | true =>
      have hb2 := h s z
      have s12 : s < 12 := by
        apply Classical.byContradiction
        intro h3
        have := Nat.testBit_lt_two_pow (Nat.lt_of_lt_of_le ha (Nat.pow_le_pow_right (n := 2) (by decide) (show 8 ≤ s by omega)))
        rw [z] at this
        cases this
      rw [hb2, decide_eq_true s12]; rfl
section
variable {M : Mem}
def bcI (x : Int) : Int :=
  let b9 := wI (x - iand (iushr x 1) 1431655765)
  let b23 := wI (iand b9 858993459 + iand (iushr b9 2) 858993459)
  let b33 := iand (wI (b23 + iushr b23 4)) 252645135
  let b40 := wI (b33 + iushr b33 8)
  let b47 := wI (b40 + iushr b40 16)
  iand b47 63
theorem bc_256 : ∀ a : Nat, a < 256 → bcI (a : Int) = ((pop8 a : Nat) : Int) := by decide +kernel
theorem q_bc {a : Nat} (ha : a < 256) : pw (mJ6_bitCount_0f7a4 (a : Int) M) (fun q => q.2 = M ∧ q.1 = ((pop8 a : Nat) : Int)) := by
  have h := bc_256 a ha
  unfold bcI at h
  unfold mJ6_bitCount_0f7a4
  refine p_some (fun b9 h9 => p_some (fun b23 h23 => p_some (fun b33 h33 => p_some (fun b40 h40 => p_some (fun b47 h47 => p_ret ⟨rfl, ?_⟩)))))
  subst h9; subst h23; subst h33; subst h40; subst h47
  exact h
theorem q_isBefore {a b : Nat} (ha : a < 256) (hb : b < 256) : pw (mX4_isBefore (a : Int) (b : Int) M) (fun q => q.2 = M ∧ q.1 = b2i (bef a b)) := by
  have p1 := pop_b a ha
  have p2 := pop_b b hb
  have x8 : a ^^^ b < 256 := Nat.xor_lt_two_pow (n := 8) ha hb
  obtain ⟨l1, l2⟩ := low_i (a ^^^ b) x8
  unfold mX4_isBefore
  refine p_call (q_bc ha) (fun v m y => ?_)
  obtain ⟨y1, y2⟩ := y
  replace y1 : m = M := y1
  replace y2 : v = ((pop8 a : Nat) : Int) := y2
  subst y1; subst y2
  refine p_call (q_bc hb) (fun v m2 y => ?_)
  obtain ⟨y1, y2⟩ := y
  replace y1 : m2 = m := y1
  replace y2 : v = ((pop8 b : Nat) : Int) := y2
  subst y1; subst y2
  refine p_some (fun z hz => ?_)
  rw [ixor_nn (by omega) (by omega), l1] at hz
  subst hz
  rw [wI_id (x := ((pop8 a : Nat) : Int) - ((pop8 b : Nat) : Int)) (by omega) (by omega)]
  unfold mX4_isBefore_35
  unfold bef
  refine p_if (fun c => p_ret ⟨rfl, ?_⟩) (fun c => p_if (fun c2 => p_if (fun c3 => p_ret ⟨rfl, ?_⟩) (fun c3 => p_ret ⟨rfl, ?_⟩)) (fun c2 => p_ret ⟨rfl, ?_⟩))
  · rw [decide_eq_true (show pop8 a < pop8 b by omega)]; rfl
  · rw [decide_eq_false (show ¬ pop8 a < pop8 b by omega), decide_eq_true (show pop8 a = pop8 b by omega), decide_eq_true ((and_c0 a _ (by omega) (by omega)).mp c3)]; rfl
  · rw [decide_eq_false (show ¬ pop8 a < pop8 b by omega), decide_eq_true (show pop8 a = pop8 b by omega), decide_eq_false (fun e => c3 ((and_c0 a _ (by omega) (by omega)).mpr e))]; rfl
  · rw [decide_eq_false (show ¬ pop8 a < pop8 b by omega), decide_eq_false (show ¬ pop8 a = pop8 b by omega)]; rfl
theorem w_isLessRow {a b : Nat} (ha : a < 256) (hb : b < 256) : pw (mX9_isLessRow (a : Int) (b : Int) M) (fun q => q.2 = M ∧ q.1 = b2i (!decide (a &&& lowb (a ^^^ b) = 0))) := by
  have x8 : a ^^^ b < 256 := Nat.xor_lt_two_pow (n := 8) ha hb
  obtain ⟨l1, l2⟩ := low_i (a ^^^ b) x8
  unfold mX9_isLessRow
  rw [ixor_nn (by omega) (by omega), iand_assoc, l1]
  refine p_if (fun c3 => p_ret ⟨rfl, ?_⟩) (fun c3 => p_ret ⟨rfl, ?_⟩)
  · rw [decide_eq_true ((and_c0 a _ (by omega) (by omega)).mp c3)]; rfl
  · rw [decide_eq_false (fun e => c3 ((and_c0 a _ (by omega) (by omega)).mpr e))]; rfl
end
/-! the k-th of them -/
def nbt (T : Nat) (k : Int) : Nat → Int
  | 0 => -1
  | d + 1 => if T.testBit (7 - d) = true then (if k = ((ctn (fun s => T.testBit s) (7 - d) : Nat) : Int) then ((7 - d : Nat) : Int) else nbt T k d) else nbt T k d
theorem wI_sub1 (x : Int) : wI (wI x + (-1)) = wI (x - 1) := by
  unfold wI
  omega
theorem wI_z {k : Int} {c : Nat} (hk : (-2147483648) ≤ k ∧ k ≤ 2147483647) (hc : c ≤ 8) : (wI (k - (c : Int)) = 0) ↔ k = (c : Int) := by
  constructor
  · intro h
    by_cases z : -2147483648 ≤ k - (c : Int)
    · rw [wI_id z (by omega)] at h
      omega
    · exfalso
      have e : wI (k - (c : Int)) = k - (c : Int) + 4294967296 := by
        unfold wI
        omega
      omega
  · intro h
    rw [h, Int.sub_self]
    exact wI_id (by decide) (by decide)
section
variable {M : Mem}
theorem q_nthBit {T : Nat} {k : Int} (hT : T < 256) (hk : (-2147483648) ≤ k ∧ k ≤ 2147483647) : pw (mX8_nthBit (T : Int) k M) (fun q => q.2 = M ∧ q.1 = nbt T k 8) := by
  have loop : ∀ (fu d : Nat), d ≤ 8 → pw (mX8_nthBit_4 fu (T : Int) (wI (k - ((ctn (fun s => T.testBit s) (8 - d) : Nat) : Int))) ((8 - d : Nat) : Int) M) (fun q => q.2 = M ∧ q.1 = nbt T k d) := by
    intro fu
    induction fu with
    | zero => intro d _; exact p_none
    | succ fu ih =>
      intro d hd
      show pw (bX8_nthBit_4 (mX8_nthBit_4 fu) (T : Int) _ ((8 - d : Nat) : Int) M) _
      unfold bX8_nthBit_4
      cases d with
      | zero => exact p_it1 (by omega) (p_ret ⟨rfl, rfl⟩)
      | succ d =>
        have cl := ctn_le (fun s => T.testBit s) (7 - d)
        have e8 : 8 - (d + 1) = 7 - d := by omega
        rw [e8]
        have i := ih d (by omega)
        rw [show 8 - d = 7 - d + 1 by omega, ctn_s] at i
        refine p_it0 (by omega) (p_if (fun c => ?_) (fun c => p_if (fun c2 => p_ret ⟨rfl, ?_⟩) (fun c2 => ?_)))
        · have f := (ibit (x := T) (k := 7 - d) (by omega) (by omega)).mp c
          unfold mX8_nthBit_27
          rw [wI_s (p := 7 - d) (by omega)]
          rw [f] at i
          refine p_mono i (fun q y => ⟨y.1, y.2.trans ?_⟩)
          show _ = (if T.testBit (7 - d) = true then _ else nbt T k d)
          rw [f, if_neg (by decide)]
        all_goals
          have f : T.testBit (7 - d) = true := by
            cases e : T.testBit (7 - d) with
            | true => rfl
            | false => exact absurd ((ibit (x := T) (k := 7 - d) (by omega) (by omega)).mpr e) c
        · show ((7 - d : Nat) : Int) = (if T.testBit (7 - d) = true then (if k = ((ctn (fun s => T.testBit s) (7 - d) : Nat) : Int) then ((7 - d : Nat) : Int) else nbt T k d) else nbt T k d)
          rw [if_pos f, if_pos ((wI_z hk (by omega)).mp c2)]
        · unfold mX8_nthBit_27
          rw [wI_s (p := 7 - d) (by omega), wI_sub1]
          rw [f] at i
          have e : k - ((ctn (fun s => T.testBit s) (7 - d) : Nat) : Int) - 1 = k - ((ctn (fun s => T.testBit s) (7 - d) + true.toNat : Nat) : Int) := by
            rw [Bool.toNat_true]; omega
          rw [e]
          refine p_mono i (fun q y => ⟨y.1, y.2.trans ?_⟩)
          show _ = (if T.testBit (7 - d) = true then (if k = ((ctn (fun s => T.testBit s) (7 - d) : Nat) : Int) then ((7 - d : Nat) : Int) else nbt T k d) else nbt T k d)
          rw [if_pos f, if_neg (fun w => c2 ((wI_z hk (by omega)).mpr w))]
  unfold mX8_nthBit
  have := loop FU 8 (Nat.le_refl _)
  rw [show 8 - 8 = 0 from rfl] at this
  have e : wI (k - ((ctn (fun s => T.testBit s) 0 : Nat) : Int)) = k := by
    show wI (k - ((0 : Nat) : Int)) = k
    rw [show k - ((0 : Nat) : Int) = k by omega]
    exact wI_id hk.1 (by omega)
  rw [e] at this
  exact this
theorem w_numberIn {T : Nat} {k : Int} (hT : T < 256) : pw (mX9_numberIn (T : Int) k M) (fun q => q.2 = M ∧ q.1 = nbt T k 8) := by
  have loop : ∀ (fu d : Nat), d ≤ 8 → pw (mX9_numberIn_4 fu (T : Int) k ((ctn (fun s => T.testBit s) (8 - d) : Nat) : Int) ((8 - d : Nat) : Int) M) (fun q => q.2 = M ∧ q.1 = nbt T k d) := by
    intro fu
    induction fu with
    | zero => intro d _; exact p_none
    | succ fu ih =>
      intro d hd
      show pw (bX9_numberIn_4 (mX9_numberIn_4 fu) (T : Int) k _ ((8 - d : Nat) : Int) M) _
      unfold bX9_numberIn_4
      cases d with
      | zero => exact p_it1 (by omega) (p_ret ⟨rfl, rfl⟩)
      | succ d =>
        have cl := ctn_le (fun s => T.testBit s) (7 - d)
        have e8 : 8 - (d + 1) = 7 - d := by omega
        rw [e8]
        have i := ih d (by omega)
        rw [show 8 - d = 7 - d + 1 by omega, ctn_s] at i
        refine p_it0 (by omega) (p_it0 (by omega) (p_if (fun c => ?_) (fun c => p_if (fun c2 => p_ret ⟨rfl, ?_⟩) (fun c2 => ?_))))
        · have f := (ibit (x := T) (k := 7 - d) (by omega) (by omega)).mp c
          unfold mX9_numberIn_33
          rw [wI_s (p := 7 - d) (by omega)]
          rw [f] at i
          refine p_mono i (fun q y => ⟨y.1, y.2.trans ?_⟩)
          show _ = (if T.testBit (7 - d) = true then _ else nbt T k d)
          rw [f, if_neg (by decide)]
        all_goals
          have f : T.testBit (7 - d) = true := by
            cases e : T.testBit (7 - d) with
            | true => rfl
            | false => exact absurd ((ibit (x := T) (k := 7 - d) (by omega) (by omega)).mpr e) c
        · show ((7 - d : Nat) : Int) = (if T.testBit (7 - d) = true then (if k = ((ctn (fun s => T.testBit s) (7 - d) : Nat) : Int) then ((7 - d : Nat) : Int) else nbt T k d) else nbt T k d)
          rw [if_pos f, if_pos c2.symm]
        · unfold mX9_numberIn_33
          rw [wI_s (p := 7 - d) (by omega), wI_s (p := ctn (fun s => T.testBit s) (7 - d)) (by omega)]
          rw [f, Bool.toNat_true] at i
          refine p_mono i (fun q y => ⟨y.1, y.2.trans ?_⟩)
          show _ = (if T.testBit (7 - d) = true then (if k = ((ctn (fun s => T.testBit s) (7 - d) : Nat) : Int) then ((7 - d : Nat) : Int) else nbt T k d) else nbt T k d)
          rw [if_pos f, if_neg (fun w => c2 w.symm)]
  exact loop FU 8 (Nat.le_refl _)
theorem w_numberN {k : Int} : pw (mX9_numberIn (-1) k M) (fun q => q.2 = M ∧ q.1 = -1) := by
  unfold mX9_numberIn
  show pw (mX9_numberIn_4 (69999 + 1) _ _ _ _ M) _
  show pw (bX9_numberIn_4 (mX9_numberIn_4 69999) (-1) k 0 0 M) _
  unfold bX9_numberIn_4
  exact p_it0 (by decide) (p_it1 rfl (p_ret ⟨rfl, rfl⟩))
end
