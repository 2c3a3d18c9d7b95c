/-! ===== questions ===== -/
def pop16c (x : Nat) : Nat := ctn (fun s => x.testBit s) 16
theorem pop16_c {x : Nat} : pop16 x = pop16c x := by
  unfold pop16c
  have e := ctn_8 (fun s => x.testBit s) 1
  have e8 : ctn (fun s => x.testBit s) (8 * 1) = pop8 (x % 256) := by
    rw [← pop8_c]
    refine ctn_congr 8 (fun s hs => ?_)
    rw [show (256 : Nat) = 2 ^ 8 from rfl, Nat.testBit_mod_two_pow, decide_eq_true hs, Bool.true_and]
  have d : ∀ i : Nat, (x / 256).testBit i = x.testBit (8 + i) := fun i => by
    rw [show (256 : Nat) = 2 ^ 8 from rfl, Nat.testBit_div_two_pow, Nat.add_comm]
  rw [show (16 : Nat) = 8 * 1 + 8 from rfl, e, e8]
  unfold pop16 pop8
  rw [d 0, d 1, d 2, d 3, d 4, d 5, d 6, d 7]
theorem ctn_split (f g : Nat → Bool) : ∀ N : Nat, ctn f N = ctn (fun w => f w && g w) N + ctn (fun w => f w && !g w) N := by
  intro N
  induction N with
  | zero => rfl
  | succ N ih =>
    rw [ctn_s, ctn_s, ctn_s, ih]
    have : (f N).toNat = (f N && g N).toNat + (f N && !g N).toNat := by cases f N <;> cases g N <;> rfl
    omega
theorem pop_split {X y : Nat} : pop16c X = pop16c (X &&& y) + pop16c (X &&& (65535 ^^^ y)) := by
  unfold pop16c
  rw [ctn_split (fun s => X.testBit s) (fun s => y.testBit s) 16]
  congr 1
  · exact ctn_congr 16 (fun s _ => (Nat.testBit_and X y s).symm)
  · refine ctn_congr 16 (fun s hs => ?_)
    rw [Nat.testBit_and, Nat.testBit_xor, show (65535 : Nat) = 2 ^ 16 - 1 from rfl, Nat.testBit_two_pow_sub_one, decide_eq_true hs]
    cases X.testBit s <;> cases y.testBit s <;> rfl
/-- d questions of those suffice -/
def SL (Ys : Nat → Prop) : Nat → Nat → Prop
  | 0, X => pop16c X ≤ 1
  | d + 1, X => SL Ys d X ∨ ∃ y, Ys y ∧ SL Ys d (X &&& y) ∧ SL Ys d (X &&& (65535 ^^^ y))
theorem SL.up {Ys : Nat → Prop} {d X : Nat} (h : SL Ys d X) : SL Ys (d + 1) X := Or.inl h
theorem SL.one {Ys : Nat → Prop} {X : Nat} (h : pop16c X ≤ 1) : ∀ d : Nat, SL Ys d X := by
  intro d
  induction d with
  | zero => exact h
  | succ d ih => exact Or.inl ih
theorem SL.pop {Ys : Nat → Prop} : ∀ (d X : Nat), SL Ys d X → pop16c X ≤ 2 ^ d := by
  intro d
  induction d with
  | zero => intro X h; exact h
  | succ d ih =>
    intro X h
    have p : 2 ^ (d + 1) = 2 ^ d + 2 ^ d := by rw [Nat.pow_succ]; omega
    rcases h with h | ⟨y, _, h1, h2⟩
    · have := ih X h; omega
    · have a := ih _ h1
      have b := ih _ h2
      rw [pop_split (X := X) (y := y)]
      omega
theorem and_full {X : Nat} (hX : X < 65536) : X &&& 65535 = X := by
  rw [show (65535 : Nat) = 2 ^ 16 - 1 from rfl, Nat.and_two_pow_sub_one_eq_mod]
  omega
theorem and_lt {X y : Nat} (hX : X < 65536) : X &&& y < 65536 := Nat.lt_of_le_of_lt Nat.and_le_left hX
/-- questions that divide nothing don't help -/
theorem SL.sub {Ys Zs : Nat → Prop} (h : ∀ y, Ys y → Zs y ∨ y = 0) : ∀ (d X : Nat), X < 65536 → SL Ys d X → SL Zs d X := by
  intro d
  induction d with
  | zero => intro X _ h; exact h
  | succ d ih =>
    intro X hX k
    rcases k with k | ⟨y, y0, k1, k2⟩
    · exact Or.inl (ih X hX k)
    · rcases h y y0 with z | z
      · exact Or.inr ⟨y, z, ih _ (and_lt hX) k1, ih _ (and_lt hX) k2⟩
      · rw [z, show (65535 : Nat) ^^^ 0 = 65535 from rfl, and_full hX] at k2
        exact Or.inl (ih X hX k2)
/-- one that helps -/
theorem SL.help {Ys : Nat → Prop} : ∀ (d X : Nat), X < 65536 → 1 < pop16c X → SL Ys (d + 1) X → ∃ y, Ys y ∧ (¬ X &&& y = 0 ∧ ¬ X &&& (65535 ^^^ y) = 0) ∧ SL Ys d (X &&& y) ∧ SL Ys d (X &&& (65535 ^^^ y)) := by
  intro d
  induction d with
  | zero =>
    intro X hX hp h
    rcases h with h | ⟨y, y0, h1, h2⟩
    · have : pop16c X ≤ 1 := h
      omega
    · refine ⟨y, y0, ⟨fun e => ?_, fun e => ?_⟩, h1, h2⟩
      · have s := pop_split (X := X) (y := y)
        rw [e] at s
        have z : pop16c 0 = 0 := rfl
        have : pop16c (X &&& (65535 ^^^ y)) ≤ 1 := h2
        omega
      · have s := pop_split (X := X) (y := y)
        rw [e] at s
        have z : pop16c 0 = 0 := rfl
        have : pop16c (X &&& y) ≤ 1 := h1
        omega
  | succ d ih =>
    intro X hX hp h
    rcases h with h | ⟨y, y0, h1, h2⟩
    · obtain ⟨y, a, b, c1, c2⟩ := ih X hX hp h
      exact ⟨y, a, b, c1.up, c2.up⟩
    · by_cases e1 : X &&& y = 0
      · have e2 : X &&& (65535 ^^^ y) = X := by
          refine Nat.eq_of_testBit_eq (fun s => ?_)
          have t : (X.testBit s && y.testBit s) = false := by rw [← Nat.testBit_and, e1, Nat.zero_testBit]
          rw [Nat.testBit_and, Nat.testBit_xor, show (65535 : Nat) = 2 ^ 16 - 1 from rfl, Nat.testBit_two_pow_sub_one]
          by_cases c : s < 16
          · rw [decide_eq_true c]
            cases e : X.testBit s with
            | false => rfl
            | true => rw [e, Bool.true_and] at t; rw [t]; rfl
          · rw [Nat.testBit_lt_two_pow (Nat.lt_of_lt_of_le hX (Nat.pow_le_pow_right (n := 2) (by decide) (show 16 ≤ s by omega)))]; rfl
        rw [e2] at h2
        obtain ⟨y, a, b, c1, c2⟩ := ih X hX hp h2
        exact ⟨y, a, b, c1.up, c2.up⟩
      · by_cases e2 : X &&& (65535 ^^^ y) = 0
        · have e3 : X &&& y = X := by
            refine Nat.eq_of_testBit_eq (fun s => ?_)
            have t : (X &&& (65535 ^^^ y)).testBit s = false := by rw [e2, Nat.zero_testBit]
            rw [Nat.testBit_and, Nat.testBit_xor, show (65535 : Nat) = 2 ^ 16 - 1 from rfl, Nat.testBit_two_pow_sub_one] at t
            rw [Nat.testBit_and]
            by_cases c : s < 16
            · rw [decide_eq_true c] at t
              cases e : X.testBit s with
              | false => rfl
              | true =>
                rw [e, Bool.true_and] at t
                cases e4 : y.testBit s with
                | true => rfl
                | false => rw [e4] at t; cases t
            · rw [Nat.testBit_lt_two_pow (Nat.lt_of_lt_of_le hX (Nat.pow_le_pow_right (n := 2) (by decide) (show 16 ≤ s by omega)))]; rfl
          rw [e3] at h1
          obtain ⟨y, a, b, c1, c2⟩ := ih X hX hp h1
          exact ⟨y, a, b, c1.up, c2.up⟩
        · exact ⟨y, y0, ⟨e1, e2⟩, h1, h2⟩
/-- the least number of them -/
def QST (Ys : Nat → Prop) (X : Nat) (r : Int) : Prop := (∃ d : Nat, d ≤ 4 ∧ r = (d : Int) ∧ SL Ys d X ∧ ∀ e, e < d → ¬ SL Ys e X) ∨ (r = -1 ∧ ∀ e, e ≤ 4 → ¬ SL Ys e X)
theorem QST.eq {Ys Zs : Nat → Prop} {X : Nat} {r s : Int} (h : ∀ d, SL Ys d X ↔ SL Zs d X) (a : QST Ys X r) (b : QST Zs X s) : r = s := by
  rcases a with ⟨d, a1, a2, a3, a4⟩ | ⟨a1, a2⟩
  · rcases b with ⟨e, b1, b2, b3, b4⟩ | ⟨b1, b2⟩
    · have : d = e := by
        apply Classical.byContradiction
        intro hne
        by_cases c : d < e
        · exact b4 d c ((h d).mp a3)
        · exact a4 e (by omega) ((h e).mpr b3)
      rw [a2, b2, this]
    · exact absurd ((h d).mp a3) (b2 d a1)
  · rcases b with ⟨e, b1, b2, b3, b4⟩ | ⟨b1, b2⟩
    · exact absurd ((h e).mpr b3) (a2 e b1)
    · rw [a1, b1]
theorem ix_b31 {b : Nat} (hb : b < 2147483648) : (Int32.ofInt (ixor (b : Int) (-1))).toBitVec.toNat = b ^^^ 4294967295 := by
  unfold ixor
  rw [Int32.ofInt_toInt, Int32.toBitVec_xor, BitVec.toNat_xor, nonneg_bv (by omega) (by omega), Int.toNat_natCast]
  congr 1
theorem iand_clr16 {a b : Nat} (ha : a < 65536) (hb : b < 65536) : iand (a : Int) (ixor (b : Int) (-1)) = ((a &&& (65535 ^^^ b) : Nat) : Int) := by
  have e : (Int32.ofInt (a : Int) &&& Int32.ofInt (ixor (b : Int) (-1))).toBitVec.toNat = a &&& (65535 ^^^ b) := by
    rw [Int32.toBitVec_and, BitVec.toNat_and, nonneg_bv (by omega) (by omega), ix_b31 (by omega), Int.toNat_natCast]
    refine Nat.eq_of_testBit_eq (fun i => ?_)
    rw [Nat.testBit_and, Nat.testBit_and, Nat.testBit_xor, Nat.testBit_xor, show (4294967295 : Nat) = 2 ^ 32 - 1 from rfl, show (65535 : Nat) = 2 ^ 16 - 1 from rfl, Nat.testBit_two_pow_sub_one, Nat.testBit_two_pow_sub_one]
    by_cases c : i < 16
    · rw [decide_eq_true c, decide_eq_true (show i < 32 by omega), Bool.xor_comm]
    · have : a.testBit i = false := Nat.testBit_lt_two_pow (Nat.lt_of_lt_of_le ha (Nat.pow_le_pow_right (n := 2) (by decide) (show 16 ≤ i by omega)))
      rw [this]; rfl
  have h2 : a &&& (65535 ^^^ b) ≤ a := Nat.and_le_left
  unfold iand
  rw [toInt_small _ (by rw [e]; omega), e]
section
variable {M : Mem}
/-- the class's questions -/
def ASK (A : Nat → Nat) (M : Mem) : Prop := (mK M 46).2 = 12 ∧ ∀ p : Nat, p < 12 → A p < 65536 ∧ mG M 46 (p : Int) = ((A p : Nat) : Int)
def AYs (A : Nat → Nat) (y : Nat) : Prop := ∃ p, p < 12 ∧ y = A p
theorem q_suffice {A : Nat → Nat} (hA : ASK A M) : ∀ (fu X d : Nat), X < 65536 → d ≤ 4 → pw (gX4_suffice fu 46 (X : Int) (d : Int) M) (fun q => q.2 = M ∧ ((SL (AYs A) d X ∧ q.1 = 1) ∨ (¬ SL (AYs A) d X ∧ q.1 = 0))) := by
  intro fu
  induction fu with
  | zero => intro X d _ _; exact p_none
  | succ fu ih =>
    intro X d hX hd
    obtain ⟨Q, hQ⟩ : ∃ Q : Int × Mem → Prop, Q = fun q => q.2 = M ∧ ((SL (AYs A) d X ∧ q.1 = 1) ∨ (¬ SL (AYs A) d X ∧ q.1 = 0)) := ⟨_, rfl⟩
    rw [← hQ]
    show pw (mX4_suffice (gX4_suffice fu) 46 (X : Int) (d : Int) M) Q
    unfold mX4_suffice
    refine p_call (q_bc16 hX) (fun v m y => ?_)
    obtain ⟨y1, y2⟩ := y
    replace y1 : m = M := y1
    replace y2 : v = ((pop16 X : Nat) : Int) := y2
    subst y1; subst y2
    rw [pop16_c]
    refine p_if (fun c => ?_) (fun c => p_ret ?_)
    · replace c : (1 : Int) < ((pop16c X : Nat) : Int) := c
      have hp : 1 < pop16c X := by omega
      refine p_if (fun c2 => p_ret ?_) (fun c2 => ?_)
      · have e : d = 0 := by omega
        rw [hQ]
        refine ⟨rfl, Or.inr ⟨fun h => ?_, rfl⟩⟩
        rw [e] at h
        have h : pop16c X ≤ 1 := h
        omega
      obtain ⟨e, rfl⟩ : ∃ e, d = e + 1 := ⟨d - 1, by omega⟩
      refine p_call (q_bc16 hX) (fun v m2 y => ?_)
      obtain ⟨y1, y2⟩ := y
      replace y1 : m2 = m := y1
      replace y2 : v = ((pop16 X : Nat) : Int) := y2
      subst y1; subst y2
      rw [pop16_c, ishl1 (e + 1) (by omega), show (2 : Int) ^ (e + 1) = ((2 ^ (e + 1) : Nat) : Int) by simp]
      refine p_if (fun c3 => ?_) (fun c3 => p_ret ?_)
      · have loop : ∀ (fu2 p : Nat), p ≤ 12 → (∀ x, x < p → ¬ ((¬ X &&& A x = 0 ∧ ¬ X &&& (65535 ^^^ A x) = 0) ∧ SL (AYs A) e (X &&& A x) ∧ SL (AYs A) e (X &&& (65535 ^^^ A x)))) → pw (mX4_suffice_28 (gX4_suffice fu) fu2 46 (X : Int) ((e + 1 : Nat) : Int) (p : Int) m2) Q := by
          intro fu2
          induction fu2 with
          | zero => intro p _ _; exact p_none
          | succ fu2 ih2 =>
            intro p hp12 hx
            show pw (bX4_suffice_28 (gX4_suffice fu) (mX4_suffice_28 (gX4_suffice fu) fu2) 46 (X : Int) ((e + 1 : Nat) : Int) (p : Int) m2) Q
            unfold bX4_suffice_28
            refine p_aL (fun len hlen => ?_)
            rw [hA.1] at hlen
            refine p_if (fun d1 => p_ret ?_) (fun d1 => ?_)
            · rw [hQ]
              refine ⟨rfl, Or.inr ⟨fun h => ?_, rfl⟩⟩
              obtain ⟨y, ⟨x, x12, ey⟩, b1, b2, b3⟩ := SL.help e X hX hp h
              rw [ey] at b1 b2 b3
              exact hx x (by omega) ⟨b1, b2, b3⟩
            · have p1 : p < 12 := by omega
              obtain ⟨al, ae⟩ := hA.2 p p1
              refine p_aGc ae (p_aGc ae (p_some (fun b48 hb => ?_)))
              rw [iand_clr16 hX al] at hb
              subst hb
              rw [iand_c X (A p) (by omega) (by omega)]
              have xl : X &&& A p < 65536 := and_lt hX
              have xr : X &&& (65535 ^^^ A p) < 65536 := and_lt hX
              have nxt : ¬ ((¬ X &&& A p = 0 ∧ ¬ X &&& (65535 ^^^ A p) = 0) ∧ SL (AYs A) e (X &&& A p) ∧ SL (AYs A) e (X &&& (65535 ^^^ A p))) → pw (mX4_suffice_98 (mX4_suffice_28 (gX4_suffice fu) fu2) (gX4_suffice fu) 46 (X : Int) ((e + 1 : Nat) : Int) (p : Int) m2) Q := fun h => by
                unfold mX4_suffice_98
                rw [wI_s (p := p) (by omega)]
                refine ih2 (p + 1) (by omega) (fun x hx2 => ?_)
                by_cases z : x = p
                · rw [z]; exact h
                · exact hx x (by omega)
              refine p_if (fun z1 => ?_) (fun z1 => p_if (fun z2 => ?_) (fun z2 => ?_))
              · unfold mX4_suffice_64 mX4_suffice_65
                exact p_it1 rfl (nxt (fun w => w.1.1 (by omega)))
              · unfold mX4_suffice_64 mX4_suffice_65
                exact p_it1 rfl (nxt (fun w => w.1.2 (by omega)))
              · unfold mX4_suffice_65
                rw [wI_id (x := ((e + 1 : Nat) : Int) - 1) (by omega) (by omega), show ((e + 1 : Nat) : Int) - 1 = (e : Int) by omega]
                refine p_it0 z_1 (p_call (ih (X &&& A p) e xl (by omega)) (fun v m3 y => ?_))
                obtain ⟨y1, y2⟩ := y
                replace y1 : m3 = m2 := y1
                subst y1
                rcases y2 with ⟨s1, e1⟩ | ⟨s1, e1⟩
                · replace e1 : v = 1 := e1
                  refine p_it0 (show ¬ v = 0 by omega) (p_call (ih (X &&& (65535 ^^^ A p)) e xr (by omega)) (fun v m4 y => ?_))
                  obtain ⟨y3, y4⟩ := y
                  replace y3 : m4 = m3 := y3
                  subst y3
                  rcases y4 with ⟨s2, e2⟩ | ⟨s2, e2⟩
                  · replace e2 : v = 1 := e2
                    refine p_it0 (show ¬ v = 0 by omega) (p_ret ?_)
                    rw [hQ]
                    exact ⟨rfl, Or.inl ⟨Or.inr ⟨A p, ⟨p, p1, rfl⟩, s1, s2⟩, rfl⟩⟩
                  · exact p_it1 e2 (nxt (fun w => s2 w.2.2))
                · exact p_it1 e1 (nxt (fun w => s1 w.2.1))
        exact loop FU 0 (by omega) (fun x hx => absurd hx (by omega))
      · rw [hQ]
        refine ⟨rfl, Or.inr ⟨fun h => ?_, rfl⟩⟩
        have := SL.pop _ _ h
        have c3 : ¬ ((pop16c X : Nat) : Int) ≤ ((2 ^ (e + 1) : Nat) : Int) := c3
        omega
    · rw [hQ]
      replace c : ¬ (1 : Int) < ((pop16c X : Nat) : Int) := c
      exact ⟨rfl, Or.inl ⟨SL.one (by omega) d, rfl⟩⟩
end
