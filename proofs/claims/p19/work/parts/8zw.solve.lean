section
/-! ===== questions ===== -/
def pop16c (x : Nat) : Nat := ctn (fun s => x.testBit s) 16
theorem pop16_c {x : Nat} : pop16 x = pop16c x := by
  unfold pop16c
  have e := ctn_8 (fun s => x.testBit s) 1
  have e8 : ctn (fun s => x.testBit s) (8 * 1) = pop8 (x % 256) := by
    rw [← pop8_c]
    refine ctn_congr 8 (fun s hs => ?_)
    rw [show (256 : Nat) = 2 ^ 8 from rfl, Nat.testBit_mod_two_pow, decide_eq_true hs, Bool.true_and]
  have d : ∀ i : Nat, (x / 256).testBit i = x.testBit (8 + i) := fun i => by
    rw [show (256 : Nat) = 2 ^ 8 from rfl, Nat.testBit_div_two_pow, Nat.add_comm]
  rw [show (16 : Nat) = 8 * 1 + 8 from rfl, e, e8]
  unfold pop16 pop8
  rw [d 0, d 1, d 2, d 3, d 4, d 5, d 6, d 7]
theorem ctn_split (f g : Nat → Bool) : ∀ N : Nat, ctn f N = ctn (fun w => f w && g w) N + ctn (fun w => f w && !g w) N := by
  intro N
  induction N with
  | zero => rfl
  | succ N ih =>
    rw [ctn_s, ctn_s, ctn_s, ih]
    have : (f N).toNat = (f N && g N).toNat + (f N && !g N).toNat := by cases f N <;> cases g N <;> rfl
    omega
theorem pop_split {X y : Nat} : pop16c X = pop16c (X &&& y) + pop16c (X &&& (65535 ^^^ y)) := by
  unfold pop16c
  rw [ctn_split (fun s => X.testBit s) (fun s => y.testBit s) 16]
  congr 1
  · exact ctn_congr 16 (fun s _ => (Nat.testBit_and X y s).symm)
  · refine ctn_congr 16 (fun s hs => ?_)
    rw [Nat.testBit_and, Nat.testBit_xor, show (65535 : Nat) = 2 ^ 16 - 1 from rfl, Nat.testBit_two_pow_sub_one, decide_eq_true hs]
    cases X.testBit s <;> cases y.testBit s <;> rfl
/-- d questions of those suffice -/
def SL (Ys : Nat → Prop) : Nat → Nat → Prop
  | 0, X => pop16c X ≤ 1
  | d + 1, X => SL Ys d X ∨ ∃ y, Ys y ∧ SL Ys d (X &&& y) ∧ SL Ys d (X &&& (65535 ^^^ y))
theorem SL.up {Ys : Nat → Prop} {d X : Nat} (h : SL Ys d X) : SL Ys (d + 1) X := Or.inl h
theorem SL.one {Ys : Nat → Prop} {X : Nat} (h : pop16c X ≤ 1) : ∀ d : Nat, SL Ys d X := by
  intro d
  induction d with
  | zero => exact h
  | succ d ih => exact Or.inl ih
theorem SL.pop {Ys : Nat → Prop} : ∀ (d X : Nat), SL Ys d X → pop16c X ≤ 2 ^ d := by
  intro d
  induction d with
  | zero => intro X h; exact h
  | succ d ih =>
    intro X h
    have p : 2 ^ (d + 1) = 2 ^ d + 2 ^ d := by rw [Nat.pow_succ]; omega
    rcases h with h | ⟨y, _, h1, h2⟩
    · have := ih X h; omega
    · have a := ih _ h1
      have b := ih _ h2
      rw [pop_split (X := X) (y := y)]
      omega
theorem and_full {X : Nat} (hX : X < 65536) : X &&& 65535 = X := by
  rw [show (65535 : Nat) = 2 ^ 16 - 1 from rfl, Nat.and_two_pow_sub_one_eq_mod]
  omega
theorem and_lt {X y : Nat} (hX : X < 65536) : X &&& y < 65536 := Nat.lt_of_le_of_lt Nat.and_le_left hX
/-- questions that divide nothing don't help -/
theorem SL.sub {Ys Zs : Nat → Prop} (h : ∀ y, Ys y → Zs y ∨ y = 0) : ∀ (d X : Nat), X < 65536 → SL Ys d X → SL Zs d X := by
  intro d
  induction d with
  | zero => intro X _ h; exact h
  | succ d ih =>
    intro X hX k
    rcases k with k | ⟨y, y0, k1, k2⟩
    · exact Or.inl (ih X hX k)
    · rcases h y y0 with z | z
      · exact Or.inr ⟨y, z, ih _ (and_lt hX) k1, ih _ (and_lt hX) k2⟩
      · rw [z, show (65535 : Nat) ^^^ 0 = 65535 from rfl, and_full hX] at k2
        exact Or.inl (ih X hX k2)
/-- one that helps -/
theorem SL.help {Ys : Nat → Prop} : ∀ (d X : Nat), X < 65536 → 1 < pop16c X → SL Ys (d + 1) X → ∃ y, Ys y ∧ (¬ X &&& y = 0 ∧ ¬ X &&& (65535 ^^^ y) = 0) ∧ SL Ys d (X &&& y) ∧ SL Ys d (X &&& (65535 ^^^ y)) := by
  intro d
  induction d with
  | zero =>
    intro X hX hp h
    rcases h with h | ⟨y, y0, h1, h2⟩
    · have : pop16c X ≤ 1 := h
      omega
    · refine ⟨y, y0, ⟨fun e => ?_, fun e => ?_⟩, h1, h2⟩
      · have s := pop_split (X := X) (y := y)
        rw [e] at s
        have z : pop16c 0 = 0 := rfl
        have : pop16c (X &&& (65535 ^^^ y)) ≤ 1 := h2
        omega
      · have s := pop_split (X := X) (y := y)
        rw [e] at s
        have z : pop16c 0 = 0 := rfl
        have : pop16c (X &&& y) ≤ 1 := h1
        omega
  | succ d ih =>
    intro X hX hp h
    rcases h with h | ⟨y, y0, h1, h2⟩
    · obtain ⟨y, a, b, c1, c2⟩ := ih X hX hp h
      exact ⟨y, a, b, c1.up, c2.up⟩
    · by_cases e1 : X &&& y = 0
      · have e2 : X &&& (65535 ^^^ y) = X := by
          refine Nat.eq_of_testBit_eq (fun s => ?_)
          have t : (X.testBit s && y.testBit s) = false := by rw [← Nat.testBit_and, e1, Nat.zero_testBit]
          rw [Nat.testBit_and, Nat.testBit_xor, show (65535 : Nat) = 2 ^ 16 - 1 from rfl, Nat.testBit_two_pow_sub_one]
          by_cases c : s < 16
          · rw [decide_eq_true c]
            cases e : X.testBit s with
            | false => rfl
            | true => rw [e, Bool.true_and] at t; rw [t]; rfl
          · rw [Nat.testBit_lt_two_pow (Nat.lt_of_lt_of_le hX (Nat.pow_le_pow_right (n := 2) (by decide) (show 16 ≤ s by omega)))]; rfl
        rw [e2] at h2
        obtain ⟨y, a, b, c1, c2⟩ := ih X hX hp h2
        exact ⟨y, a, b, c1.up, c2.up⟩
      · by_cases e2 : X &&& (65535 ^^^ y) = 0
        · have e3 : X &&& y = X := by
            refine Nat.eq_of_testBit_eq (fun s => ?_)
            have t : (X &&& (65535 ^^^ y)).testBit s = false := by rw [e2, Nat.zero_testBit]
            rw [Nat.testBit_and, Nat.testBit_xor, show (65535 : Nat) = 2 ^ 16 - 1 from rfl, Nat.testBit_two_pow_sub_one] at t
            rw [Nat.testBit_and]
            by_cases c : s < 16
            · rw [decide_eq_true c] at t
              cases e : X.testBit s with
              | false => rfl
              | true =>
                rw [e, Bool.true_and] at t
                cases e4 : y.testBit s with
                | true => rfl
                | false => rw [e4] at t; cases t
            · rw [Nat.testBit_lt_two_pow (Nat.lt_of_lt_of_le hX (Nat.pow_le_pow_right (n := 2) (by decide) (show 16 ≤ s by omega)))]; rfl
          rw [e3] at h1
          obtain ⟨y, a, b, c1, c2⟩ := ih X hX hp h1
          exact ⟨y, a, b, c1.up, c2.up⟩
        · exact ⟨y, y0, ⟨e1, e2⟩, h1, h2⟩
/-- the least number of them -/
def QST (Ys : Nat → Prop) (X : Nat) (r : Int) : Prop := (∃ d : Nat, d ≤ 4 ∧ r = (d : Int) ∧ SL Ys d X ∧ ∀ e, e < d → ¬ SL Ys e X) ∨ (r = -1 ∧ ∀ e, e ≤ 4 → ¬ SL Ys e X)
theorem QST.eq {Ys Zs : Nat → Prop} {X : Nat} {r s : Int} (h : ∀ d, SL Ys d X ↔ SL Zs d X) (a : QST Ys X r) (b : QST Zs X s) : r = s := by
  rcases a with ⟨d, a1, a2, a3, a4⟩ | ⟨a1, a2⟩
  · rcases b with ⟨e, b1, b2, b3, b4⟩ | ⟨b1, b2⟩
    · have : d = e := by
        apply Classical.byContradiction
        intro hne
        by_cases c : d < e
        · exact b4 d c ((h d).mp a3)
        · exact a4 e (by omega) ((h e).mpr b3)
      rw [a2, b2, this]
    · exact absurd ((h d).mp a3) (b2 d a1)
  · rcases b with ⟨e, b1, b2, b3, b4⟩ | ⟨b1, b2⟩
    · exact absurd ((h e).mpr b3) (a2 e b1)
    · rw [a1, b1]
theorem ix_b31 {b : Nat} (hb : b < 2147483648) : (Int32.ofInt (ixor (b : Int) (-1))).toBitVec.toNat = b ^^^ 4294967295 := by
  unfold ixor
  rw [Int32.ofInt_toInt, Int32.toBitVec_xor, BitVec.toNat_xor, nonneg_bv (by omega) (by omega), Int.toNat_natCast]
  congr 1
theorem iand_clr16 {a b : Nat} (ha : a < 65536) (hb : b < 65536) : iand (a : Int) (ixor (b : Int) (-1)) = ((a &&& (65535 ^^^ b) : Nat) : Int) := by
  have e : (Int32.ofInt (a : Int) &&& Int32.ofInt (ixor (b : Int) (-1))).toBitVec.toNat = a &&& (65535 ^^^ b) := by
    rw [Int32.toBitVec_and, BitVec.toNat_and, nonneg_bv (by omega) (by omega), ix_b31 (by omega), Int.toNat_natCast]
    refine Nat.eq_of_testBit_eq (fun i => ?_)
    rw [Nat.testBit_and, Nat.testBit_and, Nat.testBit_xor, Nat.testBit_xor, show (4294967295 : Nat) = 2 ^ 32 - 1 from rfl, show (65535 : Nat) = 2 ^ 16 - 1 from rfl, Nat.testBit_two_pow_sub_one, Nat.testBit_two_pow_sub_one]
    by_cases c : i < 16
    · rw [decide_eq_true c, decide_eq_true (show i < 32 by omega), Bool.xor_comm]
    · have : a.testBit i = false := Nat.testBit_lt_two_pow (Nat.lt_of_lt_of_le ha (Nat.pow_le_pow_right (n := 2) (by decide) (show 16 ≤ i by omega)))
      rw [this]; rfl
  have h2 : a &&& (65535 ^^^ b) ≤ a := Nat.and_le_left
  unfold iand
  rw [toInt_small _ (by rw [e]; omega), e]
section
variable {M : Mem}
/-- the class's questions -/
def ASK (A : Nat → Nat) (M : Mem) : Prop := (mK M 46).2 = 12 ∧ ∀ p : Nat, p < 12 → A p < 65536 ∧ mG M 46 (p : Int) = ((A p : Nat) : Int)
def AYs (A : Nat → Nat) (y : Nat) : Prop := ∃ p, p < 12 ∧ y = A p
theorem q_suffice {A : Nat → Nat} (hA : ASK A M) : ∀ (fu X d : Nat), X < 65536 → d ≤ 4 → pw (gX4_suffice fu 46 (X : Int) (d : Int) M) (fun q => q.2 = M ∧ ((SL (AYs A) d X ∧ q.1 = 1) ∨ (¬ SL (AYs A) d X ∧ q.1 = 0))) := by
  intro fu
  induction fu with
  | zero => intro X d _ _; exact p_none
  | succ fu ih =>
    intro X d hX hd
    obtain ⟨Q, hQ⟩ : ∃ Q : Int × Mem → Prop, Q = fun q => q.2 = M ∧ ((SL (AYs A) d X ∧ q.1 = 1) ∨ (¬ SL (AYs A) d X ∧ q.1 = 0)) := ⟨_, rfl⟩
    rw [← hQ]
    show pw (mX4_suffice (gX4_suffice fu) 46 (X : Int) (d : Int) M) Q
    unfold mX4_suffice
    refine p_call (q_bc16 hX) (fun v m y => ?_)
    obtain ⟨y1, y2⟩ := y
    replace y1 : m = M := y1
    replace y2 : v = ((pop16 X : Nat) : Int) := y2
    subst y1; subst y2
    rw [pop16_c]
    refine p_if (fun c => ?_) (fun c => p_ret ?_)
    · replace c : (1 : Int) < ((pop16c X : Nat) : Int) := c
      have hp : 1 < pop16c X := by omega
      refine p_if (fun c2 => p_ret ?_) (fun c2 => ?_)
      · have e : d = 0 := by omega
        rw [hQ]
        refine ⟨rfl, Or.inr ⟨fun h => ?_, rfl⟩⟩
        rw [e] at h
        have h : pop16c X ≤ 1 := h
        omega
      obtain ⟨e, rfl⟩ : ∃ e, d = e + 1 := ⟨d - 1, by omega⟩
      refine p_call (q_bc16 hX) (fun v m2 y => ?_)
      obtain ⟨y1, y2⟩ := y
      replace y1 : m2 = m := y1
      replace y2 : v = ((pop16 X : Nat) : Int) := y2
      subst y1; subst y2
      rw [pop16_c, ishl1 (e + 1) (by omega), show (2 : Int) ^ (e + 1) = ((2 ^ (e + 1) : Nat) : Int) by simp]
      refine p_if (fun c3 => ?_) (fun c3 => p_ret ?_)
      · have loop : ∀ (fu2 p : Nat), p ≤ 12 → (∀ x, x < p → ¬ ((¬ X &&& A x = 0 ∧ ¬ X &&& (65535 ^^^ A x) = 0) ∧ SL (AYs A) e (X &&& A x) ∧ SL (AYs A) e (X &&& (65535 ^^^ A x)))) → pw (mX4_suffice_28 (gX4_suffice fu) fu2 46 (X : Int) ((e + 1 : Nat) : Int) (p : Int) m2) Q := by
          intro fu2
          induction fu2 with
          | zero => intro p _ _; exact p_none
          | succ fu2 ih2 =>
            intro p hp12 hx
            show pw (bX4_suffice_28 (gX4_suffice fu) (mX4_suffice_28 (gX4_suffice fu) fu2) 46 (X : Int) ((e + 1 : Nat) : Int) (p : Int) m2) Q
            unfold bX4_suffice_28
            refine p_aL (fun len hlen => ?_)
            rw [hA.1] at hlen
            refine p_if (fun d1 => p_ret ?_) (fun d1 => ?_)
            · rw [hQ]
              refine ⟨rfl, Or.inr ⟨fun h => ?_, rfl⟩⟩
              obtain ⟨y, ⟨x, x12, ey⟩, b1, b2, b3⟩ := SL.help e X hX hp h
              rw [ey] at b1 b2 b3
              exact hx x (by omega) ⟨b1, b2, b3⟩
            · have p1 : p < 12 := by omega
              obtain ⟨al, ae⟩ := hA.2 p p1
              refine p_aGc ae (p_aGc ae (p_some (fun b48 hb => ?_)))
              rw [iand_clr16 hX al] at hb
              subst hb
              rw [iand_c X (A p) (by omega) (by omega)]
              have xl : X &&& A p < 65536 := and_lt hX
              have xr : X &&& (65535 ^^^ A p) < 65536 := and_lt hX
              have nxt : ¬ ((¬ X &&& A p = 0 ∧ ¬ X &&& (65535 ^^^ A p) = 0) ∧ SL (AYs A) e (X &&& A p) ∧ SL (AYs A) e (X &&& (65535 ^^^ A p))) → pw (mX4_suffice_98 (mX4_suffice_28 (gX4_suffice fu) fu2) (gX4_suffice fu) 46 (X : Int) ((e + 1 : Nat) : Int) (p : Int) m2) Q := fun h => by
                unfold mX4_suffice_98
                rw [wI_s (p := p) (by omega)]
                refine ih2 (p + 1) (by omega) (fun x hx2 => ?_)
                by_cases z : x = p
                · rw [z]; exact h
                · exact hx x (by omega)
              refine p_if (fun z1 => ?_) (fun z1 => p_if (fun z2 => ?_) (fun z2 => ?_))
              · unfold mX4_suffice_64 mX4_suffice_65
                exact p_it1 rfl (nxt (fun w => w.1.1 (by omega)))
              · unfold mX4_suffice_64 mX4_suffice_65
                exact p_it1 rfl (nxt (fun w => w.1.2 (by omega)))
              · unfold mX4_suffice_65
                rw [wI_id (x := ((e + 1 : Nat) : Int) - 1) (by omega) (by omega), show ((e + 1 : Nat) : Int) - 1 = (e : Int) by omega]
                refine p_it0 z_1 (p_call (ih (X &&& A p) e xl (by omega)) (fun v m3 y => ?_))
                obtain ⟨y1, y2⟩ := y
                replace y1 : m3 = m2 := y1
                subst y1
                rcases y2 with ⟨s1, e1⟩ | ⟨s1, e1⟩
                · replace e1 : v = 1 := e1
                  refine p_it0 (show ¬ v = 0 by omega) (p_call (ih (X &&& (65535 ^^^ A p)) e xr (by omega)) (fun v m4 y => ?_))
                  obtain ⟨y3, y4⟩ := y
                  replace y3 : m4 = m3 := y3
                  subst y3
                  rcases y4 with ⟨s2, e2⟩ | ⟨s2, e2⟩
                  · replace e2 : v = 1 := e2
                    refine p_it0 (show ¬ v = 0 by omega) (p_ret ?_)
                    rw [hQ]
                    exact ⟨rfl, Or.inl ⟨Or.inr ⟨A p, ⟨p, p1, rfl⟩, s1, s2⟩, rfl⟩⟩
                  · exact p_it1 e2 (nxt (fun w => s2 w.2.2))
                · exact p_it1 e1 (nxt (fun w => s1 w.2.1))
        exact loop FU 0 (by omega) (fun x hx => absurd hx (by omega))
      · rw [hQ]
        refine ⟨rfl, Or.inr ⟨fun h => ?_, rfl⟩⟩
        have := SL.pop _ _ h
        have c3 : ¬ ((pop16c X : Nat) : Int) ≤ ((2 ^ (e + 1) : Nat) : Int) := c3
        omega
    · rw [hQ]
      replace c : ¬ (1 : Int) < ((pop16c X : Nat) : Int) := c
      exact ⟨rfl, Or.inl ⟨SL.one (by omega) d, rfl⟩⟩
end
end
section
/-! ===== the class asks ===== -/
theorem bits_full : ∀ k : Nat, bitsOf (fun _ => true) k = 2 ^ k - 1 := fun k => by
  refine Nat.eq_of_testBit_eq (fun i => ?_)
  rw [bitsOf_b, Nat.testBit_two_pow_sub_one, Bool.and_true]
theorem bits_up (P : Nat → Bool) (k : Nat) : bitsOf P (k + 1) = bitsOf P k ||| (if P k = true then 2 ^ k else 0) := rfl
/-- the worlds, told one by one -/
def WKS (f : Nat → Bool) (L N : Nat) (W : Nat → Nat) : Prop := ∀ k, k < N → W k < L ∧ f (W k) = true ∧ ctn f (W k) = k
theorem wks_ex {f : Nat → Bool} : ∀ L : Nat, ∃ W : Nat → Nat, WKS f L (ctn f L) W := by
  intro L
  have h : ∀ L k : Nat, k < ctn f L → ∃ w, w < L ∧ f w = true ∧ ctn f w = k := by
    intro L
    induction L with
    | zero => intro k hk; exact absurd hk (by show ¬ k < 0; omega)
    | succ L ih =>
      intro k hk
      rw [ctn_s] at hk
      by_cases c : k < ctn f L
      · obtain ⟨w, a, b, d⟩ := ih k c
        exact ⟨w, by omega, b, d⟩
      · cases e : f L with
        | true => rw [e] at hk; exact ⟨L, by omega, e, by have : true.toNat = 1 := rfl; omega⟩
        | false => rw [e] at hk; have : false.toNat = 0 := rfl; omega
  have h2 : ∀ k : Nat, ∃ w, k < ctn f L → w < L ∧ f w = true ∧ ctn f w = k := fun k => by
    by_cases c : k < ctn f L
    · obtain ⟨w, a⟩ := h L k c
      exact ⟨w, fun _ => a⟩
    · exact ⟨0, fun d => absurd d c⟩
  exact ⟨fun k => Classical.choose (h2 k), fun k hk => Classical.choose_spec (h2 k) hk⟩
/-- a question, as the numbers of the worlds in which the bit is so -/
def Ybt (W : Nat → Nat) (N b : Nat) : Nat := bitsOf (fun k => (W k).testBit b) N
def Apl (W : Nat → Nat) (n N p : Nat) : Nat := if p < n then Ybt W N (n - 1 - p) else 0
section
variable {M : Mem}
theorem q_takeAsked {n N : Nat} {S : SH} {f : Nat → Bool} {W : Nat → Nat} (ok : S.ok) (hn : S.nf = (n : Int)) (n12 : n ≤ 12) (k2 : K2 M) (sh : SHC S 4 M) (ws : WS 34 (n : Int) f M) (hf : ∀ w, ¬ w < 2 ^ n → f w = false) (hN : ctn f (2 ^ n) = N) (h16 : N ≤ 16) (hW : WKS f (2 ^ n) N W) : pw (mX4_takeAsked 2 M) (fun q => (∀ c j : Int, ¬ c = 46 → mG q.2 c j = mG M c j) ∧ q.1 = ((2 ^ N - 1 : Nat) : Int) ∧ ∀ p : Nat, p < 12 → mG q.2 46 (p : Int) = ((Apl W n N p : Nat) : Int)) := by
  have nf := ok.nf
  have p12 : 2 ^ n ≤ 2 ^ 12 := Nat.pow_le_pow_right (n := 2) (by decide) n12
  obtain ⟨Q, hQ⟩ : ∃ Q : Int × Mem → Prop, Q = fun q => (∀ c j : Int, ¬ c = 46 → mG q.2 c j = mG M c j) ∧ q.1 = ((2 ^ N - 1 : Nat) : Int) ∧ ∀ p : Nat, p < 12 → mG q.2 46 (p : Int) = ((Apl W n N p : Nat) : Int) := ⟨_, rfl⟩
  rw [← hQ]
  have blt : ∀ (P : Nat → Bool) (k : Nat), k ≤ 16 → bitsOf P k < 65536 := fun P k hk => Nat.lt_of_lt_of_le (bitsOf_lt P k) (Nat.pow_le_pow_right (n := 2) (by decide) hk)
  have Alt : ∀ k p, k ≤ 16 → Apl W n k p < 65536 := fun k p hk => by
    unfold Apl Ybt
    split
    · exact blt _ k hk
    · decide
  have l33 : ∀ (fu k : Nat) (m : Mem), k ≤ N → (∀ c j : Int, ¬ c = 46 → mG m c j = mG M c j) → (∀ p : Nat, p < 12 → mG m 46 (p : Int) = ((Apl W n k p : Nat) : Int)) → pw (mX4_takeAsked_33 fu 2 ((2 ^ k - 1 : Nat) : Int) (N : Int) (k : Int) m) Q := by
    intro fu
    induction fu with
    | zero => intro k m _ _ _; exact p_none
    | succ fu ih =>
      intro k m hk g ha
      show pw (bX4_takeAsked_33 (mX4_takeAsked_33 fu) 2 _ (N : Int) (k : Int) m) Q
      have km : K2 m := k2.kp (fun x hx => g _ _ (by have c := cst_out x hx; omega))
      unfold bX4_takeAsked_33
      refine p_if (fun c => p_ret ?_) (fun c => ?_)
      · have e : k = N := by omega
        rw [hQ]
        rw [e] at ha
        exact ⟨g, by rw [e], ha⟩
      have k1 : k < N := by omega
      have shm : SHC S 4 m := sh.kp (fun c j c0 c1 => g c j (by omega))
      have wsm : WS 34 (n : Int) f m := ws.kp (fun j => g _ j (by decide)) (fun j => g _ j (by decide))
      refine p_gFc (ji := 6) rfl km.c2_6 (p_gK (p_call (q_nth (l := 34) (k := (k : Int)) (by omega) ⟨by omega, by omega⟩ wsm) (fun v m2 y => ?_)))
      obtain ⟨y1, y2⟩ := y
      replace y1 : m2 = m := y1
      replace y2 : NTH f (2 ^ n) (k : Int) v := y2
      subst y1
      have ev : v = ((W k : Nat) : Int) := by
        obtain ⟨w1, w2, w3⟩ := hW k k1
        exact y2.uniq (fun _ _ => rfl) (Or.inr ⟨W k, w1, rfl, w2, by omega⟩)
      subst ev
      have wl := (hW k k1).1
      have pk : 2 ^ k ≤ 2 ^ 15 := Nat.pow_le_pow_right (n := 2) (by decide) (by omega)
      have l51 : ∀ (fu2 p : Nat) (m3 : Mem), p ≤ n → (∀ c j : Int, ¬ c = 46 → mG m3 c j = mG M c j) → (∀ x : Nat, x < 12 → mG m3 46 (x : Int) = ((if x < p then Apl W n (k + 1) x else Apl W n k x : Nat) : Int)) → pw (mX4_takeAsked_51 (mX4_takeAsked_33 fu) fu2 2 ((2 ^ k - 1 : Nat) : Int) (N : Int) (k : Int) ((W k : Nat) : Int) (p : Int) m3) Q := by
        intro fu2
        induction fu2 with
        | zero => intro p m3 _ _ _; exact p_none
        | succ fu2 ih2 =>
          intro p m3 hp g3 ha3
          show pw (bX4_takeAsked_51 (mX4_takeAsked_33 fu) (mX4_takeAsked_51 (mX4_takeAsked_33 fu) fu2) 2 _ (N : Int) (k : Int) ((W k : Nat) : Int) (p : Int) m3) Q
          have k3 : K2 m3 := k2.kp (fun x hx => g3 _ _ (by have c := cst_out x hx; omega))
          have sh3 : SHC S 4 m3 := sh.kp (fun c j c0 c1 => g3 c j (by omega))
          unfold bX4_takeAsked_51
          refine p_gFc (ji := 0) rfl k3.c2_0 (p_gFc (ji := 0) rfl k3.c3_0 (p_gFc (ji := 7) rfl sh3.1.2.2.2.2.2.2.2 (p_if (fun c2 => ?_) (fun c2 => p_it0 (by omega) ?_))))
          · have e : p = n := by omega
            unfold mX4_takeAsked_112
            have pk1 : 1 ≤ 2 ^ k := Nat.one_le_two_pow
            have e2 : (2 ^ k - 1) ||| 2 ^ k = 2 ^ (k + 1) - 1 := by
              rw [← bits_full k, ← bits_full (k + 1), bits_up, if_pos rfl]
            rw [wI_s (p := k) (by omega), ishl1 k (by omega), show (2 : Int) ^ k = ((2 ^ k : Nat) : Int) by simp, ior_nn (by omega) (by omega), e2]
            refine ih (k + 1) m3 (by omega) g3 (fun x hx => ?_)
            rw [ha3 x hx]
            by_cases z : x < p
            · rw [if_pos z]
            · rw [if_neg z]
              unfold Apl
              rw [if_neg (by omega), if_neg (by omega)]
          · have p1 : p < n := by omega
            refine p_gFc (ji := 0) rfl k3.c2_0 (p_gFc (ji := 0) rfl k3.c3_0 (p_gK (p_call (q_bit (p := (p : Int)) sh3 ok ⟨by omega, by omega⟩) (fun bt m4 y => ?_))))
            obtain ⟨y3, y4⟩ := y
            replace y3 : m4 = m3 := y3
            replace y4 : bt = S.nf - 1 - (p : Int) := y4
            subst y3
            rw [hn, show (n : Int) - 1 - (p : Int) = ((n - 1 - p : Nat) : Int) by omega] at y4
            subst y4
            have hap := ha3 p (by omega)
            rw [if_neg (Nat.lt_irrefl p)] at hap
            have al := Alt k p (by omega)
            have up : Apl W n (k + 1) p = Apl W n k p ||| (if (W k).testBit (n - 1 - p) = true then 2 ^ k else 0) := by
              unfold Apl Ybt
              rw [if_pos p1, if_pos p1, bits_up]
            have nxt : ∀ m5, (∀ c j : Int, ¬ c = 46 → mG m5 c j = mG M c j) → (∀ x : Nat, x < 12 → mG m5 46 (x : Int) = ((if x < p + 1 then Apl W n (k + 1) x else Apl W n k x : Nat) : Int)) → pw (mX4_takeAsked_106 (mX4_takeAsked_33 fu) (mX4_takeAsked_51 (mX4_takeAsked_33 fu) fu2) 2 ((2 ^ k - 1 : Nat) : Int) (N : Int) (k : Int) ((W k : Nat) : Int) (p : Int) m5) Q := fun m5 g5 h5 => by
              unfold mX4_takeAsked_106
              rw [wI_s (p := p) (by omega)]
              exact ih2 (p + 1) m5 (by omega) g5 h5
            refine p_if (fun c3 => nxt m4 g3 (fun x hx => ?_)) (fun c3 => ?_)
            · have tb := (ibit (by omega) (by omega)).mp c3
              rw [tb, if_neg (by decide), Nat.or_zero] at up
              rw [ha3 x hx]
              by_cases z : x = p
              · rw [z, if_neg (Nat.lt_irrefl p), if_pos (by omega), up]
              · by_cases z2 : x < p
                · rw [if_pos z2, if_pos (by omega)]
                · rw [if_neg z2, if_neg (by omega)]
            · have tb : (W k).testBit (n - 1 - p) = true := by
                cases e : (W k).testBit (n - 1 - p) with
                | true => rfl
                | false => exact absurd ((ibit (by omega) (by omega)).mpr e) c3
              rw [tb, if_pos rfl] at up
              refine p_gFc (ji := 11) rfl k3.c2_11 (p_aGc hap (p_aS (fun m5 h5 => ?_)))
              rw [ishl1 k (by omega), show (2 : Int) ^ k = ((2 ^ k : Nat) : Int) by simp, ior_nn (by omega) (by omega), ← up] at h5
              refine nxt m5 (fun c j z => (st_ne h5 (fun w => z w.1)).trans (g3 c j z)) (fun x hx => ?_)
              by_cases z : x = p
              · rw [z, st_eq h5, if_pos (by omega)]
              · rw [st_ne h5 (fun w => z (by have := w.2; omega)), ha3 x hx]
                by_cases z2 : x < p
                · rw [if_pos z2, if_pos (by omega)]
                · rw [if_neg z2, if_neg (by omega)]
      exact l51 FU 0 m2 (Nat.zero_le _) g (fun x hx => by rw [if_neg (by omega)]; exact ha x hx)
  have l4 : ∀ (fu p : Nat) (m : Mem), p ≤ 12 → (∀ c j : Int, ¬ c = 46 → mG m c j = mG M c j) → (∀ x : Nat, x < p → mG m 46 (x : Int) = 0) → pw (mX4_takeAsked_4 fu 2 0 (p : Int) m) Q := by
    intro fu
    induction fu with
    | zero => intro p m _ _ _; exact p_none
    | succ fu ih =>
      intro p m hp g hz
      show pw (bX4_takeAsked_4 (mX4_takeAsked_4 fu) 2 0 (p : Int) m) Q
      have km : K2 m := k2.kp (fun x hx => g _ _ (by have c := cst_out x hx; omega))
      unfold bX4_takeAsked_4
      refine p_if (fun c => ?_) (fun c => ?_)
      · have wsm : WS 34 (n : Int) f m := ws.kp (fun j => g _ j (by decide)) (fun j => g _ j (by decide))
        refine p_gFc (ji := 6) rfl km.c2_6 (p_gK (p_call (q_count (l := 34) ⟨by omega, by omega⟩ wsm) (fun v m2 y => ?_)))
        obtain ⟨y1, y2⟩ := y
        replace y1 : m2 = m := y1
        subst y1
        have ev : v = ((N : Nat) : Int) := (show v = _ from y2).trans (by rw [ctn_uw n12 hf, hN])
        subst ev
        refine l33 FU 0 m2 (Nat.zero_le _) g (fun x hx => ?_)
        rw [hz x (by omega)]
        unfold Apl Ybt
        split <;> rfl
      · refine p_gFc (ji := 11) rfl km.c2_11 (p_aS (fun m2 h2 => ?_))
        rw [wI_s (p := p) (by omega)]
        refine ih (p + 1) m2 (by omega) (fun c j z => (st_ne h2 (fun w => z w.1)).trans (g c j z)) (fun x hx => ?_)
        by_cases e : x = p
        · rw [e]; exact st_eq h2
        · rw [st_ne h2 (fun w => e (by have := w.2; omega))]
          exact hz x (by omega)
  exact l4 FU 0 M (by omega) (fun _ _ _ => rfl) (fun x hx => absurd hx (by omega))
end
end
section
section
variable {M : Mem}
theorem q_questions {n : Nat} {P : Nat → List Row} {vw : Nat} {F : Int → Int} {nn : Nat} (iM : I nn M) (ok : (shp M).ok) (hn : (shp M).nf = (n : Int)) (k2 : K2 M) (sh : SHC (shp M) 4 M) (h1 : mG M 1 0 = 2) (hl : pw (mX4_lookUp 2 M) (fun q => (12 < n ∧ q.1 = 0 ∧ q.2 = M) ∨ (n ≤ 12 ∧ q.1 = 1 ∧ LK (shp M) P vw F M q.2))) : pw (mX8_questions 1 M) (fun q => (∀ c j : Int, 65 ≤ c → mG q.2 c j = mG M c j) ∧ ((¬ (n ≤ 12 ∧ 0 < ctn (WDw (shp M) P vw F) (2 ^ n) ∧ ctn (WDw (shp M) P vw F) (2 ^ n) ≤ 16) ∧ q.1 = -1) ∨ ((n ≤ 12 ∧ 0 < ctn (WDw (shp M) P vw F) (2 ^ n) ∧ ctn (WDw (shp M) P vw F) (2 ^ n) ≤ 16) ∧ ∀ W, WKS (WDw (shp M) P vw F) (2 ^ n) (ctn (WDw (shp M) P vw F) (2 ^ n)) W → QST (AYs (Apl W n (ctn (WDw (shp M) P vw F) (2 ^ n)))) (2 ^ (ctn (WDw (shp M) P vw F) (2 ^ n)) - 1) q.1))) := by
  have nf := ok.nf
  obtain ⟨f, hf⟩ : ∃ f, f = WDw (shp M) P vw F := ⟨_, rfl⟩
  have out : ∀ w, ¬ w < 2 ^ n → f w = false := fun w hw => by rw [hf]; exact wd_out hn hw
  obtain ⟨N, hN⟩ : ∃ N, N = ctn f (2 ^ n) := ⟨_, rfl⟩
  rw [← hf, ← hN]
  obtain ⟨Q, hQ⟩ : ∃ Q : Int × Mem → Prop, Q = fun q => (∀ c j : Int, 65 ≤ c → mG q.2 c j = mG M c j) ∧ ((¬ (n ≤ 12 ∧ 0 < N ∧ N ≤ 16) ∧ q.1 = -1) ∨ ((n ≤ 12 ∧ 0 < N ∧ N ≤ 16) ∧ ∀ W, WKS f (2 ^ n) N W → QST (AYs (Apl W n N)) (2 ^ N - 1) q.1)) := ⟨_, rfl⟩
  rw [← hQ]
  unfold mX8_questions
  refine p_gFc (ji := 0) rfl h1 (p_gK (p_call (P := Q) ?_ (fun v m y => p_ret y)))
  unfold mX4_fewestQuestions
  refine p_gK (p_call (p_and hl (p_wp (s_X4_lookUp iM))) (fun v m y => ?_))
  obtain ⟨y, yi⟩ := y
  replace yi : I nn m := yi.1
  rcases y with ⟨a, b, c⟩ | ⟨a, b, c⟩
  · replace c : m = M := c
    subst c
    refine p_it1 b (p_ret ?_)
    rw [hQ]
    exact ⟨fun _ _ _ => rfl, Or.inl ⟨fun w => by omega, rfl⟩⟩
  replace b : v = 1 := b
  obtain ⟨_, w34, _, _, fl⟩ := c
  replace fl : FLK M m := fl
  replace w34 : WS 34 (shp M).nf (WDw (shp M) P vw F) m := w34
  rw [hn, ← hf] at w34
  have km := k2.fl fl
  have u := uw_1 n a
  have cut : ctn f (64 * uw (n : Int)) = N := by rw [ctn_uw a out, hN]
  have f65 : ∀ c j : Int, 65 ≤ c → mG m c j = mG M c j := fun c j c0 => fl c j (nq_0 (by omega))
  refine p_it0 (show ¬ v = 0 by omega) (p_gFc (ji := 6) rfl km.c2_6 (p_gK (p_call (q_isNothing (l := 34) ⟨by omega, by omega⟩ w34) (fun r m1 y => ?_))))
  obtain ⟨y1, y2⟩ := y
  replace y1 : m1 = m := y1
  subst y1
  rcases y2 with ⟨z, e⟩ | ⟨z, e⟩
  · replace e : r = 1 := e
    refine p_it0 (show ¬ r = 0 by omega) (p_ret ?_)
    rw [hQ]
    refine ⟨f65, Or.inl ⟨fun w => ?_, rfl⟩⟩
    have := (ctn_0 _).mp z
    omega
  replace e : r = 0 := e
  have N0 : 0 < N := by
    obtain ⟨w, w1, w2⟩ := z
    apply Classical.byContradiction
    intro h
    rw [(ctn_0 _).mpr (show ctn f (64 * uw (n : Int)) = 0 by omega) w w1] at w2
    cases w2
  refine p_it1 e (p_gFc (ji := 6) rfl km.c2_6 (p_gK (p_call (q_count (l := 34) ⟨by omega, by omega⟩ w34) (fun v m2 y => ?_))))
  obtain ⟨y1, y2⟩ := y
  replace y1 : m2 = m1 := y1
  subst y1
  have ev : v = ((N : Nat) : Int) := (show v = _ from y2).trans (by rw [cut])
  subst ev
  refine p_if (fun c16 => ?_) (fun c16 => p_ret ?_)
  · have h16 : N ≤ 16 := by omega
    obtain ⟨W, hW⟩ := wks_ex (f := f) (2 ^ n)
    rw [← hN] at hW
    have fin : ∀ (m3 : Mem) (d : Nat), (∀ c j : Int, 65 ≤ c → mG m3 c j = mG M c j) → K2 m3 → d ≤ 5 → (∀ V, WKS f (2 ^ n) N V → ASK (Apl V n N) m3) → (∀ V, WKS f (2 ^ n) N V → ∀ e, e < d → ¬ SL (AYs (Apl V n N)) e (2 ^ N - 1)) → ∀ fu : Nat, pw (mX4_fewestQuestions_38 fu 2 ((2 ^ N - 1 : Nat) : Int) (d : Int) m3) Q := by
      intro m3 d g3 k3 hd hask hno fu
      induction fu generalizing d with
      | zero => exact p_none
      | succ fu ih =>
        show pw (bX4_fewestQuestions_38 (mX4_fewestQuestions_38 fu) 2 _ (d : Int) m3) Q
        have Xl : 2 ^ N - 1 < 65536 := by
          have : 2 ^ N ≤ 2 ^ 16 := Nat.pow_le_pow_right (n := 2) (by decide) h16
          omega
        unfold bX4_fewestQuestions_38
        refine p_if (fun c => p_ret ?_) (fun c => ?_)
        · rw [hQ]
          exact ⟨g3, Or.inr ⟨⟨a, N0, h16⟩, fun V hV => Or.inr ⟨rfl, fun e he => hno V hV e (by omega)⟩⟩⟩
        · have sf : ∀ V, WKS f (2 ^ n) N V → _ := fun V hV => q_suffice (hask V hV) 8 (2 ^ N - 1) d Xl (by omega)
          refine p_gFc (ji := 11) rfl k3.c2_11 (p_call (P := fun q => q.2 = m3 ∧ ∀ V, WKS f (2 ^ n) N V → ((SL (AYs (Apl V n N)) d (2 ^ N - 1) ∧ q.1 = 1) ∨ (¬ SL (AYs (Apl V n N)) d (2 ^ N - 1) ∧ q.1 = 0))) (fun q e => ⟨(sf W hW q e).1, fun V hV => (sf V hV q e).2⟩) (fun r m4 y => ?_))
          obtain ⟨y3, y4⟩ := y
          replace y3 : m4 = m3 := y3
          subst y3
          refine p_if (fun z0 => ?_) (fun z0 => p_ret ?_)
          · have z0 : r = 0 := z0
            rw [wI_s (p := d) (by omega)]
            refine ih (d + 1) (by omega) (fun V hV e he => ?_)
            by_cases ed : e = d
            · rw [ed]
              rcases y4 V hV with ⟨_, w⟩ | ⟨w, _⟩
              · have w : r = 1 := w
                omega
              · exact w
            · exact hno V hV e (by omega)
          · have z0 : ¬ r = 0 := z0
            rw [hQ]
            refine ⟨g3, Or.inr ⟨⟨a, N0, h16⟩, fun V hV => Or.inl ⟨d, by omega, rfl, ?_, hno V hV⟩⟩⟩
            rcases y4 V hV with ⟨w, _⟩ | ⟨_, w⟩
            · exact w
            · exact absurd w z0
    have ta : ∀ V, WKS f (2 ^ n) N V → _ := fun V hV => q_takeAsked (S := shp M) (W := V) ok hn a km (sh.fl fl) w34 out hN.symm h16 hV
    refine p_gK (p_call (P := fun q => (∀ c j : Int, ¬ c = 46 → mG q.2 c j = mG m2 c j) ∧ q.1 = ((2 ^ N - 1 : Nat) : Int) ∧ I nn q.2 ∧ ∀ V, WKS f (2 ^ n) N V → ∀ p : Nat, p < 12 → mG q.2 46 (p : Int) = ((Apl V n N p : Nat) : Int)) (fun q e => ⟨(ta W hW q e).1, (ta W hW q e).2.1, (p_wp (s_X4_takeAsked yi) q e).1, fun V hV => (ta V hV q e).2.2⟩) (fun v m3 y => ?_))
    obtain ⟨x1, x2, x3, x4⟩ := y
    replace x1 : ∀ c j : Int, ¬ c = 46 → mG m3 c j = mG m2 c j := x1
    replace x2 : v = ((2 ^ N - 1 : Nat) : Int) := x2
    replace x3 : I nn m3 := x3
    subst x2
    refine fin m3 0 (fun c j c0 => (x1 c j (by omega)).trans (f65 c j c0)) (K2.of x3) (by omega) (fun V hV => ⟨by rw [kl_46 x3], fun p hp => ⟨?_, x4 V hV p hp⟩⟩) (fun V hV e he => absurd he (by omega)) FU
    unfold Apl Ybt
    split
    · exact Nat.lt_of_lt_of_le (bitsOf_lt _ _) (Nat.pow_le_pow_right (n := 2) (by decide) h16)
    · decide
  · rw [hQ]
    exact ⟨f65, Or.inl ⟨fun w => by omega, rfl⟩⟩
end
end
