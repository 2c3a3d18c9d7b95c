/-! ===== the number of a world by other numbers ===== -/
def orN (g : Nat → Nat) : Nat → Nat
  | 0 => 0
  | k + 1 => orN g k ||| g k
theorem orN_b (g : Nat → Nat) (b : Nat) : ∀ k : Nat, (orN g k).testBit b = true ↔ ∃ p, p < k ∧ (g p).testBit b = true := by
  intro k
  induction k with
  | zero =>
    show (0 : Nat).testBit b = true ↔ _
    rw [Nat.zero_testBit]
    exact ⟨fun h => absurd h (by decide), fun ⟨p, hp, _⟩ => absurd hp (by omega)⟩
  | succ k ih =>
    show (orN g k ||| g k).testBit b = true ↔ _
    rw [Nat.testBit_or, Bool.or_eq_true, ih]
    constructor
    · rintro (⟨p, p1, p2⟩ | h)
      · exact ⟨p, by omega, p2⟩
      · exact ⟨k, by omega, h⟩
    · rintro ⟨p, p1, p2⟩
      by_cases e : p = k
      · rw [e] at p2; exact Or.inr p2
      · exact Or.inl ⟨p, by omega, p2⟩
theorem orN_lt {g : Nat → Nat} {n : Nat} (h : ∀ p, g p < 2 ^ n) : ∀ k : Nat, orN g k < 2 ^ n := by
  intro k
  induction k with
  | zero => exact Nat.two_pow_pos n
  | succ k ih => exact Nat.or_lt_two_pow ih (h k)
section
variable {S : SH} {n : Nat}
/-- every place is a fact's -/
theorem pl_ex (ok : S.ok) {p : Nat} (hp : (p : Int) < S.nf) : ∃ r i j : Int, (0 ≤ r ∧ r < S.nr) ∧ S.inr r i j ∧ S.at' r i j = (p : Int) := by
  obtain ⟨r, h1, h2, h3⟩ := rAt_ex (S := S) (p := p) S.nr.toNat (by have := ok.2.1; omega) hp
  have z2 := zv_c ok (r := (r : Int)) (by omega) h1
  have st1 : S.st (r + 1) = S.st r + S.zv (S.k1 r) * S.zv (S.k2 r) := rfl
  rw [st1] at h3
  refine ⟨(r : Int), ((p : Int) - S.st r) / S.zv (S.k2 r), ((p : Int) - S.st r) % S.zv (S.k2 r), ⟨by omega, h1⟩, ?_, ?_⟩
  · have c : S.col r (((p : Int) - S.st r) % S.zv (S.k2 r)) = ((p : Int) - S.st r) % S.zv (S.k2 r) := by
      unfold SH.col
      by_cases e : S.k2 r = -1
      · have z : S.zv (S.k2 r) = 1 := by unfold SH.zv; rw [if_pos e]
        rw [if_pos e, z]; omega
      · rw [if_neg e]
    refine ⟨?_, ?_⟩
    · generalize S.zv (S.k2 r) = z at *
      rcases z2 with z2 | z2 | z2 <;> subst z2 <;> constructor <;> omega
    · rw [c]
      generalize S.zv (S.k2 r) = z at *
      rcases z2 with z2 | z2 | z2 <;> subst z2 <;> constructor <;> omega
  · unfold SH.at'
    have c : S.col r (((p : Int) - S.st r) % S.zv (S.k2 r)) = ((p : Int) - S.st r) % S.zv (S.k2 r) := by
      unfold SH.col
      by_cases e : S.k2 r = -1
      · have z : S.zv (S.k2 r) = 1 := by unfold SH.zv; rw [if_pos e]
        rw [if_pos e, z]; omega
      · rw [if_neg e]
    rw [c, Int.toNat_natCast]
    generalize S.zv (S.k2 r) = z at *
    rcases z2 with z2 | z2 | z2 <;> subst z2 <;> omega
/-- where a place goes -/
noncomputable def tpp (S : SH) (f : Int → Int → Int) (p : Int) : Int :=
  @dite Int (∃ t : Int × Int × Int, ((0 ≤ t.1 ∧ t.1 < S.nr) ∧ S.inr t.1 t.2.1 t.2.2) ∧ S.at' t.1 t.2.1 t.2.2 = p) (Classical.propDecidable _) (fun h => S.at' (Classical.choose h).1 (f (S.k1 (Classical.choose h).1) (Classical.choose h).2.1) (f (S.k2 (Classical.choose h).1) (Classical.choose h).2.2)) (fun _ => 0)
theorem tpp_at (ok : S.ok) {f : Int → Int → Int} {r i j : Int} (r0 : 0 ≤ r) (r1 : r < S.nr) (hi : S.inr r i j) : tpp S f (S.at' r i j) = S.at' r (f (S.k1 r) i) (f (S.k2 r) j) := by
  have h : ∃ t : Int × Int × Int, ((0 ≤ t.1 ∧ t.1 < S.nr) ∧ S.inr t.1 t.2.1 t.2.2) ∧ S.at' t.1 t.2.1 t.2.2 = S.at' r i j := ⟨(r, i, j), ⟨⟨r0, r1⟩, hi⟩, rfl⟩
  unfold tpp
  rw [dif_pos h]
  obtain ⟨⟨c1, c2⟩, c3⟩ := Classical.choose_spec h
  obtain ⟨e1, e2, e3⟩ := at_inj ok c1.1 c1.2 r0 r1 c2 hi c3
  generalize Classical.choose h = t at *
  obtain ⟨r', i', j'⟩ := t
  replace e1 : r' = r := e1
  replace e2 : i' = i := e2
  replace e3 : S.col r' j' = S.col r' j := e3
  subst e1; subst e2
  show S.at' r' (f (S.k1 r') i') (f (S.k2 r') j') = S.at' r' (f (S.k1 r') i') (f (S.k2 r') j)
  refine at_col ?_
  unfold SH.col at e3 ⊢
  by_cases e : S.k2 r' = -1
  · rw [if_pos e, if_pos e]
  · rw [if_neg e, if_neg e] at e3 ⊢
    rw [e3]
/-- the facts of x are those of w, renumbered -/
def IMf (S : SH) (n : Nat) (f : Int → Int → Int) (w x : Nat) : Prop := x < 2 ^ n ∧ ∀ r i j : Int, 0 ≤ r → r < S.nr → S.inr r i j → phw (n : Int) x (S.at' r (f (S.k1 r) i) (f (S.k2 r) j)) = phw (n : Int) w (S.at' r i j)
noncomputable def gim (S : SH) (n : Nat) (f : Int → Int → Int) (w p : Nat) : Nat := if w.testBit (n - 1 - p) = true then 2 ^ (n - 1 - (tpp S f (p : Int)).toNat) else 0
/-- the number of the image -/
noncomputable def imN (S : SH) (n : Nat) (f : Int → Int → Int) (w : Nat) : Nat := orN (gim S n f w) n
theorem imN_f (ok : S.ok) (hn : S.nf = (n : Int)) {f g : Int → Int → Int} (hr : ∀ k : Int, 0 ≤ k → k < 3 → REN (S.sz k) (f k) (g k)) (w : Nat) : IMf S n f w (imN S n f w) := by
  have gl : ∀ p, p < n → gim S n f w p < 2 ^ n := fun p hp => by
    unfold gim
    by_cases e : w.testBit (n - 1 - p) = true
    · rw [if_pos e]
      exact Nat.pow_lt_pow_right (by decide) (by omega)
    · rw [if_neg e]
      exact Nat.two_pow_pos n
  have lt : ∀ k, k ≤ n → orN (gim S n f w) k < 2 ^ n := by
    intro k
    induction k with
    | zero => intro _; exact Nat.two_pow_pos n
    | succ k ih => intro hk; exact Nat.or_lt_two_pow (ih (by omega)) (gl k (by omega))
  refine ⟨lt n (Nat.le_refl n), fun r i j r0 r1 hi => ?_⟩
  obtain ⟨c1, c2, c3⟩ := ren_in ok hr r0 r1 hi
  have pos := ok.pos r0 r1 hi
  have pos2 := ok.pos r0 r1 c1
  have s9 := ok.st9 r0 r1
  obtain ⟨p, hp⟩ := Int.eq_ofNat_of_zero_le (show 0 ≤ S.at' r i j by omega)
  obtain ⟨q, hq⟩ := Int.eq_ofNat_of_zero_le (show 0 ≤ S.at' r (f (S.k1 r) i) (f (S.k2 r) j) by omega)
  have tp := tpp_at (f := f) ok r0 r1 hi
  rw [hp, hq] at tp
  rw [hp, hq]
  unfold phw
  rw [show ((n : Int) - 1 - (q : Int)).toNat = n - 1 - q by omega, show ((n : Int) - 1 - (p : Int)).toNat = n - 1 - p by omega]
  have key : (imN S n f w).testBit (n - 1 - q) = true ↔ w.testBit (n - 1 - p) = true := by
    unfold imN
    rw [orN_b]
    constructor
    · rintro ⟨p', h1, h2⟩
      unfold gim at h2
      by_cases e : w.testBit (n - 1 - p') = true
      · rw [if_pos e] at h2
        obtain ⟨r', i', j', ⟨a0, a1⟩, hi', ha⟩ := pl_ex ok (p := p') (by omega)
        have tp' := tpp_at (f := f) ok a0 a1 hi'
        rw [ha] at tp'
        obtain ⟨d1, d2, d3⟩ := ren_in ok hr a0 a1 hi'
        have pos3 := ok.pos a0 a1 d1
        have s9' := ok.st9 a0 a1
        have eb : n - 1 - (tpp S f (p' : Int)).toNat = n - 1 - q := by
          apply Classical.byContradiction
          intro hne
          rw [Nat.testBit_two_pow_of_ne hne] at h2
          cases h2
        have eq : S.at' r' (f (S.k1 r') i') (f (S.k2 r') j') = S.at' r (f (S.k1 r) i) (f (S.k2 r) j) := by
          rw [← tp', hq]
          rw [tp'] at eb ⊢
          omega
        obtain ⟨e1, e2, e3⟩ := at_inj ok a0 a1 r0 r1 d1 c1 eq
        subst e1
        have ei : i' = i := by rw [← d2, ← c2, e2]
        have ec : S.col r' j' = S.col r' j := by
          rw [← d3, ← c3]
          unfold SH.col at e3 ⊢
          by_cases z : S.k2 r' = -1
          · rw [if_pos z, if_pos z]
          · rw [if_neg z, if_neg z] at e3 ⊢
            rw [e3]
        subst ei
        have : S.at' r' i' j' = S.at' r' i' j := at_col ec
        rw [ha, hp] at this
        rw [show p = p' by omega]
        exact e
      · rw [if_neg e, Nat.zero_testBit] at h2
        cases h2
    · intro h
      refine ⟨p, by omega, ?_⟩
      unfold gim
      rw [if_pos h, tp, Int.toNat_natCast, Nat.testBit_two_pow_self]
  cases e1 : (imN S n f w).testBit (n - 1 - q) with
  | true => rw [key.mp e1]
  | false =>
    cases e2 : w.testBit (n - 1 - p) with
    | true => rw [key.mpr e2] at e1; cases e1
    | false => rfl
theorem IMf.uniq (ok : S.ok) (hn : S.nf = (n : Int)) {f g : Int → Int → Int} (hr : ∀ k : Int, 0 ≤ k → k < 3 → REN (S.sz k) (f k) (g k)) {w x y : Nat} (h : IMf S n f w x) (k : IMf S n f w y) : x = y := by
  refine Nat.eq_of_testBit_eq (fun b => ?_)
  by_cases c : b < n
  · obtain ⟨r, i, j, ⟨a0, a1⟩, hi, ha⟩ := pl_ex ok (p := n - 1 - b) (by omega)
    obtain ⟨c1, c2, c3⟩ := ren_in ok (fun k k0 k1 => (hr k k0 k1).symm) a0 a1 hi
    have h1 := h.2 r _ _ a0 a1 c1
    have k1 := k.2 r _ _ a0 a1 c1
    rw [c2, at_col c3, ha] at h1 k1
    rw [← k1] at h1
    unfold phw at h1
    rw [show ((n : Int) - 1 - ((n - 1 - b : Nat) : Int)).toNat = b by omega] at h1
    exact h1
  · rw [Nat.testBit_lt_two_pow (Nat.lt_of_lt_of_le h.1 (Nat.pow_le_pow_right (n := 2) (by decide) (show n ≤ b by omega))), Nat.testBit_lt_two_pow (Nat.lt_of_lt_of_le k.1 (Nat.pow_le_pow_right (n := 2) (by decide) (show n ≤ b by omega)))]
theorem IMf.im {f g : Int → Int → Int} (hr : ∀ k : Int, 0 ≤ k → k < 3 → REN (S.sz k) (f k) (g k)) {w x : Nat} (hw : w < 2 ^ n) (h : IMf S n f w x) : IM S n w x := ⟨hw, h.1, f, g, hr, h.2⟩
/-- it depends on what is used of the renumbering -/
theorem IMf.congr (ok : S.ok) {f g : Int → Int → Int} {w x : Nat} (e : ∀ r : Int, 0 ≤ r → r < S.nr → (∀ i : Int, 0 ≤ i → i < S.sz (S.k1 r) → f (S.k1 r) i = g (S.k1 r) i) ∧ (¬ S.k2 r = -1 → ∀ i : Int, 0 ≤ i → i < S.sz (S.k2 r) → f (S.k2 r) i = g (S.k2 r) i)) (h : IMf S n f w x) : IMf S n g w x := ⟨h.1, fun r i j r0 r1 hi => by
  have := h.2 r i j r0 r1 hi
  obtain ⟨e1, e2⟩ := e r r0 r1
  obtain ⟨k1, k2⟩ := ok.2.2 r r0 r1
  have z1 : S.zv (S.k1 r) = S.sz (S.k1 r) := by unfold SH.zv; rw [if_neg (by omega)]
  have i1 := hi.1
  rw [z1] at i1
  rw [e1 i i1.1 i1.2] at this
  rw [← this]
  congr 1
  refine at_col ?_
  unfold SH.col
  by_cases z : S.k2 r = -1
  · rw [if_pos z, if_pos z]
  · have i2 := hi.2
    have c : S.col r j = j := by unfold SH.col; rw [if_neg z]
    have z2 : S.zv (S.k2 r) = S.sz (S.k2 r) := by unfold SH.zv; rw [if_neg z]
    rw [c, z2] at i2
    rw [if_neg z, if_neg z]
    exact (e2 z j i2.1 i2.2).symm⟩
end
