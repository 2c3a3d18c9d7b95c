/-! ===== worlds by other numbers ===== -/
def REN (s : Int) (σ τ : Int → Int) : Prop := ∀ i : Int, 0 ≤ i → i < s → (0 ≤ σ i ∧ σ i < s ∧ τ (σ i) = i) ∧ (0 ≤ τ i ∧ τ i < s ∧ σ (τ i) = i)
theorem REN.symm {s : Int} {σ τ : Int → Int} (h : REN s σ τ) : REN s τ σ := fun i i0 i1 => ⟨(h i i0 i1).2, (h i i0 i1).1⟩
theorem REN.tr {s : Int} {σ τ σ' τ' : Int → Int} (h : REN s σ τ) (k : REN s σ' τ') : REN s (fun i => σ' (σ i)) (fun i => τ (τ' i)) := fun i i0 i1 => by
  obtain ⟨⟨a1, a2, a3⟩, _⟩ := h i i0 i1
  obtain ⟨⟨b1, b2, b3⟩, _⟩ := k (σ i) a1 a2
  obtain ⟨_, c1, c2, c3⟩ := k i i0 i1
  obtain ⟨_, d1, d2, d3⟩ := h (τ' i) c1 c2
  refine ⟨⟨b1, b2, ?_⟩, d1, d2, ?_⟩
  · show τ (τ' (σ' (σ i))) = i
    rw [b3, a3]
  · show σ' (σ (τ (τ' i))) = i
    rw [d3, c3]
/-- x is w by other numbers -/
def IM (S : SH) (n : Nat) (w x : Nat) : Prop := w < 2 ^ n ∧ x < 2 ^ n ∧ ∃ σ τ : Int → Int → Int, (∀ k : Int, 0 ≤ k → k < 3 → REN (S.sz k) (σ k) (τ k)) ∧ ∀ r i j : Int, 0 ≤ r → r < S.nr → S.inr r i j → phw (n : Int) x (S.at' r (σ (S.k1 r) i) (σ (S.k2 r) j)) = phw (n : Int) w (S.at' r i j)
section
variable {S : SH} {n w x y : Nat}
theorem at_col {r i j j' : Int} (h : S.col r j = S.col r j') : S.at' r i j = S.at' r i j' := by
  unfold SH.at'
  rw [h]
theorem ren_in (ok : S.ok) {σ τ : Int → Int → Int} (hr : ∀ k : Int, 0 ≤ k → k < 3 → REN (S.sz k) (σ k) (τ k)) {r i j : Int} (r0 : 0 ≤ r) (r1 : r < S.nr) (h : S.inr r i j) : S.inr r (σ (S.k1 r) i) (σ (S.k2 r) j) ∧ τ (S.k1 r) (σ (S.k1 r) i) = i ∧ S.col r (τ (S.k2 r) (σ (S.k2 r) j)) = S.col r j := by
  obtain ⟨k1, k2⟩ := ok.2.2 r r0 r1
  have z1 : S.zv (S.k1 r) = S.sz (S.k1 r) := by unfold SH.zv; rw [if_neg (by omega)]
  obtain ⟨⟨h1, h2⟩, h3, h4⟩ := h
  rw [z1] at h2
  obtain ⟨⟨a1, a2, a3⟩, _⟩ := hr (S.k1 r) k1.1 (by omega) i h1 h2
  by_cases e : S.k2 r = -1
  · have c : ∀ j', S.col r j' = 0 := fun j' => by unfold SH.col; rw [if_pos e]
    have z2 : S.zv (S.k2 r) = 1 := by unfold SH.zv; rw [if_pos e]
    refine ⟨⟨⟨a1, by rw [z1]; exact a2⟩, by rw [c]; exact ⟨by decide, by rw [z2]; decide⟩⟩, a3, by rw [c, c]⟩
  · have c : ∀ j', S.col r j' = j' := fun j' => by unfold SH.col; rw [if_neg e]
    have z2 : S.zv (S.k2 r) = S.sz (S.k2 r) := by unfold SH.zv; rw [if_neg e]
    rw [c] at h3 h4
    rw [z2] at h4
    obtain ⟨⟨b1, b2, b3⟩, _⟩ := hr (S.k2 r) (by omega) (by omega) j h3 h4
    refine ⟨⟨⟨a1, by rw [z1]; exact a2⟩, by rw [c, z2]; exact ⟨b1, b2⟩⟩, a3, by rw [c, c, b3]⟩
theorem IM.rf (h : w < 2 ^ n) : IM S n w w := ⟨h, h, fun _ i => i, fun _ i => i, fun k _ _ i i0 i1 => ⟨⟨i0, i1, rfl⟩, i0, i1, rfl⟩, fun _ _ _ _ _ _ => rfl⟩
theorem IM.symm (ok : S.ok) (h : IM S n w x) : IM S n x w := by
  obtain ⟨a, b, σ, τ, hr, hf⟩ := h
  refine ⟨b, a, τ, σ, fun k k0 k1 => (hr k k0 k1).symm, fun r i j r0 r1 hi => ?_⟩
  obtain ⟨c1, c2, c3⟩ := ren_in ok (fun k k0 k1 => (hr k k0 k1).symm) r0 r1 hi
  have := hf r _ _ r0 r1 c1
  rw [c2, at_col c3] at this
  exact this.symm
theorem IM.tr (ok : S.ok) (h : IM S n w x) (k : IM S n x y) : IM S n w y := by
  obtain ⟨a, b, σ, τ, hr, hf⟩ := h
  obtain ⟨_, b', σ', τ', hr', hf'⟩ := k
  refine ⟨a, b', fun k i => σ' k (σ k i), fun k i => τ k (τ' k i), fun k k0 k1 => (hr k k0 k1).tr (hr' k k0 k1), fun r i j r0 r1 hi => ?_⟩
  obtain ⟨c1, _, _⟩ := ren_in ok hr r0 r1 hi
  exact (hf' r _ _ r0 r1 c1).trans (hf r i j r0 r1 hi)
/-- the least of all that w is by other numbers -/
def ISL (S : SH) (n w m : Nat) : Prop := IM S n w m ∧ ∀ x, IM S n w x → m ≤ x
theorem ISL.uniq {m m' : Nat} (h : ISL S n w m) (k : ISL S n w m') : m = m' := Nat.le_antisymm (h.2 m' k.1) (k.2 m h.1)
theorem ISL.self (ok : S.ok) {m : Nat} (h : ISL S n w m) : ISL S n m m := ⟨IM.rf h.1.2.1, fun x hx => h.2 x (h.1.tr ok hx)⟩
theorem ISL.ex (h : w < 2 ^ n) : ∃ m, ISL S n w m := by
  have : ∀ k : Nat, (∃ x, x < k ∧ IM S n w x) → ∃ m, ISL S n w m := by
    intro k
    induction k with
    | zero => rintro ⟨x, hx, _⟩; omega
    | succ k ih =>
      rintro ⟨x, hx, hi⟩
      by_cases c : ∃ y, y < k ∧ IM S n w y
      · exact ih c
      · refine ⟨x, hi, fun y hy => ?_⟩
        apply Classical.byContradiction
        intro hn
        exact c ⟨y, by omega, hy⟩
  exact this (w + 1) ⟨w, by omega, IM.rf h⟩
end
/-! the orders of both sides -/
def prF (o : Nat) : Int := ((o / 2 : Nat) : Int)
def prS (o : Nat) : Int := if o % 2 = 0 then (if prF o = 0 then 1 else 0) else (if prF o = 2 then 1 else 2)
def pr (o : Nat) (i : Int) : Int := if i = 0 then prF o else if i = 1 then prS o else 3 - prF o - prS o
def pc (o : Nat) (i : Int) : Int := [0, 1, 2, 1, 0, 2, 0, 2, 1, 1, 2, 0, 2, 0, 1, 2, 1, 0].getD (3 * (o : Int) + i).toNat 0
def isO (o : Nat) (s : Int) : Prop := ∀ i : Int, 0 ≤ i → i < 3 → (i < s → pr o i < s) ∧ (¬ i < s → pr o i = i)
def cmO (o : Nat) : Nat := [0, 2, 1, 3, 4, 5].getD o 0
def inO (o : Nat) : Nat := [0, 1, 2, 4, 3, 5].getD o 0
def nOr (s : Int) : Nat := if s = 1 then 1 else if s = 2 then 2 else 6
theorem pr_pc : ∀ o : Nat, o < 6 → ∀ i : Nat, i < 3 → pr o (i : Int) = pc (cmO o) (i : Int) ∧ pc o (i : Int) = pr (cmO o) (i : Int) ∧ cmO o < 6 := by decide +kernel
theorem pr_inv : ∀ o : Nat, o < 6 → ∀ i : Nat, i < 3 → (0 ≤ pr o (i : Int) ∧ pr o (i : Int) < 3) ∧ pr (inO o) (pr o (i : Int)) = (i : Int) ∧ pr o (pr (inO o) (i : Int)) = (i : Int) ∧ inO o < 6 := by decide +kernel
def isOb (o s : Nat) : Bool := decide (∀ i : Nat, i < 3 → (i < s → pr o (i : Int) < (s : Int)) ∧ (¬ i < s → pr o (i : Int) = (i : Int)))
theorem isO_b {o s : Nat} : isO o (s : Int) ↔ isOb o s = true := by
  unfold isOb isO
  rw [decide_eq_true_iff]
  constructor
  · intro h i hi
    obtain ⟨a, b⟩ := h (i : Int) (by omega) (by omega)
    exact ⟨fun c => a (by omega), fun c => b (by omega)⟩
  · intro h i i0 i1
    obtain ⟨k, rfl⟩ := Int.eq_ofNat_of_zero_le i0
    obtain ⟨a, b⟩ := h k (by omega)
    exact ⟨fun c => a (by omega), fun c => b (by omega)⟩
theorem isO_n : ∀ s : Nat, s < 4 → 0 < s → ∀ o : Nat, o < 6 → (isOb o s = decide (cmO o < nOr (s : Int))) ∧ isOb (inO o) s = isOb o s ∧ isOb (cmO o) s = decide (o < nOr (s : Int)) := by decide +kernel
/-- an order is a renumbering -/
theorem pr_ren {o s : Nat} (ho : o < 6) (hs : s < 4) (s0 : 0 < s) (h : isOb o s = true) : REN (s : Int) (pr o) (pr (inO o)) := fun i i0 i1 => by
  obtain ⟨k, rfl⟩ := Int.eq_ofNat_of_zero_le i0
  obtain ⟨a, b, c, d⟩ := pr_inv o ho k (by omega)
  obtain ⟨a', _, _, _⟩ := pr_inv (inO o) d k (by omega)
  have h1 := (isO_b.mpr h (k : Int) i0 (by omega)).1 i1
  have h2 := (isO_b.mpr ((isO_n s hs s0 o ho).2.1.trans h) (k : Int) i0 (by omega)).1 i1
  exact ⟨⟨a.1, h1, b⟩, a'.1, h2, c⟩
/-- a renumbering is an order -/
theorem ren_pr {s : Nat} {σ τ : Int → Int} (hs : s < 4) (s0 : 0 < s) (h : REN (s : Int) σ τ) : ∃ o, o < 6 ∧ isOb o s = true ∧ ∀ i : Int, 0 ≤ i → i < (s : Int) → pr o i = σ i := by
  have inj : ∀ i j : Int, 0 ≤ i → i < (s : Int) → 0 ≤ j → j < (s : Int) → σ i = σ j → i = j := fun i j i0 i1 j0 j1 e => by
    have a := (h i i0 i1).1.2.2
    have b := (h j j0 j1).1.2.2
    rw [e, b] at a
    exact a.symm
  have rg : ∀ i : Int, 0 ≤ i → i < (s : Int) → 0 ≤ σ i ∧ σ i < (s : Int) := fun i i0 i1 => ⟨(h i i0 i1).1.1, (h i i0 i1).1.2.1⟩
  have sc : s = 1 ∨ s = 2 ∨ s = 3 := by omega
  have three : ∀ o : Nat, o < 6 → isOb o s = true → σ 0 = pr o 0 → (1 < s → σ 1 = pr o 1) → (2 < s → σ 2 = pr o 2) → ∃ o, o < 6 ∧ isOb o s = true ∧ ∀ i : Int, 0 ≤ i → i < (s : Int) → pr o i = σ i := fun o ho hi e0 e1 e2 => ⟨o, ho, hi, fun i i0 i1 => by
    have : i = 0 ∨ i = 1 ∨ i = 2 := by omega
    rcases this with e | e | e
    · rw [e, e0]
    · rw [e, e1 (by omega)]
    · rw [e, e2 (by omega)]⟩
  rcases sc with e | e | e
  · subst e
    have r0 := rg 0 (by decide) (by decide)
    exact three 0 (by decide) (by decide +kernel) (by show σ 0 = 0; omega) (fun c => by omega) (fun c => by omega)
  · subst e
    have r0 := rg 0 (by decide) (by decide)
    have r1 := rg 1 (by decide) (by decide)
    have d : ¬ σ 0 = σ 1 := fun c => by have := inj 0 1 (by decide) (by decide) (by decide) (by decide) c; omega
    by_cases c : σ 0 = 0
    · exact three 0 (by decide) (by decide +kernel) (by show σ 0 = 0; omega) (fun _ => by show σ 1 = 1; omega) (fun c => by omega)
    · exact three 2 (by decide) (by decide +kernel) (by show σ 0 = 1; omega) (fun _ => by show σ 1 = 0; omega) (fun c => by omega)
  · subst e
    have r0 := rg 0 (by decide) (by decide)
    have r1 := rg 1 (by decide) (by decide)
    have r2 := rg 2 (by decide) (by decide)
    have d : ¬ σ 0 = σ 1 := fun c => by have := inj 0 1 (by decide) (by decide) (by decide) (by decide) c; omega
    have d2 : ¬ σ 0 = σ 2 := fun c => by have := inj 0 2 (by decide) (by decide) (by decide) (by decide) c; omega
    have d3 : ¬ σ 1 = σ 2 := fun c => by have := inj 1 2 (by decide) (by decide) (by decide) (by decide) c; omega
    have six : (σ 0 = 0 ∧ σ 1 = 1 ∧ σ 2 = 2) ∨ (σ 0 = 0 ∧ σ 1 = 2 ∧ σ 2 = 1) ∨ (σ 0 = 1 ∧ σ 1 = 0 ∧ σ 2 = 2) ∨ (σ 0 = 1 ∧ σ 1 = 2 ∧ σ 2 = 0) ∨ (σ 0 = 2 ∧ σ 1 = 0 ∧ σ 2 = 1) ∨ (σ 0 = 2 ∧ σ 1 = 1 ∧ σ 2 = 0) := by omega
    rcases six with ⟨a, b, c⟩ | ⟨a, b, c⟩ | ⟨a, b, c⟩ | ⟨a, b, c⟩ | ⟨a, b, c⟩ | ⟨a, b, c⟩
    · exact three 0 (by decide) (by decide +kernel) a (fun _ => b) (fun _ => c)
    · exact three 1 (by decide) (by decide +kernel) a (fun _ => b) (fun _ => c)
    · exact three 2 (by decide) (by decide +kernel) a (fun _ => b) (fun _ => c)
    · exact three 3 (by decide) (by decide +kernel) a (fun _ => b) (fun _ => c)
    · exact three 4 (by decide) (by decide +kernel) a (fun _ => b) (fun _ => c)
    · exact three 5 (by decide) (by decide +kernel) a (fun _ => b) (fun _ => c)
