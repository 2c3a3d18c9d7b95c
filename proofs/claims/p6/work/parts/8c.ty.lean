/-! ===== what a text that is read is like ===== -/
/-- a variable that is bound -/
def BV (sc bo v : Int) : Prop := (0 ≤ v ∧ v ≤ 3) ∧ ¬ bnd bo v = -1
/-- a row that is read where this is bound -/
def rowOK (nr : Int) (k1 k2 : Int → Int) (sc bo : Int) (r : Row) : Prop :=
  (0 ≤ r.c0 ∧ r.c0 ≤ 3 ∧ r.r0 = r.c0 ∧ r.r3 = r.c1 ∧ (0 ≤ r.c1 ∧ r.c1 < 10000) ∧ r.c2 = ishr sc 16 ∧ r.r2 = r.c3 ∧ (0 ≤ r.c3 ∧ r.c3 ≤ 2) ∧ (0 ≤ r.r1 ∧ r.r1 ≤ 3) ∧ ishr sc 16 < 4) ∨
  (4 ≤ r.c0 ∧ r.c0 ≤ 7 ∧ r.r0 = r.c0) ∨
  (r.c0 = 8 ∧ r.r0 = 8 ∧ BV sc bo r.r1 ∧ BV sc bo r.r2 ∧ r.c2 = slt sc r.r1 ∧ r.c3 = slt sc r.r2) ∨
  (r.c0 = 9 ∧ r.r0 = 9 ∧ r.c1 = r.r1 ∧ (0 ≤ r.r1 ∧ r.r1 < nr) ∧ k2 r.r1 = k1 r.r1 ∧ BV sc bo r.r2 ∧ BV sc bo r.r3 ∧ r.c2 = slt sc r.r2 ∧ r.c3 = slt sc r.r3) ∨
  (r.c0 = 10 ∧ r.r0 = 10 ∧ r.c1 = r.r1 ∧ (0 ≤ r.r1 ∧ r.r1 < nr) ∧ k2 r.r1 = k1 r.r1) ∨
  (r.c0 = 11 ∧ r.r0 = 11 ∧ r.c1 = r.r1 ∧ (0 ≤ r.r1 ∧ r.r1 < nr) ∧ k2 r.r1 = -1 ∧ BV sc bo r.r2 ∧ r.c2 = slt sc r.r2 ∧ r.c3 = 0) ∨
  (r.c0 = 11 ∧ r.r0 = 12 ∧ r.c1 = r.r1 ∧ (0 ≤ r.r1 ∧ r.r1 < nr) ∧ ¬ k2 r.r1 = -1 ∧ BV sc bo r.r2 ∧ BV sc bo r.r3 ∧ r.c2 = slt sc r.r2 ∧ r.c3 = slt sc r.r3)
/-- what is bound in the parts that stand in this one -/
def kids (r : Row) (x : Int × Int) : List (Int × Int) :=
  if r.c0 ≤ 3 then [(bindC x.1 (cv r.r1) r.c3 (ishr x.1 16), bindR x.2 r.r1 r.c3)] else if r.c0 = 4 then [x] else if r.c0 ≤ 7 then [x, x] else []
/-- rows that are parts, one for each of what waits -/
def ty (nr : Int) (k1 k2 : Int → Int) : List (Int × Int) → List Row → Prop
  | ws, [] => ws = []
  | [], _ :: _ => False
  | x :: ws, r :: rs => rowOK nr k1 k2 x.1 x.2 r ∧ ty nr k1 k2 (kids r x ++ ws) rs
section
variable {E : RE}
theorem relW_rg {nr : Int} (h0 : 0 ≤ nr) (w : List Int) : -1 ≤ relW nr w ∧ relW nr w < nr ∨ relW nr w = -1 := by
  have hx : ∀ x : Int, -1 ≤ x → -1 ≤ (if nr ≤ x then (-1 : Int) else x) ∧ (if nr ≤ x then (-1 : Int) else x) < nr ∨ (if nr ≤ x then (-1 : Int) else x) = -1 := fun x hx => by
    by_cases c : nr ≤ x
    · rw [if_pos c]; exact Or.inr rfl
    · rw [if_neg c]; exact Or.inl ⟨hx, by omega⟩
  unfold relW
  refine hx _ ?_
  repeat' split
  all_goals decide
theorem rv_in {bo kind b : Int} {x : Int × Int} (h : E.rv bo kind b = some x) : (0 ≤ x.1 ∧ x.1 ≤ 3) ∧ ¬ bnd bo x.1 = -1 := by
  unfold RE.rv at h
  have h : (if varW (E.wd b) = -1 then none else if bnd bo (varW (E.wd b)) = -1 then none else if ¬ kind = -1 ∧ ¬ bnd bo (varW (E.wd b)) = kind then none else some (varW (E.wd b), E.sk (E.we b))) = some x := h
  have v := varW_rg (E.wd b)
  split at h
  · cases h
  split at h
  · cases h
  split at h
  · cases h
  · obtain rfl := Option.some.inj h
    exact ⟨⟨by show 0 ≤ varW (E.wd b); omega, v.2⟩, by assumption⟩
theorem val_b {b : Int} (h0 : 0 ≤ b) (hn : E.n ≤ 400) : ∀ k : Nat, (k : Int) ≤ E.de b - b → 0 ≤ E.val b k ∧ E.val b k < 10 ^ k := by
  intro k
  induction k with
  | zero => intro _; exact ⟨by show (0 : Int) ≤ 0; decide, by show (0 : Int) < 1; decide⟩
  | succ k ih =>
    intro hk
    obtain ⟨a, c⟩ := ih (by omega)
    obtain ⟨_, d2, _⟩ := E.de_spec b h0 hn
    have g := RE.digT (d2 (b + (k : Int)) (by omega) (by omega))
    show 0 ≤ 10 * E.val b k + E.t (b + (k : Int)) - 48 ∧ 10 * E.val b k + E.t (b + (k : Int)) - 48 < 10 ^ (k + 1)
    have p : (10 : Int) ^ (k + 1) = 10 * 10 ^ k := by rw [Int.pow_succ]; omega
    rw [p]
    generalize (10 : Int) ^ k = X at c
    omega
theorem rn_in {a b : Int} {x : Int × Int} (h0 : 0 ≤ b) (hn : E.n ≤ 400) (h : E.rn a b = some x) : 0 ≤ x.1 ∧ x.1 < 10000 := by
  unfold RE.rn at h
  split at h
  · obtain rfl := Option.some.inj h; exact ⟨(show (0 : Int) ≤ 0 by decide), (show (0 : Int) < 10000 by decide)⟩
  split at h
  · rename_i c
    obtain rfl := Option.some.inj h
    obtain ⟨d1, _⟩ := E.de_spec b h0 hn
    obtain ⟨a, c2⟩ := val_b (E := E) h0 hn (E.de b - b).toNat (by omega)
    refine ⟨a, Int.lt_of_lt_of_le c2 ?_⟩
    have : (10 : Int) ^ (E.de b - b).toNat = ((10 ^ (E.de b - b).toNat : Nat) : Int) := by simp
    rw [this]
    have : (10 : Nat) ^ (E.de b - b).toNat ≤ 10 ^ 4 := Nat.pow_le_pow_right (by decide) (by omega)
    omega
  · cases h
/-- a part that is read: one row more, as it must be, and what stands in it waits -/
theorem rPart_ty {S S' : RS} {sc bo : Int} {ws : List (Int × Int)} (hnr : 0 ≤ E.nr) (hn : E.n ≤ 400) (hb : 0 ≤ S.b) (hS : S.ws = (sc, bo) :: ws) (h : E.rPart S = some S') : ∃ r, S'.ps = S.ps ++ [r] ∧ S'.ws = kids r (sc, bo) ++ ws ∧ rowOK E.nr E.k1 E.k2 sc bo r ∧ 0 ≤ S'.b := by
  obtain ⟨b, ws0, ps⟩ := S
  have hS : ws0 = (sc, bo) :: ws := hS
  have hb : 0 ≤ b := hb
  subst hS
  have h : (if 40 ≤ ps.length then none else if actW (E.wd b) = -1 then E.rFact sc bo ws ps b else if actW (E.wd b) ≤ 3 then E.rBind (actW (E.wd b)) sc bo ws ps b else if actW (E.wd b) = 8 then E.rSame sc bo ws ps b else if actW (E.wd b) = 9 then E.rReach sc bo ws ps b else if actW (E.wd b) = 10 then E.rTree ws ps b else some ⟨E.sk (E.we b), if actW (E.wd b) = 4 then (sc, bo) :: ws else (sc, bo) :: (sc, bo) :: ws, ps ++ [⟨actW (E.wd b), 0, 0, 0, actW (E.wd b), 0, 0, 0⟩]⟩) = some S' := h
  show ∃ r, S'.ps = ps ++ [r] ∧ S'.ws = kids r (sc, bo) ++ ws ∧ rowOK E.nr E.k1 E.k2 sc bo r ∧ 0 ≤ S'.b
  have nx : ∀ b : Int, 0 ≤ b → 0 ≤ E.sk (E.we b) := fun b hb => by
    have w := (E.we_spec b hb hn).1
    have s := (E.sk_spec (E.we b) (by omega) hn).1
    omega
  have nv : ∀ {bo kind b x}, 0 ≤ b → E.rv bo kind b = some x → 0 ≤ x.2 := fun {bo kind b x} hb hx => by
    unfold RE.rv at hx
    have hx : (if varW (E.wd b) = -1 then none else if bnd bo (varW (E.wd b)) = -1 then none else if ¬ kind = -1 ∧ ¬ bnd bo (varW (E.wd b)) = kind then none else some (varW (E.wd b), E.sk (E.we b))) = some x := hx
    split at hx
    · cases hx
    split at hx
    · cases hx
    split at hx
    · cases hx
    · obtain rfl := Option.some.inj hx; exact nx b hb
  have av := actW_in (E.wd b)
  have nb := nx b hb
  split at h
  · cases h
  split at h
  · unfold RE.rFact at h
    dsimp only at h
    split at h
    · cases h
    · rename_i hr
      have rg := relW_rg hnr (E.wd b)
      cases e : E.rv bo (E.k1 (relW E.nr (E.wd b))) (E.sk (E.we b)) with
      | none => rw [e] at h; cases h
      | some x =>
        rw [e] at h
        dsimp only [Option.bind] at h
        split at h
        · rename_i hk
          obtain rfl := Option.some.inj h
          refine ⟨_, rfl, rfl, Or.inr (Or.inr (Or.inr (Or.inr (Or.inr (Or.inl ⟨rfl, rfl, rfl, ⟨?_, ?_⟩, hk, (show BV sc bo x.1 from rv_in e), rfl, rfl⟩))))), nv nb e⟩
          · show 0 ≤ relW E.nr (E.wd b); omega
          · show relW E.nr (E.wd b) < E.nr; omega
        · rename_i hk
          split at h
          · cases h
          · rename_i y ey
            obtain rfl := Option.some.inj h
            refine ⟨_, rfl, rfl, Or.inr (Or.inr (Or.inr (Or.inr (Or.inr (Or.inr ⟨rfl, rfl, rfl, ⟨?_, ?_⟩, hk, (show BV sc bo x.1 from rv_in e), (show BV sc bo y.1 from rv_in ey), rfl, rfl⟩))))), nv (nv nb e) ey⟩
            · show 0 ≤ relW E.nr (E.wd b); omega
            · show relW E.nr (E.wd b) < E.nr; omega
  split at h
  · rename_i a3
    unfold RE.rBind at h
    split at h
    · cases h
    · rename_i hd
      cases e : E.rn (actW (E.wd b)) (E.sk (E.we b)) with
      | none => rw [e] at h; cases h
      | some c =>
        rw [e] at h
        dsimp only [Option.bind] at h
        split at h
        · cases h
        · split at h
          · cases h
          · rename_i hv hk
            obtain rfl := Option.some.inj h
            have v1 := varW_rg (E.wd c.2)
            have k1 := kindW_rg (E.wd (E.sk (E.we c.2)))
            have c2 : 0 ≤ c.2 := by
              unfold RE.rn at e
              split at e
              · obtain rfl := Option.some.inj e; exact nb
              split at e
              · obtain rfl := Option.some.inj e
                have w := (E.de_spec _ nb hn).1
                have s := (E.sk_spec (E.de (E.sk (E.we b))) (by omega) hn).1
                show 0 ≤ E.sk (E.de (E.sk (E.we b)))
                omega
              · cases e
            have a0 : 0 ≤ actW (E.wd b) := by omega
            refine ⟨_, rfl, ?_, Or.inl ⟨a0, a3, rfl, rfl, rn_in nb hn e, rfl, rfl, ⟨?_, ?_⟩, ⟨?_, ?_⟩, by omega⟩, nx _ (nx _ c2)⟩
            · unfold kids
              show _ = (if actW (E.wd b) ≤ 3 then _ else _) ++ ws
              rw [if_pos a3]; rfl
            · show 0 ≤ kindW (E.wd (E.sk (E.we c.2))); omega
            · show kindW (E.wd (E.sk (E.we c.2))) ≤ 2; omega
            · show 0 ≤ varW (E.wd c.2); omega
            · show varW (E.wd c.2) ≤ 3; omega
  rename_i a3
  split at h
  · rename_i a8
    unfold RE.rSame at h
    cases e : E.rv bo (-1) (E.sk (E.we b)) with
    | none => rw [e] at h; cases h
    | some x =>
      rw [e] at h
      dsimp only [Option.bind] at h
      split at h
      · cases h
      · rename_i y ey
        obtain rfl := Option.some.inj h
        exact ⟨_, rfl, rfl, Or.inr (Or.inr (Or.inl ⟨rfl, rfl, (show BV sc bo x.1 from rv_in e), (show BV sc bo y.1 from rv_in ey), rfl, rfl⟩)), nv (nv nb e) ey⟩
  have road : ∀ {b r}, 0 ≤ b → E.rRoad b = some r → (0 ≤ r.1 ∧ r.1 < E.nr) ∧ E.k2 r.1 = E.k1 r.1 ∧ 0 ≤ r.2 := fun {b r} hb hr => by
    unfold RE.rRoad at hr
    have hr : (if relW E.nr (E.wd b) = -1 then none else if ¬ E.k2 (relW E.nr (E.wd b)) = E.k1 (relW E.nr (E.wd b)) then none else some (relW E.nr (E.wd b), E.sk (E.we b))) = some r := hr
    have rg := relW_rg hnr (E.wd b)
    split at hr
    · cases hr
    split at hr
    · cases hr
    · rename_i z1 z2
      obtain rfl := Option.some.inj hr
      refine ⟨⟨?_, ?_⟩, Decidable.byContradiction z2, nx b hb⟩
      · show 0 ≤ relW E.nr (E.wd b); omega
      · show relW E.nr (E.wd b) < E.nr; omega
  split at h
  · unfold RE.rReach at h
    cases e : E.rRoad (E.sk (E.we b)) with
    | none => rw [e] at h; cases h
    | some r =>
      rw [e] at h
      dsimp only [Option.bind] at h
      obtain ⟨r1, r2, r3⟩ := road nb e
      split at h
      · cases h
      · rename_i x hx
        dsimp only at h
        split at h
        · cases h
        · rename_i y ey
          obtain rfl := Option.some.inj h
          exact ⟨_, rfl, rfl, Or.inr (Or.inr (Or.inr (Or.inl ⟨rfl, rfl, rfl, r1, r2, (show BV sc bo x.1 from rv_in hx), (show BV sc bo y.1 from rv_in ey), rfl, rfl⟩))), nv (nv r3 hx) ey⟩
  split at h
  · unfold RE.rTree at h
    cases e : E.rRoad (E.sk (E.we b)) with
    | none => rw [e] at h; cases h
    | some r =>
      rw [e] at h
      obtain ⟨r1, r2, r3⟩ := road nb e
      obtain rfl := Option.some.inj h
      exact ⟨_, rfl, rfl, Or.inr (Or.inr (Or.inr (Or.inr (Or.inl ⟨rfl, rfl, rfl, r1, r2⟩)))), r3⟩
  · rename_i a8 a9 a10
    obtain rfl := Option.some.inj h
    refine ⟨_, rfl, ?_, Or.inr (Or.inl ⟨?_, ?_, rfl⟩), nb⟩
    · unfold kids
      show (if actW (E.wd b) = 4 then (sc, bo) :: ws else (sc, bo) :: (sc, bo) :: ws) = (if actW (E.wd b) ≤ 3 then _ else if actW (E.wd b) = 4 then _ else if actW (E.wd b) ≤ 7 then _ else _) ++ ws
      rw [if_neg a3]
      by_cases e4 : actW (E.wd b) = 4
      · rw [if_pos e4, if_pos e4]; rfl
      · rw [if_neg e4, if_neg e4, if_pos (by omega)]; rfl
    · show 4 ≤ actW (E.wd b); omega
    · show actW (E.wd b) ≤ 7; omega
theorem rLoop_ty (hnr : 0 ≤ E.nr) (hn : E.n ≤ 400) : ∀ (k : Nat) (S S' : RS), 0 ≤ S.b → E.rLoop k S = some S' → ∃ qs, S'.ps = S.ps ++ qs ∧ ty E.nr E.k1 E.k2 S.ws qs := by
  intro k
  induction k with
  | zero => intro S S' _ h; cases h
  | succ k ih =>
    intro S S' hb h
    have h : (if S.ws = [] then some S else (E.rPart S).bind (E.rLoop k)) = some S' := h
    by_cases e : S.ws = []
    · rw [if_pos e] at h
      obtain rfl := Option.some.inj h
      exact ⟨[], by simp, e⟩
    · rw [if_neg e] at h
      cases hw : S.ws with
      | nil => exact absurd hw e
      | cons x ws =>
        obtain ⟨sc, bo⟩ := x
        cases e1 : E.rPart S with
        | none => rw [e1] at h; cases h
        | some S1 =>
          rw [e1] at h
          obtain ⟨r, p1, p2, p3, p4⟩ := rPart_ty hnr hn hb hw e1
          obtain ⟨qs, q1, q2⟩ := ih S1 S' p4 h
          refine ⟨r :: qs, by rw [q1, p1]; simp, p3, ?_⟩
          rw [← p2]; exact q2
theorem rText_ty (hnr : 0 ≤ E.nr) (hn : E.n ≤ 400) {ps : List Row} (h : E.rText = some ps) : ty E.nr E.k1 E.k2 [(0, 255)] ps := by
  have h : (E.rLoop 42 ⟨E.sk 0, [(0, 255)], []⟩).bind E.rEnd = some ps := h
  cases e : E.rLoop 42 ⟨E.sk 0, [(0, 255)], []⟩ with
  | none => rw [e] at h; cases h
  | some S' =>
    rw [e] at h
    obtain ⟨qs, q1, q2⟩ := rLoop_ty hnr hn 42 (⟨E.sk 0, [(0, 255)], []⟩ : RS) S' (E.sk_spec 0 (by decide) hn).1 e
    have h : (if E.n ≤ S'.b then some S'.ps else none) = some ps := h
    split at h
    · obtain rfl := Option.some.inj h
      rw [q1]; exact q2
    · cases h
theorem rowOK.c0 {nr sc bo : Int} {k1 k2 : Int → Int} {r : Row} (h : rowOK nr k1 k2 sc bo r) : 0 ≤ r.c0 ∧ r.c0 ≤ 11 := by
  unfold rowOK at h
  rcases h with h | h | h | h | h | h | h <;> omega
theorem ty.c0 {nr : Int} {k1 k2 : Int → Int} : ∀ (ps : List Row) (ws : List (Int × Int)), ty nr k1 k2 ws ps → ∀ r, r ∈ ps → 0 ≤ r.c0 := by
  intro ps
  induction ps with
  | nil => intro ws _ r hr; cases hr
  | cons p ps ih =>
    intro ws h r hr
    cases ws with
    | nil => exact absurd h id
    | cons x ws =>
      obtain ⟨h1, h2⟩ := h
      rcases List.mem_cons.mp hr with e | e
      · subst e; exact h1.c0.1
      · exact ih _ h2 r e
end
