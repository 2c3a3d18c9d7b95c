/-! ===== the reference's orders and images ===== -/
theorem pr_dm : ∀ o : Nat, o < 6 → (idiv (o : Int) 2 = prF o ∧ irem (o : Int) 2 = ((o % 2 : Nat) : Int)) ∧ (0 ≤ prF o ∧ prF o ≤ 2) ∧ (0 ≤ prS o ∧ prS o ≤ 2) := by decide +kernel
theorem all_dm : ∀ a : Nat, a < 216 → idiv (a : Int) 36 = ((a / 36 : Nat) : Int) ∧ idiv (a : Int) 6 = ((a / 6 : Nat) : Int) ∧ irem ((a / 6 : Nat) : Int) 6 = ((a / 6 % 6 : Nat) : Int) ∧ irem (a : Int) 6 = ((a % 6 : Nat) : Int) := by decide +kernel
section
variable {S : SH} {M : Mem} {n : Nat}
theorem v_inOrder {o i : Nat} (ho : o < 6) (hi : i < 3) : pw (mX9_inOrder (o : Int) (i : Int) M) (fun q => q.2 = M ∧ q.1 = pr o (i : Int)) := by
  obtain ⟨⟨d1, d2⟩, f, g⟩ := pr_dm o ho
  have last : ∀ s0 : Int, s0 = prS o → pw (mX9_inOrder_32 (i : Int) (prF o) s0 M) (fun q => q.2 = M ∧ q.1 = pr o (i : Int)) := fun s0 e => by
    unfold mX9_inOrder_32
    refine p_if (fun c => p_ret ⟨rfl, ?_⟩) (fun c => p_if (fun c2 => p_ret ⟨rfl, ?_⟩) (fun c2 => p_ret ⟨rfl, ?_⟩))
    · show prF o = pr o (i : Int)
      unfold pr; rw [if_pos c]
    · show s0 = pr o (i : Int)
      unfold pr; rw [if_neg c, if_pos c2]; exact e
    · show wI (wI (3 - prF o) - s0) = pr o (i : Int)
      rw [e, wI_id (x := 3 - prF o) (by omega) (by omega), wI_id (by omega) (by omega)]
      unfold pr; rw [if_neg c, if_neg c2]
  unfold mX9_inOrder
  refine p_dQc d1 (p_dMc d2 (p_if (fun c => p_if (fun c2 => last 1 ?_) (fun c2 => last 0 ?_)) (fun c => p_if (fun c2 => last 1 ?_) (fun c2 => last 2 ?_))))
  · unfold prS; rw [if_pos (show o % 2 = 0 by omega), if_pos c2]
  · unfold prS; rw [if_pos (show o % 2 = 0 by omega), if_neg c2]
  · unfold prS; rw [if_neg (show ¬ o % 2 = 0 by omega), if_pos c2]
  · unfold prS; rw [if_neg (show ¬ o % 2 = 0 by omega), if_neg c2]
theorem isOb_no {o s i : Nat} (hi : i < 3) (h : ¬ ((i < s → pr o (i : Int) < (s : Int)) ∧ (¬ i < s → pr o (i : Int) = (i : Int)))) : isOb o s = false := by
  cases e : isOb o s with
  | false => rfl
  | true =>
    unfold isOb at e
    exact absurd (of_decide_eq_true e i hi) h
theorem v_isOrder {o s : Nat} (ho : o < 6) : pw (mX9_isOrder (o : Int) (s : Int) M) (fun q => q.2 = M ∧ q.1 = b2i (isOb o s)) := by
  have loop : ∀ (fu i : Nat), i ≤ 3 → (∀ x : Nat, x < i → (x < s → pr o (x : Int) < (s : Int)) ∧ (¬ x < s → pr o (x : Int) = (x : Int))) → pw (mX9_isOrder_2 fu (o : Int) (s : Int) (i : Int) M) (fun q => q.2 = M ∧ q.1 = b2i (isOb o s)) := by
    intro fu
    induction fu with
    | zero => intro i _ _; exact p_none
    | succ fu ih =>
      intro i hi hx
      show pw (bX9_isOrder_2 (mX9_isOrder_2 fu) (o : Int) (s : Int) (i : Int) M) _
      unfold bX9_isOrder_2
      refine p_if (fun c => p_ret ⟨rfl, ?_⟩) (fun c => ?_)
      · have : isOb o s = true := by
          unfold isOb
          exact decide_eq_true (fun x h => hx x (by omega))
        show (1 : Int) = _
        rw [this]; rfl
      have i3 : i < 3 := by omega
      have nxt : (i < s → pr o (i : Int) < (s : Int)) ∧ (¬ i < s → pr o (i : Int) = (i : Int)) → pw (mX9_isOrder_35 (mX9_isOrder_2 fu) (o : Int) (s : Int) (i : Int) M) (fun q => q.2 = M ∧ q.1 = b2i (isOb o s)) := fun h => by
        unfold mX9_isOrder_35
        rw [wI_s (p := i) (by omega)]
        refine ih (i + 1) (by omega) (fun x h2 => ?_)
        by_cases e : x = i
        · rw [e]; exact h
        · exact hx x (by omega)
      refine p_if (fun c2 => ?_) (fun c2 => ?_)
      · refine p_call (v_inOrder ho i3) (fun v m y => ?_)
        obtain ⟨y1, y2⟩ := y
        replace y1 : m = M := y1
        replace y2 : v = pr o (i : Int) := y2
        subst y1; subst y2
        refine p_if (fun c3 => nxt ⟨fun z => by omega, fun _ => c3⟩) (fun c3 => p_ret ⟨rfl, ?_⟩)
        show (0 : Int) = _
        rw [isOb_no i3 (fun z => c3 (z.2 (by omega)))]; rfl
      · refine p_call (v_inOrder ho i3) (fun v m y => ?_)
        obtain ⟨y1, y2⟩ := y
        replace y1 : m = M := y1
        replace y2 : v = pr o (i : Int) := y2
        subst y1; subst y2
        refine p_if (fun c3 => nxt ⟨fun _ => c3, fun z => by omega⟩) (fun c3 => p_ret ⟨rfl, ?_⟩)
        show (0 : Int) = _
        rw [isOb_no i3 (fun z => c3 (z.1 (by omega)))]; rfl
  exact loop FU 0 (by omega) (fun x hx => absurd hx (by omega))
/-- the orders at hand -/
def ORD (a : Nat) (M : Mem) : Prop := mG M 162 0 = ((a / 36 : Nat) : Int) ∧ mG M 162 1 = ((a / 6 % 6 : Nat) : Int) ∧ mG M 162 2 = ((a % 6 : Nat) : Int)
def isA (S : SH) (a : Nat) : Bool := isOb (a / 36) (S.sz 0).toNat && isOb (a / 6 % 6) (S.sz 1).toNat && isOb (a % 6) (S.sz 2).toNat
theorem v_takeOrders {a : Nat} (ok : S.ok) (ha : a < 216) (k9 : K9 M) (rs : RSH S M) : pw (mX9_takeOrders 126 (a : Int) M) (fun q => ORD a q.2 ∧ (∀ c j : Int, ¬ c = 162 → mG q.2 c j = mG M c j) ∧ q.1 = b2i (isA S a)) := by
  obtain ⟨d1, d2, d3, d4⟩ := all_dm a ha
  unfold mX9_takeOrders
  refine p_gFc (ji := 51) rfl k9.c51 (p_dQc d1 (p_aS (fun m1 h1 => ?_)))
  have g1 : ∀ c j : Int, ¬ c = 162 → mG m1 c j = mG M c j := fun c j x => st_ne h1 (fun w => x w.1)
  refine p_gFc (ji := 51) rfl ((g1 126 51 (by decide)).trans k9.c51) (p_dQc d2 (p_dMc d3 (p_aS (fun m2 h2 => ?_))))
  have g2 : ∀ c j : Int, ¬ c = 162 → mG m2 c j = mG M c j := fun c j x => (st_ne h2 (fun w => x w.1)).trans (g1 c j x)
  refine p_gFc (ji := 51) rfl ((g2 126 51 (by decide)).trans k9.c51) (p_dMc d4 (p_aS (fun m3 h3 => ?_)))
  have g3 : ∀ c j : Int, ¬ c = 162 → mG m3 c j = mG M c j := fun c j x => (st_ne h3 (fun w => x w.1)).trans (g2 c j x)
  have e0 : mG m3 162 0 = ((a / 36 : Nat) : Int) := (st_ne h3 (fun w => absurd w.2 (by decide))).trans ((st_ne h2 (fun w => absurd w.2 (by decide))).trans (st_eq h1))
  have e1 : mG m3 162 1 = ((a / 6 % 6 : Nat) : Int) := (st_ne h3 (fun w => absurd w.2 (by decide))).trans (st_eq h2)
  have e2 : mG m3 162 2 = ((a % 6 : Nat) : Int) := st_eq h3
  have c51 : mG m3 126 51 = 162 := (g3 126 51 (by decide)).trans k9.c51
  have c26 : mG m3 126 26 = 152 := (g3 126 26 (by decide)).trans k9.c26
  have z : ∀ k : Int, 0 ≤ k → k < 3 → mG m3 152 k = (((S.sz k).toNat : Nat) : Int) := fun k k0 k1 => by
    rw [g3 152 k (by decide), rs.1 k k0 k1]
    have := ok.1 k k0 k1
    omega
  have fin : ∀ (m : Mem) (v : Int), m = m3 → v = b2i (isA S a) → pw (some (v, m)) (fun q => ORD a q.2 ∧ (∀ c j : Int, ¬ c = 162 → mG q.2 c j = mG M c j) ∧ q.1 = b2i (isA S a)) := fun m v em ev => by
    subst em
    exact p_ret ⟨⟨e0, e1, e2⟩, g3, ev⟩
  refine p_gFc (ji := 51) rfl c51 (p_aGc e0 (p_gFc (ji := 26) rfl c26 (p_aGc (z 0 (by decide) (by decide)) (p_call (v_isOrder (o := a / 36) (by omega)) (fun v m4 y => ?_)))))
  obtain ⟨y1, y2⟩ := y
  replace y1 : m4 = m3 := y1
  replace y2 : v = b2i (isOb (a / 36) (S.sz 0).toNat) := y2
  subst y1
  refine p_if (fun c => fin m4 0 rfl ?_) (fun c => ?_)
  · have := b2i_0.mp (y2.symm.trans c)
    unfold isA; rw [this]; rfl
  have t0 : isOb (a / 36) (S.sz 0).toNat = true := by
    cases e : isOb (a / 36) (S.sz 0).toNat with
    | true => rfl
    | false => rw [e] at y2; exact absurd y2 c
  refine p_gFc (ji := 51) rfl c51 (p_aGc e1 (p_gFc (ji := 26) rfl c26 (p_aGc (z 1 (by decide) (by decide)) (p_call (v_isOrder (o := a / 6 % 6) (by omega)) (fun v m5 y => ?_)))))
  obtain ⟨y3, y4⟩ := y
  replace y3 : m5 = m4 := y3
  replace y4 : v = b2i (isOb (a / 6 % 6) (S.sz 1).toNat) := y4
  subst y3
  refine p_if (fun c => fin m5 0 rfl ?_) (fun c => ?_)
  · have := b2i_0.mp (y4.symm.trans c)
    unfold isA; rw [this, Bool.and_false]; rfl
  have t1 : isOb (a / 6 % 6) (S.sz 1).toNat = true := by
    cases e : isOb (a / 6 % 6) (S.sz 1).toNat with
    | true => rfl
    | false => rw [e] at y4; exact absurd y4 c
  refine p_gFc (ji := 51) rfl c51 (p_aGc e2 (p_gFc (ji := 26) rfl c26 (p_aGc (z 2 (by decide) (by decide)) (p_call (v_isOrder (o := a % 6) (by omega)) (fun v m6 y => ?_)))))
  obtain ⟨y5, y6⟩ := y
  replace y5 : m6 = m5 := y5
  replace y6 : v = b2i (isOb (a % 6) (S.sz 2).toNat) := y6
  subst y5
  refine p_if (fun c => fin m6 0 rfl ?_) (fun c => fin m6 1 rfl ?_)
  · have := b2i_0.mp (y6.symm.trans c)
    unfold isA; rw [this, Bool.and_false]; rfl
  · have t2 : isOb (a % 6) (S.sz 2).toNat = true := by
      cases e : isOb (a % 6) (S.sz 2).toNat with
      | true => rfl
      | false => rw [e] at y6; exact absurd y6 c
    unfold isA; rw [t0, t1, t2]; rfl
/-- what the orders make of a number -/
def frO (a : Nat) : Int → Int → Int := fun k i => if k = 0 then pr (a / 36) i else if k = 1 then pr (a / 6 % 6) i else pr (a % 6) i
def frI (a : Nat) : Int → Int → Int := fun k i => if k = 0 then pr (inO (a / 36)) i else if k = 1 then pr (inO (a / 6 % 6)) i else pr (inO (a % 6)) i
theorem frO_ren {a : Nat} (ok : S.ok) (ha : a < 216) (h : isA S a = true) : ∀ k : Int, 0 ≤ k → k < 3 → REN (S.sz k) (frO a k) (frI a k) := fun k k0 k1 => by
  unfold isA at h
  obtain ⟨h1, h2⟩ := Bool.and_eq_true_iff.mp h
  obtain ⟨h0, h1⟩ := Bool.and_eq_true_iff.mp h1
  have z := ok.1 k k0 k1
  have e : S.sz k = (((S.sz k).toNat : Nat) : Int) := by omega
  rw [e]
  obtain c | c | c : k = 0 ∨ k = 1 ∨ k = 2 := by omega
  · subst c; exact pr_ren (o := a / 36) (by omega) (by omega) (by omega) h0
  · subst c; exact pr_ren (o := a / 6 % 6) (by omega) (by omega) (by omega) h1
  · subst c; exact pr_ren (o := a % 6) (by omega) (by omega) (by omega) h2
theorem v_renamed {a i : Nat} {k : Int} (ha : a < 216) (hk : -1 ≤ k ∧ k ≤ 2) (hi : i < 3) (k9 : K9 M) (h : ORD a M) : pw (mX9_renamed 126 k (i : Int) M) (fun q => q.2 = M ∧ q.1 = (if k = -1 then 0 else frO a k (i : Int))) := by
  unfold mX9_renamed
  refine p_if (fun c => p_ret ⟨rfl, ?_⟩) (fun c => ?_)
  · show (0 : Int) = _
    rw [if_pos c]
  have go : ∀ o : Nat, o < 6 → mG M 162 k = (o : Int) → frO a k (i : Int) = pr o (i : Int) → pw ((gF 9 51 M 126).bind fun a10 => (aG 10 M a10 k).bind fun a14 => (mX9_inOrder a14 (i : Int) M).bind fun q16 => some (q16.1, q16.2)) (fun q => q.2 = M ∧ q.1 = (if k = -1 then 0 else frO a k (i : Int))) := fun o ho e e2 =>
    p_gFc (ji := 51) rfl k9.c51 (p_aGc e (p_call (v_inOrder ho hi) (fun v m y => p_ret ⟨y.1, by rw [if_neg c, e2]; exact y.2⟩)))
  obtain z | z | z : k = 0 ∨ k = 1 ∨ k = 2 := by omega
  · subst z; exact go (a / 36) (by omega) h.1 rfl
  · subst z; exact go (a / 6 % 6) (by omega) h.2.1 rfl
  · subst z; exact go (a % 6) (by omega) h.2.2 rfl
end
