/-! ===== sets of worlds, as words ===== -/
/-- the world's facts, by place -/
def phw (n : Int) (w : Nat) (p : Int) : Bool := w.testBit (n - 1 - p).toNat
/-- how many words -/
def uw (n : Int) : Nat := if n ≤ 6 then 1 else 2 ^ (n - 6).toNat
def WS (l n : Int) (f : Nat → Bool) (M : Mem) : Prop := (mG M l 0 = l + 1 ∧ mG M l 1 = ((uw n : Nat) : Int) ∧ mG M l 2 = n) ∧ ∀ a : Nat, a < uw n → InLL (mG M (l + 1) (a : Int)) ∧ ∀ b : Nat, b < 64 → lb (mG M (l + 1) (a : Int)) b = f (64 * a + b)
theorem uw_1 : ∀ n : Nat, n ≤ 12 → 1 ≤ uw (n : Int) ∧ uw (n : Int) ≤ 64 ∧ 2 ^ n ≤ 64 * uw (n : Int) ∧ (6 ≤ n → 64 * uw (n : Int) = 2 ^ n) ∧ (n ≤ 6 → uw (n : Int) = 1) := by decide +kernel
theorem uw_b {n : Int} (hn : 0 ≤ n ∧ n ≤ 12) : 1 ≤ uw n ∧ uw n ≤ 64 ∧ 2 ^ n.toNat ≤ 64 * uw n ∧ (6 ≤ n → 64 * uw n = 2 ^ n.toNat) ∧ (n ≤ 6 → uw n = 1) := by
  obtain ⟨m, rfl⟩ := Int.eq_ofNat_of_zero_le hn.1
  have := uw_1 m (by omega)
  rw [Int.toNat_natCast]
  exact ⟨this.1, this.2.1, this.2.2.1, fun h => this.2.2.2.1 (by omega), fun h => this.2.2.2.2 (by omega)⟩
/-- the words alone are changed -/
def FX (l : Int) (M M' : Mem) : Prop := ∀ c j : Int, ¬ c = l → mG M' c j = mG M c j
theorem FX.rf {l : Int} {M : Mem} : FX l M M := fun _ _ _ => rfl
theorem FX.tr {l : Int} {M M1 M2 : Mem} (h : FX l M M1) (k : FX l M1 M2) : FX l M M2 := fun c j x => (k c j x).trans (h c j x)
theorem FX.st {l i x : Int} {M M1 M2 : Mem} (h : FX l M M1) (hM : M2 = mS M1 l i x) : FX l M M2 := fun c j z => (st_ne hM (fun w => z w.1)).trans (h c j z)
/-- the whole set -/
def FW (l : Int) (M M' : Mem) : Prop := ∀ c j : Int, ¬ c = l + 1 → ¬ (c = l ∧ (j = 1 ∨ j = 2)) → mG M' c j = mG M c j
theorem FX.fw {l : Int} {M M' : Mem} (h : FX (l + 1) M M') : FW l M M' := fun c j x _ => h c j x
theorem FW.tr {l : Int} {M M1 M2 : Mem} (h : FW l M M1) (k : FW l M1 M2) : FW l M M2 := fun c j x y => (k c j x y).trans (h c j x y)
/-- half done: words below a are new ones -/
def WH (l n : Int) (f g : Nat → Bool) (a : Nat) (M : Mem) : Prop := ∀ x : Nat, x < uw n → InLL (mG M (l + 1) (x : Int)) ∧ ∀ b : Nat, b < 64 → lb (mG M (l + 1) (x : Int)) b = if x < a then g (64 * x + b) else f (64 * x + b)
section
variable {l n : Int} {f g : Nat → Bool} {M : Mem}
theorem WS.kp {M' : Mem} (h : WS l n f M) (g0 : ∀ j, mG M' l j = mG M l j) (g1 : ∀ j, mG M' (l + 1) j = mG M (l + 1) j) : WS l n f M' := by
  obtain ⟨⟨a, b, c⟩, d⟩ := h
  refine ⟨⟨(g0 _).trans a, (g0 _).trans b, (g0 _).trans c⟩, fun x hx => ?_⟩
  rw [g1]; exact d x hx
theorem WS.fx {l2 : Int} {M' : Mem} (h : WS l n f M) (k : FX l2 M M') (h0 : ¬ l = l2) (h1 : ¬ l + 1 = l2) : WS l n f M' := h.kp (fun j => k l j h0) (fun j => k (l + 1) j h1)
theorem WS.fw {l2 : Int} {M' : Mem} (h : WS l n f M) (k : FW l2 M M') (h0 : ¬ l = l2) (h1 : ¬ l + 1 = l2) (h2 : ¬ l = l2 + 1) : WS l n f M' := h.kp (fun j => k l j h2 (fun w => h0 w.1)) (fun j => k (l + 1) j (by omega) (fun w => h1 w.1))
theorem WS.ext (h : WS l n f M) (e : ∀ w, w < 64 * uw n → f w = g w) : WS l n g M := ⟨h.1, fun a ha => ⟨(h.2 a ha).1, fun b hb => by rw [(h.2 a ha).2 b hb, e _ (by omega)]⟩⟩
theorem WH.st {a : Nat} {v : Int} {M' : Mem} (h : WH l n f g a M) (hM : M' = mS M (l + 1) (a : Int) v) (h1 : InLL v) (h2 : ∀ b : Nat, b < 64 → lb v b = g (64 * a + b)) : WH l n f g (a + 1) M' := fun x hx => by
  by_cases e : x = a
  · rw [e, st_eq hM]
    exact ⟨h1, fun b hb => by rw [h2 b hb, if_pos (by omega)]⟩
  · rw [st_ne hM (fun w => e (by have := w.2; omega))]
    obtain ⟨y1, y2⟩ := h x hx
    refine ⟨y1, fun b hb => ?_⟩
    rw [y2 b hb]
    by_cases c : x < a
    · rw [if_pos c, if_pos (by omega)]
    · rw [if_neg c, if_neg (by omega)]
theorem WH.done {a : Nat} (h : WH l n f g a M) (ha : uw n ≤ a) (h0 : mG M l 0 = l + 1 ∧ mG M l 1 = ((uw n : Nat) : Int) ∧ mG M l 2 = n) : WS l n g M := ⟨h0, fun x hx => ⟨(h x hx).1, fun b hb => by rw [(h x hx).2 b hb, if_pos (by omega)]⟩⟩
theorem WS.wh (h : WS l n f M) : WH l n f g 0 M := fun x hx => ⟨(h.2 x hx).1, fun b hb => by rw [(h.2 x hx).2 b hb, if_neg (by omega)]⟩
theorem WH.cur {a : Nat} (h : WH l n f g a M) (ha : a < uw n) : InLL (mG M (l + 1) (a : Int)) ∧ ∀ b : Nat, b < 64 → lb (mG M (l + 1) (a : Int)) b = f (64 * a + b) := ⟨(h a ha).1, fun b hb => by rw [(h a ha).2 b hb, if_neg (Nat.lt_irrefl a)]⟩
theorem q_keepOnly {l1 : Int} (hn : 0 ≤ n ∧ n ≤ 12) (h : WS l n f M) (h1 : WS l1 n g M) (d : ¬ l1 = l + 1 ∧ ¬ l1 + 1 = l + 1) : pw (mX7_keepOnly l l1 M) (fun q => WS l n (fun w => f w && g w) q.2 ∧ FX (l + 1) M q.2) := by
  have ub := uw_b hn
  have loop : ∀ (fu a : Nat) (M' : Mem), a ≤ uw n → FX (l + 1) M M' → WH l n f (fun w => f w && g w) a M' → pw (mX7_keepOnly_2 fu l l1 (a : Int) M') (fun q => WS l n (fun w => f w && g w) q.2 ∧ FX (l + 1) M q.2) := by
    intro fu
    induction fu with
    | zero => intro a M' _ _ _; exact p_none
    | succ fu ih =>
      intro a M' ha fr wh
      show pw (bX7_keepOnly_2 (mX7_keepOnly_2 fu) l l1 (a : Int) M') _
      have e0 : ∀ j, mG M' l j = mG M l j := fun j => fr l j (by omega)
      have e1 : WS l1 n g M' := h1.fx fr (by omega) (by omega)
      unfold bX7_keepOnly_2
      refine p_gFc (ji := 1) rfl ((e0 1).trans h.1.2.1) (p_if (fun c => p_ret ?_) (fun c => ?_))
      · exact ⟨wh.done (by omega) ⟨(e0 _).trans h.1.1, (e0 _).trans h.1.2.1, (e0 _).trans h.1.2.2⟩, fr⟩
      · refine p_gFc (ji := 0) rfl ((e0 0).trans h.1.1) (p_aG (fun x hx => p_gFc (ji := 0) rfl e1.1.1 (p_aG (fun y hy => p_aS (fun M2 h2 => ?_)))))
        rw [wI_s (p := a) (by omega)]
        refine ih (a + 1) M2 (by omega) (fr.st h2) (wh.st h2 (land_L _ _) (fun b hb => ?_))
        obtain ⟨_, x2⟩ := wh.cur (show a < uw n by omega)
        obtain ⟨_, y2⟩ := e1.2 a (by omega)
        rw [hx] at x2
        rw [hy] at y2
        rw [lb_and, x2 b hb, y2 b hb]
  exact loop FU 0 M (by omega) FX.rf h.wh
theorem q_drop {l1 : Int} (hn : 0 ≤ n ∧ n ≤ 12) (h : WS l n f M) (h1 : WS l1 n g M) (d : ¬ l1 = l + 1 ∧ ¬ l1 + 1 = l + 1) : pw (mX7_drop l l1 M) (fun q => WS l n (fun w => f w && !g w) q.2 ∧ FX (l + 1) M q.2) := by
  have ub := uw_b hn
  have loop : ∀ (fu a : Nat) (M' : Mem), a ≤ uw n → FX (l + 1) M M' → WH l n f (fun w => f w && !g w) a M' → pw (mX7_drop_2 fu l l1 (a : Int) M') (fun q => WS l n (fun w => f w && !g w) q.2 ∧ FX (l + 1) M q.2) := by
    intro fu
    induction fu with
    | zero => intro a M' _ _ _; exact p_none
    | succ fu ih =>
      intro a M' ha fr wh
      show pw (bX7_drop_2 (mX7_drop_2 fu) l l1 (a : Int) M') _
      have e0 : ∀ j, mG M' l j = mG M l j := fun j => fr l j (by omega)
      have e1 : WS l1 n g M' := h1.fx fr (by omega) (by omega)
      unfold bX7_drop_2
      refine p_gFc (ji := 1) rfl ((e0 1).trans h.1.2.1) (p_if (fun c => p_ret ?_) (fun c => ?_))
      · exact ⟨wh.done (by omega) ⟨(e0 _).trans h.1.1, (e0 _).trans h.1.2.1, (e0 _).trans h.1.2.2⟩, fr⟩
      · refine p_gFc (ji := 0) rfl ((e0 0).trans h.1.1) (p_aG (fun x hx => p_gFc (ji := 0) rfl e1.1.1 (p_aG (fun y hy => p_aS (fun M2 h2 => ?_)))))
        rw [wI_s (p := a) (by omega)]
        refine ih (a + 1) M2 (by omega) (fr.st h2) (wh.st h2 (land_L _ _) (fun b hb => ?_))
        obtain ⟨_, x2⟩ := wh.cur (show a < uw n by omega)
        obtain ⟨_, y2⟩ := e1.2 a (by omega)
        rw [hx] at x2
        rw [hy] at y2
        rw [lb_and, lb_not _ hb, x2 b hb, y2 b hb]
  exact loop FU 0 M (by omega) FX.rf h.wh
/-! which worlds of a word a fact is so in -/
theorem pat_b : ∀ i : Nat, i < 6 → ∀ b : Nat, b < 64 → lb (patL.getD i 0) b = b.testBit i := by decide +kernel
theorem pat_L : ∀ i : Nat, i < 6 → InLL (patL.getD i 0) := by unfold InLL; decide +kernel
theorem ibit {x k : Nat} (hx : x < 2147483648) (hk : k < 32) : (iand (ishr (x : Int) (k : Int)) 1 = 0) ↔ x.testBit k = false := by
  have e := ishr_e (x := (x : Int)) (k := k) (by omega) (by omega) hk
  have d : (x : Int) / 2 ^ k = ((x / 2 ^ k : Nat) : Int) := by
    rw [show (2 : Int) ^ k = ((2 ^ k : Nat) : Int) by simp]; exact (Int.natCast_ediv _ _).symm
  have l : x / 2 ^ k ≤ x := Nat.div_le_self _ _
  rw [e, d, Nat.testBit_eq_decide_div_mod_eq]
  generalize x / 2 ^ k = y at l ⊢
  rw [iand_nat (by omega) (by omega) (by decide) (by decide), Int.toNat_natCast, show (1 : Int).toNat = 1 by decide, Nat.and_one_is_mod]
  constructor
  · intro h; exact decide_eq_false (by omega)
  · intro h
    have := of_decide_eq_false h
    omega
theorem tb64 {a b i : Nat} (hb : b < 64) : (64 * a + b).testBit i = if i < 6 then b.testBit i else a.testBit (i - 6) := by
  have := Nat.testBit_two_pow_mul_add a (b := b) (i := 6) hb i
  exact this
theorem q_soAt {i : Int} {a : Nat} (hi : 0 ≤ i ∧ i < 38) (ha : a < 64) : pw (mX7_soAt i (a : Int) M) (fun q => q.2 = M ∧ InLL q.1 ∧ ∀ b : Nat, b < 64 → lb q.1 b = (64 * a + b).testBit i.toNat) := by
  obtain ⟨k, rfl⟩ := Int.eq_ofNat_of_zero_le hi.1
  unfold mX7_soAt
  refine p_if (fun c => absurd c (by omega)) (fun _ => p_if (fun c => ?_) (fun c => ?_))
  · unfold mX7_soAt_18
    rw [wI_id (x := (k : Int) - 6) (by omega) (by omega), show (k : Int) - 6 = ((k - 6 : Nat) : Int) by omega]
    refine p_if (fun z => p_ret ⟨rfl, L_0, fun b hb => ?_⟩) (fun z => p_ret ⟨rfl, L_m1, fun b hb => ?_⟩)
    · have z := (ibit (by omega) (by omega)).mp z
      show lb 0 b = _
      rw [lb_zero, Int.toNat_natCast, tb64 hb, if_neg (by omega), z]
    · show lb (-1) b = _
      rw [lb_m1 hb, Int.toNat_natCast, tb64 hb, if_neg (by omega)]
      cases e : a.testBit (k - 6) with
      | true => rfl
      | false => exact absurd ((ibit (by omega) (by omega)).mpr e) z
  · refine p_tGc (r := patL.getD k 0) (by rw [Int.toNat_natCast]) (p_ret ⟨rfl, pat_L k (by omega), fun b hb => ?_⟩)
    show lb (patL.getD k 0) b = _
    rw [pat_b k (by omega) b hb, Int.toNat_natCast, tb64 hb, if_pos (by omega)]
theorem q_keepWhere {i : Int} {v : Bool} (hn : 0 ≤ n ∧ n ≤ 12) (h : WS l n f M) (hi : 0 ≤ i ∧ i < 38) : pw (mX7_keepWhere l i (b2i v) M) (fun q => WS l n (fun w => f w && (w.testBit i.toNat == v)) q.2 ∧ FX (l + 1) M q.2) := by
  have ub := uw_b hn
  have loop : ∀ (fu a : Nat) (M' : Mem), a ≤ uw n → FX (l + 1) M M' → WH l n f (fun w => f w && (w.testBit i.toNat == v)) a M' → pw (mX7_keepWhere_2 fu l i (b2i v) (a : Int) M') (fun q => WS l n (fun w => f w && (w.testBit i.toNat == v)) q.2 ∧ FX (l + 1) M q.2) := by
    intro fu
    induction fu with
    | zero => intro a M' _ _ _; exact p_none
    | succ fu ih =>
      intro a M' ha fr wh
      show pw (bX7_keepWhere_2 (mX7_keepWhere_2 fu) l i (b2i v) (a : Int) M') _
      have e0 : ∀ j, mG M' l j = mG M l j := fun j => fr l j (by omega)
      unfold bX7_keepWhere_2
      refine p_gFc (ji := 1) rfl ((e0 1).trans h.1.2.1) (p_if (fun c => p_ret ?_) (fun c => ?_))
      · exact ⟨wh.done (by omega) ⟨(e0 _).trans h.1.1, (e0 _).trans h.1.2.1, (e0 _).trans h.1.2.2⟩, fr⟩
      · have go : ∀ x s m, mG M' (l + 1) (a : Int) = x → m = M' → InLL s → (∀ b : Nat, b < 64 → lb s b = ((64 * a + b).testBit i.toNat == v)) → pw (mX7_keepWhere_38 (mX7_keepWhere_2 fu) l i (b2i v) (a : Int) (l + 1) (a : Int) x s m) (fun q => WS l n (fun w => f w && (w.testBit i.toNat == v)) q.2 ∧ FX (l + 1) M q.2) := fun x s m hx hm hs hb => by
          subst hm
          unfold mX7_keepWhere_38
          refine p_aS (fun M2 h2 => ?_)
          rw [wI_s (p := a) (by omega)]
          refine ih (a + 1) M2 (by omega) (fr.st h2) (wh.st h2 (land_L _ _) (fun b hb2 => ?_))
          obtain ⟨_, x2⟩ := wh.cur (show a < uw n by omega)
          rw [hx] at x2
          rw [lb_and, x2 b hb2, hb b hb2]
        refine p_gFc (ji := 0) rfl ((e0 0).trans h.1.1) (p_aG (fun x hx => p_if (fun z => ?_) (fun z => ?_)))
        · have z := b2i_0.mp z
          refine p_call (q_soAt hi (show a < 64 by omega)) (fun r m y => ?_)
          obtain ⟨y1, y2, y3⟩ := y
          replace y1 : m = M' := y1
          refine go x _ m hx y1 (lxor_L _ _) (fun b hb => ?_)
          rw [lb_not _ hb, y3 b hb, z]
          cases (64 * a + b).testBit i.toNat <;> rfl
        · have z : v = true := by
            cases hv : v with
            | true => rfl
            | false => rw [hv] at z; exact absurd rfl z
          refine p_call (q_soAt hi (show a < 64 by omega)) (fun r m y => ?_)
          obtain ⟨y1, y2, y3⟩ := y
          replace y1 : m = M' := y1
          refine go x _ m hx y1 y2 (fun b hb => ?_)
          rw [y3 b hb, z]
          cases (64 * a + b).testBit i.toNat <;> rfl
  exact loop FU 0 M (by omega) FX.rf h.wh
theorem q_takeNone {k : Int} (hk : 0 ≤ k ∧ k ≤ 12) (h0 : mG M l 0 = l + 1) : pw (mX7_takeNone l k M) (fun q => WS l k (fun _ => false) q.2 ∧ FW l M q.2) := by
  have ub := uw_b hk
  have loop : ∀ (fu a : Nat) (M' : Mem), a ≤ uw k → FW l M M' → (mG M' l 1 = ((uw k : Nat) : Int) ∧ mG M' l 2 = k) → (∀ x : Nat, x < a → mG M' (l + 1) (x : Int) = 0) → pw (mX7_takeNone_42 fu l (a : Int) M') (fun q => WS l k (fun _ => false) q.2 ∧ FW l M q.2) := by
    intro fu
    induction fu with
    | zero => intro a M' _ _ _ _; exact p_none
    | succ fu ih =>
      intro a M' ha fr e1 hz
      show pw (bX7_takeNone_42 (mX7_takeNone_42 fu) l (a : Int) M') _
      have e0 : mG M' l 0 = l + 1 := (fr l 0 (by omega) (by omega)).trans h0
      unfold bX7_takeNone_42
      refine p_gFc (ji := 1) rfl e1.1 (p_if (fun c => p_ret ?_) (fun c => ?_))
      · refine ⟨⟨⟨e0, e1.1, e1.2⟩, fun x hx => ?_⟩, fr⟩
        rw [hz x (by omega)]
        exact ⟨L_0, fun b _ => lb_zero b⟩
      · refine p_gFc (ji := 0) rfl e0 (p_aS (fun M2 h2 => ?_))
        rw [wI_s (p := a) (by omega)]
        have g : ∀ c j : Int, ¬ c = l + 1 → mG M2 c j = mG M' c j := fun c j z => st_ne h2 (fun w => z w.1)
        refine ih (a + 1) M2 (by omega) (fun c j x y => (g c j x).trans (fr c j x y)) ⟨(g l 1 (by omega)).trans e1.1, (g l 2 (by omega)).trans e1.2⟩ (fun x hx => ?_)
        by_cases e : x = a
        · rw [e]; exact st_eq h2
        · rw [st_ne h2 (fun w => e (by have := w.2; omega))]
          exact hz x (by omega)
  have s37 : ∀ (v : Int) (M' : Mem), v = ((uw k : Nat) : Int) → FW l M M' → mG M' l 2 = k → pw (mX7_takeNone_37 l l v M') (fun q => WS l k (fun _ => false) q.2 ∧ FW l M q.2) := fun v M' hv fr e2 => by
    unfold mX7_takeNone_37
    refine p_pF (ji := 1) rfl (fun M2 h2 => ?_)
    refine loop FU 0 M2 (by omega) (fun c j x y => (st_ne h2 (fun w => y ⟨w.1, Or.inl w.2⟩)).trans (fr c j x y)) ⟨(st_eq h2).trans hv, (st_ne h2 (fun w => absurd w.2 (by decide))).trans e2⟩ (fun x hx => absurd hx (by omega))
  unfold mX7_takeNone
  have ek : (if 0 < if 12 < k then 12 else k then if 12 < k then 12 else k else 0) = k := by
    rw [if_neg (show ¬ 12 < k by omega)]
    by_cases z : 0 < k
    · rw [if_pos z]
    · rw [if_neg z]; omega
  rw [ek]
  refine p_pF (ji := 2) rfl (fun M1 h1 => ?_)
  have e2 : mG M1 l 2 = k := st_eq h1
  have fr : FW l M M1 := fun c j x y => st_ne h1 (fun w => y ⟨w.1, Or.inr w.2⟩)
  refine p_gFc (ji := 2) rfl e2 (p_if (fun c => p_gFc (ji := 2) rfl e2 (s37 _ M1 ?_ fr e2)) (fun c => s37 _ M1 ?_ fr e2))
  · obtain ⟨m, hm⟩ := Int.eq_ofNat_of_zero_le (show 0 ≤ k - 6 by omega)
    rw [wI_id (x := k - 6) (by omega) (by omega), hm, ishl1 m (by omega)]
    unfold uw
    rw [if_neg (by omega), hm, Int.toNat_natCast]; simp
  · rw [(ub.2.2.2.2) (by omega)]; rfl
theorem tk_1 : ∀ n : Nat, n < 6 → InLL (wL (lshl 1 (ishl 1 (n : Int)) - 1)) ∧ ∀ b : Nat, b < 64 → lb (wL (lshl 1 (ishl 1 (n : Int)) - 1)) b = decide (b < 2 ^ n) := by unfold InLL; decide +kernel
theorem q_takeAll {k : Int} (hk : 0 ≤ k ∧ k ≤ 12) (h0 : mG M l 0 = l + 1) : pw (mX7_takeAll l k M) (fun q => WS l k (fun w => decide (w < 2 ^ k.toNat)) q.2 ∧ FW l M q.2) := by
  have ub := uw_b hk
  have loop : ∀ (fu a : Nat) (M' : Mem), a ≤ uw k → FW l M M' → (mG M' l 1 = ((uw k : Nat) : Int) ∧ mG M' l 2 = k) → WH l k (fun _ => false) (fun w => decide (w < 2 ^ k.toNat)) a M' → pw (mX7_takeAll_7 fu l (a : Int) M') (fun q => WS l k (fun w => decide (w < 2 ^ k.toNat)) q.2 ∧ FW l M q.2) := by
    intro fu
    induction fu with
    | zero => intro a M' _ _ _ _; exact p_none
    | succ fu ih =>
      intro a M' ha fr e1 wh
      show pw (bX7_takeAll_7 (mX7_takeAll_7 fu) l (a : Int) M') _
      have e0 : mG M' l 0 = l + 1 := (fr l 0 (by omega) (by omega)).trans h0
      unfold bX7_takeAll_7
      refine p_gFc (ji := 1) rfl e1.1 (p_if (fun c => p_ret ?_) (fun c => ?_))
      · exact ⟨wh.done (by omega) ⟨e0, e1.1, e1.2⟩, fr⟩
      · have go : ∀ v : Int, InLL v → (∀ b : Nat, b < 64 → lb v b = decide (64 * a + b < 2 ^ k.toNat)) → pw (mX7_takeAll_45 (mX7_takeAll_7 fu) l (a : Int) (l + 1) (a : Int) v M') (fun q => WS l k (fun w => decide (w < 2 ^ k.toNat)) q.2 ∧ FW l M q.2) := fun v v1 v2 => by
          unfold mX7_takeAll_45
          refine p_aS (fun M2 h2 => ?_)
          rw [wI_s (p := a) (by omega)]
          have g : ∀ c j : Int, ¬ c = l + 1 → mG M2 c j = mG M' c j := fun c j z => st_ne h2 (fun w => z w.1)
          exact ih (a + 1) M2 (by omega) (fun c j x y => (g c j x).trans (fr c j x y)) ⟨(g l 1 (by omega)).trans e1.1, (g l 2 (by omega)).trans e1.2⟩ (wh.st h2 v1 v2)
        refine p_gFc (ji := 0) rfl e0 (p_gFc (ji := 2) rfl e1.2 (p_if (fun z => ?_) (fun z => p_gFc (ji := 2) rfl e1.2 ?_)))
        · refine go (-1) L_m1 (fun b hb => ?_)
          have := ub.2.2.2.1 (by omega)
          rw [lb_m1 hb, decide_eq_true (by omega)]
        · obtain ⟨m, rfl⟩ := Int.eq_ofNat_of_zero_le hk.1
          have := tk_1 m (by omega)
          have a0 : a = 0 := by have := ub.2.2.2.2 (by omega); omega
          refine go _ this.1 (fun b hb => ?_)
          rw [this.2 b hb, a0, Int.toNat_natCast, Nat.mul_zero, Nat.zero_add]
  unfold mX7_takeAll
  refine p_gK (p_call (q_takeNone hk h0) (fun v m y => ?_))
  obtain ⟨y1, y2⟩ := y
  exact loop FU 0 m (by omega) y2 ⟨y1.1.2.1, y1.1.2.2⟩ y1.wh
theorem q_copy {l1 : Int} (hn : 0 ≤ n ∧ n ≤ 12) (h0 : mG M l 0 = l + 1) (h1 : WS l1 n g M) (d : ¬ l1 = l ∧ ¬ l1 = l + 1 ∧ ¬ l1 + 1 = l) : pw (mX7_copy l l1 M) (fun q => WS l n g q.2 ∧ FW l M q.2) := by
  unfold mX7_copy
  refine p_gFc (ji := 2) rfl h1.1.2.2 (p_pF (ji := 2) rfl (fun M1 a1 => ?_))
  have g1 : ∀ c j : Int, ¬ (c = l ∧ j = 2) → mG M1 c j = mG M c j := fun c j z => st_ne a1 z
  refine p_gFc (ji := 1) rfl ((g1 l1 1 (by omega)).trans h1.1.2.1) (p_pF (ji := 1) rfl (fun M2 a2 => ?_))
  have g2 : ∀ c j : Int, ¬ (c = l ∧ (j = 1 ∨ j = 2)) → mG M2 c j = mG M c j := fun c j z => (st_ne a2 (fun w => z ⟨w.1, Or.inl w.2⟩)).trans (g1 c j (fun w => z ⟨w.1, Or.inr w.2⟩))
  have e1 : mG M2 l 1 = ((uw n : Nat) : Int) := st_eq a2
  have e2 : mG M2 l 2 = n := (st_ne a2 (fun w => absurd w.2 (by decide))).trans (st_eq a1)
  have e0 : mG M2 l 0 = l + 1 := (g2 l 0 (by omega)).trans h0
  refine p_gFc (ji := 0) rfl ((g2 l1 0 (by omega)).trans h1.1.1) (p_gFc (ji := 0) rfl e0 (p_gFc (ji := 1) rfl e1 (p_aC (fun M3 a3 => p_ret ?_))))
  have g3 : ∀ c j : Int, ¬ c = l + 1 → mG M3 c j = mG M2 c j := fun c j z => by rw [cp_g a3, if_neg (fun w => z w.1)]
  refine ⟨⟨⟨(g3 l 0 (by omega)).trans e0, (g3 l 1 (by omega)).trans e1, (g3 l 2 (by omega)).trans e2⟩, fun x hx => ?_⟩, fun c j x y => (g3 c j x).trans (g2 c j y)⟩
  have e : mG M3 (l + 1) (x : Int) = mG M (l1 + 1) (x : Int) := by
    rw [cp_g a3, if_pos ⟨rfl, by omega, by omega⟩, show (0 : Int) + ((x : Int) - 0) = (x : Int) by omega]
    exact g2 (l1 + 1) _ (by omega)
  show InLL (mG M3 (l + 1) (x : Int)) ∧ ∀ b : Nat, b < 64 → lb (mG M3 (l + 1) (x : Int)) b = g (64 * x + b)
  rw [e]
  exact h1.2 x hx
theorem ctn_64 (f : Nat → Bool) (a : Nat) : ∀ k : Nat, ctn f (64 * a + k) = ctn f (64 * a) + ctn (fun b => f (64 * a + b)) k := by
  intro k
  induction k with
  | zero => rfl
  | succ k ih =>
    show ctn f (64 * a + k) + _ = _ + (ctn _ k + _)
    rw [ih]; exact Nat.add_assoc _ _ _
theorem q_count (hn : 0 ≤ n ∧ n ≤ 12) (h : WS l n f M) : pw (mX7_count l M) (fun q => q.2 = M ∧ q.1 = ((ctn f (64 * uw n) : Nat) : Int)) := by
  have ub := uw_b hn
  have loop : ∀ (fu a : Nat), a ≤ uw n → pw (mX7_count_4 fu l ((ctn f (64 * a) : Nat) : Int) (a : Int) M) (fun q => q.2 = M ∧ q.1 = ((ctn f (64 * uw n) : Nat) : Int)) := by
    intro fu
    induction fu with
    | zero => intro a _; exact p_none
    | succ fu ih =>
      intro a ha
      show pw (bX7_count_4 (mX7_count_4 fu) l ((ctn f (64 * a) : Nat) : Int) (a : Int) M) _
      unfold bX7_count_4
      refine p_gFc (ji := 1) rfl h.1.2.1 (p_if (fun c => p_ret ?_) (fun c => ?_))
      · rw [show a = uw n by omega]; exact ⟨rfl, rfl⟩
      · refine p_gFc (ji := 0) rfl h.1.1 (p_aG (fun x hx => p_call (q_bitCount x M) (fun r m y => ?_)))
        obtain ⟨y1, y2⟩ := y
        replace y1 : m = M := y1
        replace y2 : r = ((ctn (fun b => lb x b) 64 : Nat) : Int) := y2
        subst y1
        have b1 := ctn_le f (64 * a)
        have b2 := ctn_le (fun b => lb x b) 64
        rw [y2, wI_s (p := a) (by omega), wI_id (x := ((ctn f (64 * a) : Nat) : Int) + ((ctn (fun b => lb x b) 64 : Nat) : Int)) (by omega) (by omega)]
        have e : ctn f (64 * (a + 1)) = ctn f (64 * a) + ctn (fun b => lb x b) 64 := by
          rw [show 64 * (a + 1) = 64 * a + 64 by omega, ctn_64]
          rw [ctn_congr (f := fun b => lb x b) (g := fun b => f (64 * a + b)) 64 (fun b hb => by rw [← hx]; exact (h.2 a (by omega)).2 b hb)]
        rw [← Int.natCast_add, ← e]
        exact ih (a + 1) (by omega)
  exact loop FU 0 (by omega)
theorem q_countWhere {i : Int} (hn : 0 ≤ n ∧ n ≤ 12) (h : WS l n f M) (hi : 0 ≤ i ∧ i < 38) : pw (mX7_countWhere l i M) (fun q => q.2 = M ∧ q.1 = ((ctn (fun w => f w && w.testBit i.toNat) (64 * uw n) : Nat) : Int)) := by
  have ub := uw_b hn
  have loop : ∀ (fu a : Nat), a ≤ uw n → pw (mX7_countWhere_4 fu l i ((ctn (fun w => f w && w.testBit i.toNat) (64 * a) : Nat) : Int) (a : Int) M) (fun q => q.2 = M ∧ q.1 = ((ctn (fun w => f w && w.testBit i.toNat) (64 * uw n) : Nat) : Int)) := by
    intro fu
    induction fu with
    | zero => intro a _; exact p_none
    | succ fu ih =>
      intro a ha
      show pw (bX7_countWhere_4 (mX7_countWhere_4 fu) l i ((ctn (fun w => f w && w.testBit i.toNat) (64 * a) : Nat) : Int) (a : Int) M) _
      unfold bX7_countWhere_4
      refine p_gFc (ji := 1) rfl h.1.2.1 (p_if (fun c => p_ret ?_) (fun c => ?_))
      · rw [show a = uw n by omega]; exact ⟨rfl, rfl⟩
      · refine p_gFc (ji := 0) rfl h.1.1 (p_aG (fun x hx => p_call (q_soAt hi (show a < 64 by omega)) (fun s m0 y0 => ?_)))
        obtain ⟨z1, z2, z3⟩ := y0
        replace z1 : m0 = M := z1
        replace z3 : ∀ b : Nat, b < 64 → lb s b = (64 * a + b).testBit i.toNat := z3
        subst z1
        refine p_call (q_bitCount (land x s) m0) (fun r m y => ?_)
        obtain ⟨y1, y2⟩ := y
        replace y1 : m = m0 := y1
        replace y2 : r = ((ctn (fun b => lb (land x s) b) 64 : Nat) : Int) := y2
        subst y1
        have b1 := ctn_le (fun w => f w && w.testBit i.toNat) (64 * a)
        have b2 := ctn_le (fun b => lb (land x s) b) 64
        rw [y2, wI_s (p := a) (by omega), wI_id (x := ((ctn (fun w => f w && w.testBit i.toNat) (64 * a) : Nat) : Int) + ((ctn (fun b => lb (land x s) b) 64 : Nat) : Int)) (by omega) (by omega)]
        have e : ctn (fun w => f w && w.testBit i.toNat) (64 * (a + 1)) = ctn (fun w => f w && w.testBit i.toNat) (64 * a) + ctn (fun b => lb (land x s) b) 64 := by
          rw [show 64 * (a + 1) = 64 * a + 64 by omega, ctn_64]
          rw [ctn_congr (f := fun b => lb (land x s) b) (g := fun b => f (64 * a + b) && (64 * a + b).testBit i.toNat) 64 (fun b hb => by rw [lb_and, z3 b hb, ← hx, (h.2 a (by omega)).2 b hb])]
        rw [← Int.natCast_add, ← e]
        exact ih (a + 1) (by omega)
  exact loop FU 0 (by omega)
theorem q_isNothing (hn : 0 ≤ n ∧ n ≤ 12) (h : WS l n f M) : pw (mX7_isNothing l M) (fun q => q.2 = M ∧ (((∀ w, w < 64 * uw n → f w = false) ∧ q.1 = 1) ∨ ((∃ w, w < 64 * uw n ∧ f w = true) ∧ q.1 = 0))) := by
  have ub := uw_b hn
  have loop : ∀ (fu a : Nat), a ≤ uw n → (∀ w, w < 64 * a → f w = false) → pw (mX7_isNothing_2 fu l (a : Int) M) (fun q => q.2 = M ∧ (((∀ w, w < 64 * uw n → f w = false) ∧ q.1 = 1) ∨ ((∃ w, w < 64 * uw n ∧ f w = true) ∧ q.1 = 0))) := by
    intro fu
    induction fu with
    | zero => intro a _ _; exact p_none
    | succ fu ih =>
      intro a ha hz
      show pw (bX7_isNothing_2 (mX7_isNothing_2 fu) l (a : Int) M) _
      unfold bX7_isNothing_2
      refine p_gFc (ji := 1) rfl h.1.2.1 (p_if (fun c => p_ret ?_) (fun c => ?_))
      · rw [show a = uw n by omega] at hz
        exact ⟨rfl, Or.inl ⟨hz, rfl⟩⟩
      · obtain ⟨v1, v2⟩ := h.2 a (by omega)
        refine p_gFc (ji := 0) rfl h.1.1 (p_aG (fun x hx => ?_))
        rw [hx] at v1 v2
        refine p_if (fun z => ?_) (fun z => p_ret ⟨rfl, Or.inr ⟨?_, rfl⟩⟩)
        · rw [wI_s (p := a) (by omega)]
          have z := (l_zero v1).mp ((lcmp_0 _ _).mp z)
          refine ih (a + 1) (by omega) (fun w hw => ?_)
          by_cases c2 : w < 64 * a
          · exact hz w c2
          · have := v2 (w - 64 * a) (by omega)
            rw [z _ (by omega), show 64 * a + (w - 64 * a) = w by omega] at this
            exact this.symm
        · have z : ¬ ∀ b : Nat, b < 64 → lb x b = false := fun w => z ((lcmp_0 _ _).mpr ((l_zero v1).mpr w))
          apply Classical.byContradiction
          intro hno
          refine z (fun b hb => ?_)
          cases e : lb x b with
          | false => rfl
          | true =>
            rw [v2 b hb] at e
            exact absurd ⟨64 * a + b, by omega, e⟩ hno
  exact loop FU 0 (by omega) (fun w hw => absurd hw (by omega))
end
