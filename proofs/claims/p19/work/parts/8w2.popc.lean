section
theorem pc8 {z : Nat} (t1 : z / 16 ≤ 4) (t2 : z % 16 ≤ 4) : pcC z ≤ 8 := by
  unfold pcC
  have c : z / 16 = 0 ∨ z / 16 = 1 ∨ z / 16 = 2 ∨ z / 16 = 3 ∨ z / 16 = 4 := by omega
  rcases c with c | c | c | c | c <;> omega
/-- how many of the first N are so -/
def ctn (f : Nat → Bool) : Nat → Nat
  | 0 => 0
  | n + 1 => ctn f n + (f n).toNat
theorem ctn_8 (f : Nat → Bool) (k : Nat) : ctn f (8 * k + 8) = ctn f (8 * k) + ((f (8 * k)).toNat + (f (8 * k + 1)).toNat + (f (8 * k + 2)).toNat + (f (8 * k + 3)).toNat + (f (8 * k + 4)).toNat + (f (8 * k + 5)).toNat + (f (8 * k + 6)).toNat + (f (8 * k + 7)).toNat) := by
  show ctn f (8 * k) + _ + _ + _ + _ + _ + _ + _ + _ = _
  omega
theorem by_bit (x k i : Nat) (h : i < 8) : (by8 x k).testBit i = x.testBit (8 * k + i) := by
  unfold by8
  rw [Nat.testBit_mod_two_pow, Nat.testBit_div_two_pow, decide_eq_true h, Nat.add_comm i]; rfl
theorem by_cn (x k : Nat) : pcC (pcB (pcA (by8 x k))) + ctn (fun b => x.testBit b) (8 * k) = ctn (fun b => x.testBit b) (8 * k + 8) := by
  rw [ctn_8, (pcA_b _ (by_lt x k)).2.2.2.2, by_bit x k 0 (by decide), by_bit x k 1 (by decide), by_bit x k 2 (by decide), by_bit x k 3 (by decide), by_bit x k 4 (by decide), by_bit x k 5 (by decide), by_bit x k 6 (by decide), by_bit x k 7 (by decide)]
  rw [Nat.add_zero]; omega
/-- the whole of it -/
theorem popc {x y1 y2 y3 : Nat} (h : x < 18446744073709551616) (h1 : y1 = x - ((x >>> 1) &&& 6148914691236517205)) (h2 : y2 = (y1 &&& 3689348814741910323) + ((y1 >>> 2) &&& 3689348814741910323)) (h3 : y3 = (y2 + (y2 >>> 4)) &&& 1085102592571150095) : (x >>> 1) &&& 6148914691236517205 ≤ x ∧ y2 < 18446744073709551616 ∧ y2 + (y2 >>> 4) < 18446744073709551616 ∧ (y3 + y3 / 256 + (y3 + y3 / 256) / 65536 + (y3 + y3 / 256 + (y3 + y3 / 256) / 65536) / 4294967296) % 128 = ctn (fun b => x.testBit b) 64 ∧ y3 + y3 / 256 + (y3 + y3 / 256) / 65536 + (y3 + y3 / 256 + (y3 + y3 / 256) / 65536) / 4294967296 < 18446744073709551616 := by
  obtain ⟨a1, a2⟩ := st_1 h
  have b : ∀ k, _ := fun k => pcA_b _ (by_lt x k)
  rw [a1] at h1
  have c2 := st_2 (g := fun k => pcA (by8 x k)) (fun k _ => (b k).2.1)
  rw [← h1, ← h2] at c2
  obtain ⟨c3, c4⟩ := st_3 (e := fun k => pcB (pcA (by8 x k))) (fun k _ => ⟨(b k).2.2.1, (b k).2.2.2.1⟩)
  rw [← c2] at c3 c4
  rw [← h3] at c3
  obtain ⟨c5, c6⟩ := st_4 (p := fun k => pcC (pcB (pcA (by8 x k)))) (fun k _ => by
    have t1 := (b k).2.2.1
    have t2 := (b k).2.2.2.1
    show pcC (pcB (pcA (by8 x k))) ≤ 8
    exact pc8 t1 t2)
  rw [← c3] at c5 c6
  refine ⟨a2, by omega, c4, ?_, c6⟩
  rw [c5]
  have d0 := by_cn x 0
  have d1 := by_cn x 1
  have d2 := by_cn x 2
  have d3 := by_cn x 3
  have d4 := by_cn x 4
  have d5 := by_cn x 5
  have d6 := by_cn x 6
  have d7 := by_cn x 7
  simp only [Nat.mul_zero, Nat.reduceMul, Nat.reduceAdd] at d0 d1 d2 d3 d4 d5 d6 d7
  have e0 : ctn (fun b => x.testBit b) 0 = 0 := rfl
  omega
theorem ctn_congr {f g : Nat → Bool} : ∀ n : Nat, (∀ k, k < n → f k = g k) → ctn f n = ctn g n := by
  intro n
  induction n with
  | zero => intro _; rfl
  | succ n ih =>
    intro h
    show ctn f n + (f n).toNat = ctn g n + (g n).toNat
    rw [ih (fun k hk => h k (by omega)), h n (by omega)]
theorem ctn_le (f : Nat → Bool) : ∀ n : Nat, ctn f n ≤ n := by
  intro n
  induction n with
  | zero => exact Nat.le_refl 0
  | succ n ih =>
    show ctn f n + (f n).toNat ≤ n + 1
    have := Bool.toNat_le (f n)
    omega
theorem q_bitCount (x : Int) (M : Mem) : pw (mJ13_bitCount_95d88 x M) (fun q => q.2 = M ∧ q.1 = ((ctn (fun b => lb x b) 64 : Nat) : Int)) := by
  unfold mJ13_bitCount_95d88
  refine p_some (fun b9 h9 => p_some (fun b23 h23 => p_some (fun b33 h33 => p_some (fun b47 h47 => p_some (fun b54 h54 => p_ret ⟨rfl, ?_⟩)))))
  show iand (l2i b54) 127 = _
  rw [U_l2i]
  have l1 : ∀ y, U (lus y 1) = U y >>> 1 := fun y => U_lus y 1 1 (by decide +kernel) (by decide +kernel)
  have l2 : ∀ y, U (lus y 2) = U y >>> 2 := fun y => U_lus y 2 2 (by decide +kernel) (by decide +kernel)
  have l4 : ∀ y, U (lus y 4) = U y >>> 4 := fun y => U_lus y 4 4 (by decide +kernel) (by decide +kernel)
  have l8 : ∀ y, U (lus y 8) = U y / 256 := fun y => (U_lus y 8 8 (by decide +kernel) (by decide +kernel)).trans (Nat.shiftRight_eq_div_pow _ 8)
  have l16 : ∀ y, U (lus y 16) = U y / 65536 := fun y => (U_lus y 16 16 (by decide +kernel) (by decide +kernel)).trans (Nat.shiftRight_eq_div_pow _ 16)
  have l32 : ∀ y, U (lus y 32) = U y / 4294967296 := fun y => (U_lus y 32 32 (by decide +kernel) (by decide +kernel)).trans (Nat.shiftRight_eq_div_pow _ 32)
  have m1 : U 6148914691236517205 = 6148914691236517205 := by decide +kernel
  have m2 : U 3689348814741910323 = 3689348814741910323 := by decide +kernel
  have m4 : U 1085102592571150095 = 1085102592571150095 := by decide +kernel
  obtain ⟨p1, p2, p3, p4, p5⟩ := popc (U_lt x) rfl rfl rfl
  have hx := U_lt x
  have u9 : U b9 = U x - ((U x >>> 1) &&& 6148914691236517205) := by
    rw [h9, U_sub, U_and, l1, m1]
    omega
  have u23 : U b23 = (U b9 &&& 3689348814741910323) + ((U b9 >>> 2) &&& 3689348814741910323) := by
    rw [h23, U_add, U_and, U_and, l2, m2, u9]
    exact Nat.mod_eq_of_lt p2
  rw [← u9, ← u23] at p3 p4 p5
  have u33 : U b33 = (U b23 + (U b23 >>> 4)) &&& 1085102592571150095 := by
    rw [h33, U_and, U_add, l4, m4, Nat.mod_eq_of_lt p3]
  rw [← u33] at p4 p5
  have u40 : U (wL (b33 + lus b33 8)) = U b33 + U b33 / 256 := by
    rw [U_add, l8]; omega
  have u47 : U b47 = U b33 + U b33 / 256 + (U b33 + U b33 / 256) / 65536 := by
    rw [h47, U_add, l16, u40]; omega
  have u54 : U b54 = U b47 + U b47 / 4294967296 := by
    rw [h54, U_add, l32, u47]; omega
  rw [u54, u47, p4]; rfl
end
section
/-! ===== sets of worlds, as words ===== -/
/-- the world's facts, by place -/
def phw (n : Int) (w : Nat) (p : Int) : Bool := w.testBit (n - 1 - p).toNat
/-- how many words -/
def uw (n : Int) : Nat := if n ≤ 6 then 1 else 2 ^ (n - 6).toNat
def WS (l n : Int) (f : Nat → Bool) (M : Mem) : Prop := (mG M l 0 = l + 1 ∧ mG M l 1 = ((uw n : Nat) : Int) ∧ mG M l 2 = n) ∧ ∀ a : Nat, a < uw n → InLL (mG M (l + 1) (a : Int)) ∧ ∀ b : Nat, b < 64 → lb (mG M (l + 1) (a : Int)) b = f (64 * a + b)
theorem uw_1 : ∀ n : Nat, n ≤ 12 → 1 ≤ uw (n : Int) ∧ uw (n : Int) ≤ 64 ∧ 2 ^ n ≤ 64 * uw (n : Int) ∧ (6 ≤ n → 64 * uw (n : Int) = 2 ^ n) ∧ (n ≤ 6 → uw (n : Int) = 1) := by decide +kernel
theorem uw_b {n : Int} (hn : 0 ≤ n ∧ n ≤ 12) : 1 ≤ uw n ∧ uw n ≤ 64 ∧ 2 ^ n.toNat ≤ 64 * uw n ∧ (6 ≤ n → 64 * uw n = 2 ^ n.toNat) ∧ (n ≤ 6 → uw n = 1) := by
  obtain ⟨m, rfl⟩ := Int.eq_ofNat_of_zero_le hn.1
  have := uw_1 m (by omega)
  rw [Int.toNat_natCast]
  exact ⟨this.1, this.2.1, this.2.2.1, fun h => this.2.2.2.1 (by omega), fun h => this.2.2.2.2 (by omega)⟩
/-- the words alone are changed -/
def FX (l : Int) (M M' : Mem) : Prop := ∀ c j : Int, ¬ c = l → mG M' c j = mG M c j
theorem FX.rf {l : Int} {M : Mem} : FX l M M := fun _ _ _ => rfl
theorem FX.tr {l : Int} {M M1 M2 : Mem} (h : FX l M M1) (k : FX l M1 M2) : FX l M M2 := fun c j x => (k c j x).trans (h c j x)
theorem FX.st {l i x : Int} {M M1 M2 : Mem} (h : FX l M M1) (hM : M2 = mS M1 l i x) : FX l M M2 := fun c j z => (st_ne hM (fun w => z w.1)).trans (h c j z)
/-- the whole set -/
def FW (l : Int) (M M' : Mem) : Prop := ∀ c j : Int, ¬ c = l + 1 → ¬ (c = l ∧ (j = 1 ∨ j = 2)) → mG M' c j = mG M c j
theorem FX.fw {l : Int} {M M' : Mem} (h : FX (l + 1) M M') : FW l M M' := fun c j x _ => h c j x
theorem FW.tr {l : Int} {M M1 M2 : Mem} (h : FW l M M1) (k : FW l M1 M2) : FW l M M2 := fun c j x y => (k c j x y).trans (h c j x y)
/-- half done: words below a are new ones -/
def WH (l n : Int) (f g : Nat → Bool) (a : Nat) (M : Mem) : Prop := ∀ x : Nat, x < uw n → InLL (mG M (l + 1) (x : Int)) ∧ ∀ b : Nat, b < 64 → lb (mG M (l + 1) (x : Int)) b = if x < a then g (64 * x + b) else f (64 * x + b)
section
variable {l n : Int} {f g : Nat → Bool} {M : Mem}
theorem WS.kp {M' : Mem} (h : WS l n f M) (g0 : ∀ j, mG M' l j = mG M l j) (g1 : ∀ j, mG M' (l + 1) j = mG M (l + 1) j) : WS l n f M' := by
  obtain ⟨⟨a, b, c⟩, d⟩ := h
  refine ⟨⟨(g0 _).trans a, (g0 _).trans b, (g0 _).trans c⟩, fun x hx => ?_⟩
  rw [g1]; exact d x hx
theorem WS.fx {l2 : Int} {M' : Mem} (h : WS l n f M) (k : FX l2 M M') (h0 : ¬ l = l2) (h1 : ¬ l + 1 = l2) : WS l n f M' := h.kp (fun j => k l j h0) (fun j => k (l + 1) j h1)
theorem WS.fw {l2 : Int} {M' : Mem} (h : WS l n f M) (k : FW l2 M M') (h0 : ¬ l = l2) (h1 : ¬ l + 1 = l2) (h2 : ¬ l = l2 + 1) : WS l n f M' := h.kp (fun j => k l j h2 (fun w => h0 w.1)) (fun j => k (l + 1) j (by omega) (fun w => h1 w.1))
theorem WS.ext (h : WS l n f M) (e : ∀ w, w < 64 * uw n → f w = g w) : WS l n g M := ⟨h.1, fun a ha => ⟨(h.2 a ha).1, fun b hb => by rw [(h.2 a ha).2 b hb, e _ (by omega)]⟩⟩
theorem WH.st {a : Nat} {v : Int} {M' : Mem} (h : WH l n f g a M) (hM : M' = mS M (l + 1) (a : Int) v) (h1 : InLL v) (h2 : ∀ b : Nat, b < 64 → lb v b = g (64 * a + b)) : WH l n f g (a + 1) M' := fun x hx => by
  by_cases e : x = a
  · rw [e, st_eq hM]
    exact ⟨h1, fun b hb => by rw [h2 b hb, if_pos (by omega)]⟩
  · rw [st_ne hM (fun w => e (by have := w.2; omega))]
    obtain ⟨y1, y2⟩ := h x hx
    refine ⟨y1, fun b hb => ?_⟩
    rw [y2 b hb]
    by_cases c : x < a
    · rw [if_pos c, if_pos (by omega)]
    · rw [if_neg c, if_neg (by omega)]
theorem WH.done {a : Nat} (h : WH l n f g a M) (ha : uw n ≤ a) (h0 : mG M l 0 = l + 1 ∧ mG M l 1 = ((uw n : Nat) : Int) ∧ mG M l 2 = n) : WS l n g M := ⟨h0, fun x hx => ⟨(h x hx).1, fun b hb => by rw [(h x hx).2 b hb, if_pos (by omega)]⟩⟩
theorem WS.wh (h : WS l n f M) : WH l n f g 0 M := fun x hx => ⟨(h.2 x hx).1, fun b hb => by rw [(h.2 x hx).2 b hb, if_neg (by omega)]⟩
theorem WH.cur {a : Nat} (h : WH l n f g a M) (ha : a < uw n) : InLL (mG M (l + 1) (a : Int)) ∧ ∀ b : Nat, b < 64 → lb (mG M (l + 1) (a : Int)) b = f (64 * a + b) := ⟨(h a ha).1, fun b hb => by rw [(h a ha).2 b hb, if_neg (Nat.lt_irrefl a)]⟩
theorem q_keepOnly {l1 : Int} (hn : 0 ≤ n ∧ n ≤ 12) (h : WS l n f M) (h1 : WS l1 n g M) (d : ¬ l1 = l + 1 ∧ ¬ l1 + 1 = l + 1) : pw (mX7_keepOnly l l1 M) (fun q => WS l n (fun w => f w && g w) q.2 ∧ FX (l + 1) M q.2) := by
  have ub := uw_b hn
  have loop : ∀ (fu a : Nat) (M' : Mem), a ≤ uw n → FX (l + 1) M M' → WH l n f (fun w => f w && g w) a M' → pw (mX7_keepOnly_2 fu l l1 (a : Int) M') (fun q => WS l n (fun w => f w && g w) q.2 ∧ FX (l + 1) M q.2) := by
    intro fu
    induction fu with
    | zero => intro a M' _ _ _; exact p_none
    | succ fu ih =>
      intro a M' ha fr wh
      show pw (bX7_keepOnly_2 (mX7_keepOnly_2 fu) l l1 (a : Int) M') _
      have e0 : ∀ j, mG M' l j = mG M l j := fun j => fr l j (by omega)
      have e1 : WS l1 n g M' := h1.fx fr (by omega) (by omega)
      unfold bX7_keepOnly_2
      refine p_gFc (ji := 1) rfl ((e0 1).trans h.1.2.1) (p_if (fun c => p_ret ?_) (fun c => ?_))
      · exact ⟨wh.done (by omega) ⟨(e0 _).trans h.1.1, (e0 _).trans h.1.2.1, (e0 _).trans h.1.2.2⟩, fr⟩
      · refine p_gFc (ji := 0) rfl ((e0 0).trans h.1.1) (p_aG (fun x hx => p_gFc (ji := 0) rfl e1.1.1 (p_aG (fun y hy => p_aS (fun M2 h2 => ?_)))))
        rw [wI_s (p := a) (by omega)]
        refine ih (a + 1) M2 (by omega) (fr.st h2) (wh.st h2 (land_L _ _) (fun b hb => ?_))
        obtain ⟨_, x2⟩ := wh.cur (show a < uw n by omega)
        obtain ⟨_, y2⟩ := e1.2 a (by omega)
        rw [hx] at x2
        rw [hy] at y2
        rw [lb_and, x2 b hb, y2 b hb]
  exact loop FU 0 M (by omega) FX.rf h.wh
theorem q_drop {l1 : Int} (hn : 0 ≤ n ∧ n ≤ 12) (h : WS l n f M) (h1 : WS l1 n g M) (d : ¬ l1 = l + 1 ∧ ¬ l1 + 1 = l + 1) : pw (mX7_drop l l1 M) (fun q => WS l n (fun w => f w && !g w) q.2 ∧ FX (l + 1) M q.2) := by
  have ub := uw_b hn
  have loop : ∀ (fu a : Nat) (M' : Mem), a ≤ uw n → FX (l + 1) M M' → WH l n f (fun w => f w && !g w) a M' → pw (mX7_drop_2 fu l l1 (a : Int) M') (fun q => WS l n (fun w => f w && !g w) q.2 ∧ FX (l + 1) M q.2) := by
    intro fu
    induction fu with
    | zero => intro a M' _ _ _; exact p_none
    | succ fu ih =>
      intro a M' ha fr wh
      show pw (bX7_drop_2 (mX7_drop_2 fu) l l1 (a : Int) M') _
      have e0 : ∀ j, mG M' l j = mG M l j := fun j => fr l j (by omega)
      have e1 : WS l1 n g M' := h1.fx fr (by omega) (by omega)
      unfold bX7_drop_2
      refine p_gFc (ji := 1) rfl ((e0 1).trans h.1.2.1) (p_if (fun c => p_ret ?_) (fun c => ?_))
      · exact ⟨wh.done (by omega) ⟨(e0 _).trans h.1.1, (e0 _).trans h.1.2.1, (e0 _).trans h.1.2.2⟩, fr⟩
      · refine p_gFc (ji := 0) rfl ((e0 0).trans h.1.1) (p_aG (fun x hx => p_gFc (ji := 0) rfl e1.1.1 (p_aG (fun y hy => p_aS (fun M2 h2 => ?_)))))
        rw [wI_s (p := a) (by omega)]
        refine ih (a + 1) M2 (by omega) (fr.st h2) (wh.st h2 (land_L _ _) (fun b hb => ?_))
        obtain ⟨_, x2⟩ := wh.cur (show a < uw n by omega)
        obtain ⟨_, y2⟩ := e1.2 a (by omega)
        rw [hx] at x2
        rw [hy] at y2
        rw [lb_and, lb_not _ hb, x2 b hb, y2 b hb]
  exact loop FU 0 M (by omega) FX.rf h.wh
/-! which worlds of a word a fact is so in -/
theorem pat_b : ∀ i : Nat, i < 6 → ∀ b : Nat, b < 64 → lb (patL.getD i 0) b = b.testBit i := by decide +kernel
theorem pat_L : ∀ i : Nat, i < 6 → InLL (patL.getD i 0) := by unfold InLL; decide +kernel
theorem ibit {x k : Nat} (hx : x < 2147483648) (hk : k < 32) : (iand (ishr (x : Int) (k : Int)) 1 = 0) ↔ x.testBit k = false := by
  have e := ishr_e (x := (x : Int)) (k := k) (by omega) (by omega) hk
  have d : (x : Int) / 2 ^ k = ((x / 2 ^ k : Nat) : Int) := by
    rw [show (2 : Int) ^ k = ((2 ^ k : Nat) : Int) by simp]; exact (Int.natCast_ediv _ _).symm
  have l : x / 2 ^ k ≤ x := Nat.div_le_self _ _
  rw [e, d, Nat.testBit_eq_decide_div_mod_eq]
  generalize x / 2 ^ k = y at l ⊢
  rw [iand_nat (by omega) (by omega) (by decide) (by decide), Int.toNat_natCast, show (1 : Int).toNat = 1 by decide, Nat.and_one_is_mod]
  constructor
  · intro h; exact decide_eq_false (by omega)
  · intro h
    have := of_decide_eq_false h
    omega
theorem tb64 {a b i : Nat} (hb : b < 64) : (64 * a + b).testBit i = if i < 6 then b.testBit i else a.testBit (i - 6) := by
  have := Nat.testBit_two_pow_mul_add a (b := b) (i := 6) hb i
  exact this
theorem q_soAt {i : Int} {a : Nat} (hi : 0 ≤ i ∧ i < 38) (ha : a < 64) : pw (mX7_soAt i (a : Int) M) (fun q => q.2 = M ∧ InLL q.1 ∧ ∀ b : Nat, b < 64 → lb q.1 b = (64 * a + b).testBit i.toNat) := by
  obtain ⟨k, rfl⟩ := Int.eq_ofNat_of_zero_le hi.1
  unfold mX7_soAt
  refine p_if (fun c => absurd c (by omega)) (fun _ => p_if (fun c => ?_) (fun c => ?_))
  · unfold mX7_soAt_18
    rw [wI_id (x := (k : Int) - 6) (by omega) (by omega), show (k : Int) - 6 = ((k - 6 : Nat) : Int) by omega]
    refine p_if (fun z => p_ret ⟨rfl, L_0, fun b hb => ?_⟩) (fun z => p_ret ⟨rfl, L_m1, fun b hb => ?_⟩)
    · have z := (ibit (by omega) (by omega)).mp z
      show lb 0 b = _
      rw [lb_zero, Int.toNat_natCast, tb64 hb, if_neg (by omega), z]
    · show lb (-1) b = _
      rw [lb_m1 hb, Int.toNat_natCast, tb64 hb, if_neg (by omega)]
      cases e : a.testBit (k - 6) with
      | true => rfl
      | false => exact absurd ((ibit (by omega) (by omega)).mpr e) z
  · refine p_tGc (r := patL.getD k 0) (by rw [Int.toNat_natCast]) (p_ret ⟨rfl, pat_L k (by omega), fun b hb => ?_⟩)
    show lb (patL.getD k 0) b = _
    rw [pat_b k (by omega) b hb, Int.toNat_natCast, tb64 hb, if_pos (by omega)]
theorem q_keepWhere {i : Int} {v : Bool} (hn : 0 ≤ n ∧ n ≤ 12) (h : WS l n f M) (hi : 0 ≤ i ∧ i < 38) : pw (mX7_keepWhere l i (b2i v) M) (fun q => WS l n (fun w => f w && (w.testBit i.toNat == v)) q.2 ∧ FX (l + 1) M q.2) := by
  have ub := uw_b hn
  have loop : ∀ (fu a : Nat) (M' : Mem), a ≤ uw n → FX (l + 1) M M' → WH l n f (fun w => f w && (w.testBit i.toNat == v)) a M' → pw (mX7_keepWhere_2 fu l i (b2i v) (a : Int) M') (fun q => WS l n (fun w => f w && (w.testBit i.toNat == v)) q.2 ∧ FX (l + 1) M q.2) := by
    intro fu
    induction fu with
    | zero => intro a M' _ _ _; exact p_none
    | succ fu ih =>
      intro a M' ha fr wh
      show pw (bX7_keepWhere_2 (mX7_keepWhere_2 fu) l i (b2i v) (a : Int) M') _
      have e0 : ∀ j, mG M' l j = mG M l j := fun j => fr l j (by omega)
      unfold bX7_keepWhere_2
      refine p_gFc (ji := 1) rfl ((e0 1).trans h.1.2.1) (p_if (fun c => p_ret ?_) (fun c => ?_))
      · exact ⟨wh.done (by omega) ⟨(e0 _).trans h.1.1, (e0 _).trans h.1.2.1, (e0 _).trans h.1.2.2⟩, fr⟩
      · have go : ∀ x s m, mG M' (l + 1) (a : Int) = x → m = M' → InLL s → (∀ b : Nat, b < 64 → lb s b = ((64 * a + b).testBit i.toNat == v)) → pw (mX7_keepWhere_38 (mX7_keepWhere_2 fu) l i (b2i v) (a : Int) (l + 1) (a : Int) x s m) (fun q => WS l n (fun w => f w && (w.testBit i.toNat == v)) q.2 ∧ FX (l + 1) M q.2) := fun x s m hx hm hs hb => by
          subst hm
          unfold mX7_keepWhere_38
          refine p_aS (fun M2 h2 => ?_)
          rw [wI_s (p := a) (by omega)]
          refine ih (a + 1) M2 (by omega) (fr.st h2) (wh.st h2 (land_L _ _) (fun b hb2 => ?_))
          obtain ⟨_, x2⟩ := wh.cur (show a < uw n by omega)
          rw [hx] at x2
          rw [lb_and, x2 b hb2, hb b hb2]
        refine p_gFc (ji := 0) rfl ((e0 0).trans h.1.1) (p_aG (fun x hx => p_if (fun z => ?_) (fun z => ?_)))
        · have z := b2i_0.mp z
          refine p_call (q_soAt hi (show a < 64 by omega)) (fun r m y => ?_)
          obtain ⟨y1, y2, y3⟩ := y
          replace y1 : m = M' := y1
          refine go x _ m hx y1 (lxor_L _ _) (fun b hb => ?_)
          rw [lb_not _ hb, y3 b hb, z]
          cases (64 * a + b).testBit i.toNat <;> rfl
        · have z : v = true := by
            cases hv : v with
            | true => rfl
            | false => rw [hv] at z; exact absurd rfl z
          refine p_call (q_soAt hi (show a < 64 by omega)) (fun r m y => ?_)
          obtain ⟨y1, y2, y3⟩ := y
          replace y1 : m = M' := y1
          refine go x _ m hx y1 y2 (fun b hb => ?_)
          rw [y3 b hb, z]
          cases (64 * a + b).testBit i.toNat <;> rfl
  exact loop FU 0 M (by omega) FX.rf h.wh
theorem q_takeNone {k : Int} (hk : 0 ≤ k ∧ k ≤ 12) (h0 : mG M l 0 = l + 1) : pw (mX7_takeNone l k M) (fun q => WS l k (fun _ => false) q.2 ∧ FW l M q.2) := by
  have ub := uw_b hk
  have loop : ∀ (fu a : Nat) (M' : Mem), a ≤ uw k → FW l M M' → (mG M' l 1 = ((uw k : Nat) : Int) ∧ mG M' l 2 = k) → (∀ x : Nat, x < a → mG M' (l + 1) (x : Int) = 0) → pw (mX7_takeNone_42 fu l (a : Int) M') (fun q => WS l k (fun _ => false) q.2 ∧ FW l M q.2) := by
    intro fu
    induction fu with
    | zero => intro a M' _ _ _ _; exact p_none
    | succ fu ih =>
      intro a M' ha fr e1 hz
      show pw (bX7_takeNone_42 (mX7_takeNone_42 fu) l (a : Int) M') _
      have e0 : mG M' l 0 = l + 1 := (fr l 0 (by omega) (by omega)).trans h0
      unfold bX7_takeNone_42
      refine p_gFc (ji := 1) rfl e1.1 (p_if (fun c => p_ret ?_) (fun c => ?_))
      · refine ⟨⟨⟨e0, e1.1, e1.2⟩, fun x hx => ?_⟩, fr⟩
        rw [hz x (by omega)]
        exact ⟨L_0, fun b _ => lb_zero b⟩
      · refine p_gFc (ji := 0) rfl e0 (p_aS (fun M2 h2 => ?_))
        rw [wI_s (p := a) (by omega)]
        have g : ∀ c j : Int, ¬ c = l + 1 → mG M2 c j = mG M' c j := fun c j z => st_ne h2 (fun w => z w.1)
        refine ih (a + 1) M2 (by omega) (fun c j x y => (g c j x).trans (fr c j x y)) ⟨(g l 1 (by omega)).trans e1.1, (g l 2 (by omega)).trans e1.2⟩ (fun x hx => ?_)
        by_cases e : x = a
        · rw [e]; exact st_eq h2
        · rw [st_ne h2 (fun w => e (by have := w.2; omega))]
          exact hz x (by omega)
  have s37 : ∀ (v : Int) (M' : Mem), v = ((uw k : Nat) : Int) → FW l M M' → mG M' l 2 = k → pw (mX7_takeNone_37 l l v M') (fun q => WS l k (fun _ => false) q.2 ∧ FW l M q.2) := fun v M' hv fr e2 => by
    unfold mX7_takeNone_37
    refine p_pF (ji := 1) rfl (fun M2 h2 => ?_)
    refine loop FU 0 M2 (by omega) (fun c j x y => (st_ne h2 (fun w => y ⟨w.1, Or.inl w.2⟩)).trans (fr c j x y)) ⟨(st_eq h2).trans hv, (st_ne h2 (fun w => absurd w.2 (by decide))).trans e2⟩ (fun x hx => absurd hx (by omega))
  unfold mX7_takeNone
  have ek : (if 0 < if 12 < k then 12 else k then if 12 < k then 12 else k else 0) = k := by
    rw [if_neg (show ¬ 12 < k by omega)]
    by_cases z : 0 < k
    · rw [if_pos z]
    · rw [if_neg z]; omega
  rw [ek]
  refine p_pF (ji := 2) rfl (fun M1 h1 => ?_)
  have e2 : mG M1 l 2 = k := st_eq h1
  have fr : FW l M M1 := fun c j x y => st_ne h1 (fun w => y ⟨w.1, Or.inr w.2⟩)
  refine p_gFc (ji := 2) rfl e2 (p_if (fun c => p_gFc (ji := 2) rfl e2 (s37 _ M1 ?_ fr e2)) (fun c => s37 _ M1 ?_ fr e2))
  · obtain ⟨m, hm⟩ := Int.eq_ofNat_of_zero_le (show 0 ≤ k - 6 by omega)
    rw [wI_id (x := k - 6) (by omega) (by omega), hm, ishl1 m (by omega)]
    unfold uw
    rw [if_neg (by omega), hm, Int.toNat_natCast]; simp
  · rw [(ub.2.2.2.2) (by omega)]; rfl
theorem tk_1 : ∀ n : Nat, n < 6 → InLL (wL (lshl 1 (ishl 1 (n : Int)) - 1)) ∧ ∀ b : Nat, b < 64 → lb (wL (lshl 1 (ishl 1 (n : Int)) - 1)) b = decide (b < 2 ^ n) := by unfold InLL; decide +kernel
theorem q_takeAll {k : Int} (hk : 0 ≤ k ∧ k ≤ 12) (h0 : mG M l 0 = l + 1) : pw (mX7_takeAll l k M) (fun q => WS l k (fun w => decide (w < 2 ^ k.toNat)) q.2 ∧ FW l M q.2) := by
  have ub := uw_b hk
  have loop : ∀ (fu a : Nat) (M' : Mem), a ≤ uw k → FW l M M' → (mG M' l 1 = ((uw k : Nat) : Int) ∧ mG M' l 2 = k) → WH l k (fun _ => false) (fun w => decide (w < 2 ^ k.toNat)) a M' → pw (mX7_takeAll_7 fu l (a : Int) M') (fun q => WS l k (fun w => decide (w < 2 ^ k.toNat)) q.2 ∧ FW l M q.2) := by
    intro fu
    induction fu with
    | zero => intro a M' _ _ _ _; exact p_none
    | succ fu ih =>
      intro a M' ha fr e1 wh
      show pw (bX7_takeAll_7 (mX7_takeAll_7 fu) l (a : Int) M') _
      have e0 : mG M' l 0 = l + 1 := (fr l 0 (by omega) (by omega)).trans h0
      unfold bX7_takeAll_7
      refine p_gFc (ji := 1) rfl e1.1 (p_if (fun c => p_ret ?_) (fun c => ?_))
      · exact ⟨wh.done (by omega) ⟨e0, e1.1, e1.2⟩, fr⟩
      · have go : ∀ v : Int, InLL v → (∀ b : Nat, b < 64 → lb v b = decide (64 * a + b < 2 ^ k.toNat)) → pw (mX7_takeAll_45 (mX7_takeAll_7 fu) l (a : Int) (l + 1) (a : Int) v M') (fun q => WS l k (fun w => decide (w < 2 ^ k.toNat)) q.2 ∧ FW l M q.2) := fun v v1 v2 => by
          unfold mX7_takeAll_45
          refine p_aS (fun M2 h2 => ?_)
          rw [wI_s (p := a) (by omega)]
          have g : ∀ c j : Int, ¬ c = l + 1 → mG M2 c j = mG M' c j := fun c j z => st_ne h2 (fun w => z w.1)
          exact ih (a + 1) M2 (by omega) (fun c j x y => (g c j x).trans (fr c j x y)) ⟨(g l 1 (by omega)).trans e1.1, (g l 2 (by omega)).trans e1.2⟩ (wh.st h2 v1 v2)
        refine p_gFc (ji := 0) rfl e0 (p_gFc (ji := 2) rfl e1.2 (p_if (fun z => ?_) (fun z => p_gFc (ji := 2) rfl e1.2 ?_)))
        · refine go (-1) L_m1 (fun b hb => ?_)
          have := ub.2.2.2.1 (by omega)
          rw [lb_m1 hb, decide_eq_true (by omega)]
        · obtain ⟨m, rfl⟩ := Int.eq_ofNat_of_zero_le hk.1
          have := tk_1 m (by omega)
          have a0 : a = 0 := by have := ub.2.2.2.2 (by omega); omega
          refine go _ this.1 (fun b hb => ?_)
          rw [this.2 b hb, a0, Int.toNat_natCast, Nat.mul_zero, Nat.zero_add]
  unfold mX7_takeAll
  refine p_gK (p_call (q_takeNone hk h0) (fun v m y => ?_))
  obtain ⟨y1, y2⟩ := y
  exact loop FU 0 m (by omega) y2 ⟨y1.1.2.1, y1.1.2.2⟩ y1.wh
theorem q_copy {l1 : Int} (hn : 0 ≤ n ∧ n ≤ 12) (h0 : mG M l 0 = l + 1) (h1 : WS l1 n g M) (d : ¬ l1 = l ∧ ¬ l1 = l + 1 ∧ ¬ l1 + 1 = l) : pw (mX7_copy l l1 M) (fun q => WS l n g q.2 ∧ FW l M q.2) := by
  unfold mX7_copy
  refine p_gFc (ji := 2) rfl h1.1.2.2 (p_pF (ji := 2) rfl (fun M1 a1 => ?_))
  have g1 : ∀ c j : Int, ¬ (c = l ∧ j = 2) → mG M1 c j = mG M c j := fun c j z => st_ne a1 z
  refine p_gFc (ji := 1) rfl ((g1 l1 1 (by omega)).trans h1.1.2.1) (p_pF (ji := 1) rfl (fun M2 a2 => ?_))
  have g2 : ∀ c j : Int, ¬ (c = l ∧ (j = 1 ∨ j = 2)) → mG M2 c j = mG M c j := fun c j z => (st_ne a2 (fun w => z ⟨w.1, Or.inl w.2⟩)).trans (g1 c j (fun w => z ⟨w.1, Or.inr w.2⟩))
  have e1 : mG M2 l 1 = ((uw n : Nat) : Int) := st_eq a2
  have e2 : mG M2 l 2 = n := (st_ne a2 (fun w => absurd w.2 (by decide))).trans (st_eq a1)
  have e0 : mG M2 l 0 = l + 1 := (g2 l 0 (by omega)).trans h0
  refine p_gFc (ji := 0) rfl ((g2 l1 0 (by omega)).trans h1.1.1) (p_gFc (ji := 0) rfl e0 (p_gFc (ji := 1) rfl e1 (p_aC (fun M3 a3 => p_ret ?_))))
  have g3 : ∀ c j : Int, ¬ c = l + 1 → mG M3 c j = mG M2 c j := fun c j z => by rw [cp_g a3, if_neg (fun w => z w.1)]
  refine ⟨⟨⟨(g3 l 0 (by omega)).trans e0, (g3 l 1 (by omega)).trans e1, (g3 l 2 (by omega)).trans e2⟩, fun x hx => ?_⟩, fun c j x y => (g3 c j x).trans (g2 c j y)⟩
  have e : mG M3 (l + 1) (x : Int) = mG M (l1 + 1) (x : Int) := by
    rw [cp_g a3, if_pos ⟨rfl, by omega, by omega⟩, show (0 : Int) + ((x : Int) - 0) = (x : Int) by omega]
    exact g2 (l1 + 1) _ (by omega)
  show InLL (mG M3 (l + 1) (x : Int)) ∧ ∀ b : Nat, b < 64 → lb (mG M3 (l + 1) (x : Int)) b = g (64 * x + b)
  rw [e]
  exact h1.2 x hx
theorem ctn_64 (f : Nat → Bool) (a : Nat) : ∀ k : Nat, ctn f (64 * a + k) = ctn f (64 * a) + ctn (fun b => f (64 * a + b)) k := by
  intro k
  induction k with
  | zero => rfl
  | succ k ih =>
    show ctn f (64 * a + k) + _ = _ + (ctn _ k + _)
    rw [ih]; exact Nat.add_assoc _ _ _
theorem q_count (hn : 0 ≤ n ∧ n ≤ 12) (h : WS l n f M) : pw (mX7_count l M) (fun q => q.2 = M ∧ q.1 = ((ctn f (64 * uw n) : Nat) : Int)) := by
  have ub := uw_b hn
  have loop : ∀ (fu a : Nat), a ≤ uw n → pw (mX7_count_4 fu l ((ctn f (64 * a) : Nat) : Int) (a : Int) M) (fun q => q.2 = M ∧ q.1 = ((ctn f (64 * uw n) : Nat) : Int)) := by
    intro fu
    induction fu with
    | zero => intro a _; exact p_none
    | succ fu ih =>
      intro a ha
      show pw (bX7_count_4 (mX7_count_4 fu) l ((ctn f (64 * a) : Nat) : Int) (a : Int) M) _
      unfold bX7_count_4
      refine p_gFc (ji := 1) rfl h.1.2.1 (p_if (fun c => p_ret ?_) (fun c => ?_))
      · rw [show a = uw n by omega]; exact ⟨rfl, rfl⟩
      · refine p_gFc (ji := 0) rfl h.1.1 (p_aG (fun x hx => p_call (q_bitCount x M) (fun r m y => ?_)))
        obtain ⟨y1, y2⟩ := y
        replace y1 : m = M := y1
        replace y2 : r = ((ctn (fun b => lb x b) 64 : Nat) : Int) := y2
        subst y1
        have b1 := ctn_le f (64 * a)
        have b2 := ctn_le (fun b => lb x b) 64
        rw [y2, wI_s (p := a) (by omega), wI_id (x := ((ctn f (64 * a) : Nat) : Int) + ((ctn (fun b => lb x b) 64 : Nat) : Int)) (by omega) (by omega)]
        have e : ctn f (64 * (a + 1)) = ctn f (64 * a) + ctn (fun b => lb x b) 64 := by
          rw [show 64 * (a + 1) = 64 * a + 64 by omega, ctn_64]
          rw [ctn_congr (f := fun b => lb x b) (g := fun b => f (64 * a + b)) 64 (fun b hb => by rw [← hx]; exact (h.2 a (by omega)).2 b hb)]
        rw [← Int.natCast_add, ← e]
        exact ih (a + 1) (by omega)
  exact loop FU 0 (by omega)
theorem q_countWhere {i : Int} (hn : 0 ≤ n ∧ n ≤ 12) (h : WS l n f M) (hi : 0 ≤ i ∧ i < 38) : pw (mX7_countWhere l i M) (fun q => q.2 = M ∧ q.1 = ((ctn (fun w => f w && w.testBit i.toNat) (64 * uw n) : Nat) : Int)) := by
  have ub := uw_b hn
  have loop : ∀ (fu a : Nat), a ≤ uw n → pw (mX7_countWhere_4 fu l i ((ctn (fun w => f w && w.testBit i.toNat) (64 * a) : Nat) : Int) (a : Int) M) (fun q => q.2 = M ∧ q.1 = ((ctn (fun w => f w && w.testBit i.toNat) (64 * uw n) : Nat) : Int)) := by
    intro fu
    induction fu with
    | zero => intro a _; exact p_none
    | succ fu ih =>
      intro a ha
      show pw (bX7_countWhere_4 (mX7_countWhere_4 fu) l i ((ctn (fun w => f w && w.testBit i.toNat) (64 * a) : Nat) : Int) (a : Int) M) _
      unfold bX7_countWhere_4
      refine p_gFc (ji := 1) rfl h.1.2.1 (p_if (fun c => p_ret ?_) (fun c => ?_))
      · rw [show a = uw n by omega]; exact ⟨rfl, rfl⟩
      · refine p_gFc (ji := 0) rfl h.1.1 (p_aG (fun x hx => p_call (q_soAt hi (show a < 64 by omega)) (fun s m0 y0 => ?_)))
        obtain ⟨z1, z2, z3⟩ := y0
        replace z1 : m0 = M := z1
        replace z3 : ∀ b : Nat, b < 64 → lb s b = (64 * a + b).testBit i.toNat := z3
        subst z1
        refine p_call (q_bitCount (land x s) m0) (fun r m y => ?_)
        obtain ⟨y1, y2⟩ := y
        replace y1 : m = m0 := y1
        replace y2 : r = ((ctn (fun b => lb (land x s) b) 64 : Nat) : Int) := y2
        subst y1
        have b1 := ctn_le (fun w => f w && w.testBit i.toNat) (64 * a)
        have b2 := ctn_le (fun b => lb (land x s) b) 64
        rw [y2, wI_s (p := a) (by omega), wI_id (x := ((ctn (fun w => f w && w.testBit i.toNat) (64 * a) : Nat) : Int) + ((ctn (fun b => lb (land x s) b) 64 : Nat) : Int)) (by omega) (by omega)]
        have e : ctn (fun w => f w && w.testBit i.toNat) (64 * (a + 1)) = ctn (fun w => f w && w.testBit i.toNat) (64 * a) + ctn (fun b => lb (land x s) b) 64 := by
          rw [show 64 * (a + 1) = 64 * a + 64 by omega, ctn_64]
          rw [ctn_congr (f := fun b => lb (land x s) b) (g := fun b => f (64 * a + b) && (64 * a + b).testBit i.toNat) 64 (fun b hb => by rw [lb_and, z3 b hb, ← hx, (h.2 a (by omega)).2 b hb])]
        rw [← Int.natCast_add, ← e]
        exact ih (a + 1) (by omega)
  exact loop FU 0 (by omega)
theorem q_isNothing (hn : 0 ≤ n ∧ n ≤ 12) (h : WS l n f M) : pw (mX7_isNothing l M) (fun q => q.2 = M ∧ (((∀ w, w < 64 * uw n → f w = false) ∧ q.1 = 1) ∨ ((∃ w, w < 64 * uw n ∧ f w = true) ∧ q.1 = 0))) := by
  have ub := uw_b hn
  have loop : ∀ (fu a : Nat), a ≤ uw n → (∀ w, w < 64 * a → f w = false) → pw (mX7_isNothing_2 fu l (a : Int) M) (fun q => q.2 = M ∧ (((∀ w, w < 64 * uw n → f w = false) ∧ q.1 = 1) ∨ ((∃ w, w < 64 * uw n ∧ f w = true) ∧ q.1 = 0))) := by
    intro fu
    induction fu with
    | zero => intro a _ _; exact p_none
    | succ fu ih =>
      intro a ha hz
      show pw (bX7_isNothing_2 (mX7_isNothing_2 fu) l (a : Int) M) _
      unfold bX7_isNothing_2
      refine p_gFc (ji := 1) rfl h.1.2.1 (p_if (fun c => p_ret ?_) (fun c => ?_))
      · rw [show a = uw n by omega] at hz
        exact ⟨rfl, Or.inl ⟨hz, rfl⟩⟩
      · obtain ⟨v1, v2⟩ := h.2 a (by omega)
        refine p_gFc (ji := 0) rfl h.1.1 (p_aG (fun x hx => ?_))
        rw [hx] at v1 v2
        refine p_if (fun z => ?_) (fun z => p_ret ⟨rfl, Or.inr ⟨?_, rfl⟩⟩)
        · rw [wI_s (p := a) (by omega)]
          have z := (l_zero v1).mp ((lcmp_0 _ _).mp z)
          refine ih (a + 1) (by omega) (fun w hw => ?_)
          by_cases c2 : w < 64 * a
          · exact hz w c2
          · have := v2 (w - 64 * a) (by omega)
            rw [z _ (by omega), show 64 * a + (w - 64 * a) = w by omega] at this
            exact this.symm
        · have z : ¬ ∀ b : Nat, b < 64 → lb x b = false := fun w => z ((lcmp_0 _ _).mpr ((l_zero v1).mpr w))
          apply Classical.byContradiction
          intro hno
          refine z (fun b hb => ?_)
          cases e : lb x b with
          | false => rfl
          | true =>
            rw [v2 b hb] at e
            exact absurd ⟨64 * a + b, by omega, e⟩ hno
  exact loop FU 0 (by omega) (fun w hw => absurd hw (by omega))
end
end
section
/-! ===== cells that stay what they are ===== -/
def cstL : List (Int × Int × Int) := [(2, 0, 3), (2, 1, 20), (2, 2, 24), (2, 3, 31), (2, 5, 32), (2, 6, 34), (2, 7, 36), (2, 8, 38), (2, 9, 45), (2, 11, 46), (3, 0, 4), (3, 2, 11), (3, 3, 12), (3, 4, 13), (3, 8, 14), (3, 9, 15), (3, 10, 16), (3, 15, 17), (3, 16, 18), (3, 17, 19), (4, 0, 5), (4, 1, 6), (4, 2, 7), (4, 3, 8), (4, 4, 9), (4, 5, 10), (20, 2, 21), (20, 3, 22), (20, 4, 23), (24, 0, 25), (24, 1, 26), (24, 2, 27), (24, 3, 29), (31, 0, 47), (31, 1, 49), (31, 2, 51), (31, 3, 53), (31, 4, 55), (31, 5, 57), (31, 6, 59), (31, 7, 61), (31, 8, 63), (38, 0, 39), (38, 1, 40), (38, 2, 41), (38, 3, 42), (38, 4, 43), (38, 5, 44), (27, 0, 28), (29, 0, 30), (32, 0, 33), (34, 0, 35), (36, 0, 37), (47, 0, 48), (49, 0, 50), (51, 0, 52), (53, 0, 54), (55, 0, 56), (57, 0, 58), (59, 0, 60), (61, 0, 62), (63, 0, 64)]
def K2 (M : Mem) : Prop := ∀ x, x ∈ cstL → mG M x.1 x.2.1 = x.2.2
section
variable {M M' : Mem}
theorem K2.kp (h : K2 M) (g : ∀ x, x ∈ cstL → mG M' x.1 x.2.1 = mG M x.1 x.2.1) : K2 M' := fun x hx => (g x hx).trans (h x hx)
theorem all_cons {x : Int × Int × Int} {L : List (Int × Int × Int)} {P : Int × Int × Int → Prop} (h : P x) (k : ∀ y, y ∈ L → P y) : ∀ y, y ∈ x :: L → P y := fun y hy => by
  rcases List.mem_cons.mp hy with e | e
  · rw [e]; exact h
  · exact k y e
theorem all_nil {P : Int × Int × Int → Prop} : ∀ y, y ∈ ([] : List (Int × Int × Int)) → P y := fun y hy => absurd hy (List.not_mem_nil)
theorem K2.of {n : Nat} (iM : I n M) : K2 M := by
  unfold K2 cstL
  exact all_cons (P := fun x => mG M x.1 x.2.1 = x.2.2) (rd_Solver_0 iM rfl) (all_cons (P := fun x => mG M x.1 x.2.1 = x.2.2) (rd_Solver_1 iM rfl) (all_cons (P := fun x => mG M x.1 x.2.1 = x.2.2) (rd_Solver_2 iM rfl) (all_cons (P := fun x => mG M x.1 x.2.1 = x.2.2) (rd_Solver_3 iM rfl) (all_cons (P := fun x => mG M x.1 x.2.1 = x.2.2) (rd_Solver_5 iM rfl) (all_cons (P := fun x => mG M x.1 x.2.1 = x.2.2) (rd_Solver_6 iM rfl) (all_cons (P := fun x => mG M x.1 x.2.1 = x.2.2) (rd_Solver_7 iM rfl) (all_cons (P := fun x => mG M x.1 x.2.1 = x.2.2) (rd_Solver_8 iM rfl) (all_cons (P := fun x => mG M x.1 x.2.1 = x.2.2) (rd_Solver_9 iM rfl) (all_cons (P := fun x => mG M x.1 x.2.1 = x.2.2) (rd_Solver_11 iM rfl) (all_cons (P := fun x => mG M x.1 x.2.1 = x.2.2) (rd_Told_0 iM rfl) (all_cons (P := fun x => mG M x.1 x.2.1 = x.2.2) (rd_Told_2 iM rfl) (all_cons (P := fun x => mG M x.1 x.2.1 = x.2.2) (rd_Told_3 iM rfl) (all_cons (P := fun x => mG M x.1 x.2.1 = x.2.2) (rd_Told_4 iM rfl) (all_cons (P := fun x => mG M x.1 x.2.1 = x.2.2) (rd_Told_8 iM rfl) (all_cons (P := fun x => mG M x.1 x.2.1 = x.2.2) (rd_Told_9 iM rfl) (all_cons (P := fun x => mG M x.1 x.2.1 = x.2.2) (rd_Told_10 iM rfl) (all_cons (P := fun x => mG M x.1 x.2.1 = x.2.2) (rd_Told_15 iM rfl) (all_cons (P := fun x => mG M x.1 x.2.1 = x.2.2) (rd_Told_16 iM rfl) (all_cons (P := fun x => mG M x.1 x.2.1 = x.2.2) (rd_Told_17 iM rfl) (all_cons (P := fun x => mG M x.1 x.2.1 = x.2.2) (rd_Shape_0 iM rfl) (all_cons (P := fun x => mG M x.1 x.2.1 = x.2.2) (rd_Shape_1 iM rfl) (all_cons (P := fun x => mG M x.1 x.2.1 = x.2.2) (rd_Shape_2 iM rfl) (all_cons (P := fun x => mG M x.1 x.2.1 = x.2.2) (rd_Shape_3 iM rfl) (all_cons (P := fun x => mG M x.1 x.2.1 = x.2.2) (rd_Shape_4 iM rfl) (all_cons (P := fun x => mG M x.1 x.2.1 = x.2.2) (rd_Shape_5 iM rfl) (all_cons (P := fun x => mG M x.1 x.2.1 = x.2.2) (rd_Judge_2 iM rfl) (all_cons (P := fun x => mG M x.1 x.2.1 = x.2.2) (rd_Judge_3 iM rfl) (all_cons (P := fun x => mG M x.1 x.2.1 = x.2.2) (rd_Judge_4 iM rfl) (all_cons (P := fun x => mG M x.1 x.2.1 = x.2.2) (rd_Others_0 iM rfl) (all_cons (P := fun x => mG M x.1 x.2.1 = x.2.2) (rd_Others_1 iM rfl) (all_cons (P := fun x => mG M x.1 x.2.1 = x.2.2) (rd_Others_2 iM rfl) (all_cons (P := fun x => mG M x.1 x.2.1 = x.2.2) (rd_Others_3 iM rfl) (all_cons (P := fun x => mG M x.1 x.2.1 = x.2.2) (rd_Vtruths (i := 0) iM rfl (by decide) (by decide)) (all_cons (P := fun x => mG M x.1 x.2.1 = x.2.2) (rd_Vtruths (i := 1) iM rfl (by decide) (by decide)) (all_cons (P := fun x => mG M x.1 x.2.1 = x.2.2) (rd_Vtruths (i := 2) iM rfl (by decide) (by decide)) (all_cons (P := fun x => mG M x.1 x.2.1 = x.2.2) (rd_Vtruths (i := 3) iM rfl (by decide) (by decide)) (all_cons (P := fun x => mG M x.1 x.2.1 = x.2.2) (rd_Vtruths (i := 4) iM rfl (by decide) (by decide)) (all_cons (P := fun x => mG M x.1 x.2.1 = x.2.2) (rd_Vtruths (i := 5) iM rfl (by decide) (by decide)) (all_cons (P := fun x => mG M x.1 x.2.1 = x.2.2) (rd_Vtruths (i := 6) iM rfl (by decide) (by decide)) (all_cons (P := fun x => mG M x.1 x.2.1 = x.2.2) (rd_Vtruths (i := 7) iM rfl (by decide) (by decide)) (all_cons (P := fun x => mG M x.1 x.2.1 = x.2.2) (rd_Vtruths (i := 8) iM rfl (by decide) (by decide)) (all_cons (P := fun x => mG M x.1 x.2.1 = x.2.2) (rd_Shape_0 iM rfl) (all_cons (P := fun x => mG M x.1 x.2.1 = x.2.2) (rd_Shape_1 iM rfl) (all_cons (P := fun x => mG M x.1 x.2.1 = x.2.2) (rd_Shape_2 iM rfl) (all_cons (P := fun x => mG M x.1 x.2.1 = x.2.2) (rd_Shape_3 iM rfl) (all_cons (P := fun x => mG M x.1 x.2.1 = x.2.2) (rd_Shape_4 iM rfl) (all_cons (P := fun x => mG M x.1 x.2.1 = x.2.2) (rd_Shape_5 iM rfl) (all_cons (P := fun x => mG M x.1 x.2.1 = x.2.2) (rd_WS_0 iM rfl) (all_cons (P := fun x => mG M x.1 x.2.1 = x.2.2) (rd_WS_0 iM rfl) (all_cons (P := fun x => mG M x.1 x.2.1 = x.2.2) (rd_WS_0 iM rfl) (all_cons (P := fun x => mG M x.1 x.2.1 = x.2.2) (rd_WS_0 iM rfl) (all_cons (P := fun x => mG M x.1 x.2.1 = x.2.2) (rd_WS_0 iM rfl) (all_cons (P := fun x => mG M x.1 x.2.1 = x.2.2) (rd_WS_0 iM rfl) (all_cons (P := fun x => mG M x.1 x.2.1 = x.2.2) (rd_WS_0 iM rfl) (all_cons (P := fun x => mG M x.1 x.2.1 = x.2.2) (rd_WS_0 iM rfl) (all_cons (P := fun x => mG M x.1 x.2.1 = x.2.2) (rd_WS_0 iM rfl) (all_cons (P := fun x => mG M x.1 x.2.1 = x.2.2) (rd_WS_0 iM rfl) (all_cons (P := fun x => mG M x.1 x.2.1 = x.2.2) (rd_WS_0 iM rfl) (all_cons (P := fun x => mG M x.1 x.2.1 = x.2.2) (rd_WS_0 iM rfl) (all_cons (P := fun x => mG M x.1 x.2.1 = x.2.2) (rd_WS_0 iM rfl) (all_cons (P := fun x => mG M x.1 x.2.1 = x.2.2) (rd_WS_0 iM rfl) (all_nil))))))))))))))))))))))))))))))))))))))))))))))))))))))))))))))
theorem K2.c2_0 (h : K2 M) : mG M 2 0 = 3 := h (2, 0, 3) (by decide +kernel)
theorem K2.c2_1 (h : K2 M) : mG M 2 1 = 20 := h (2, 1, 20) (by decide +kernel)
theorem K2.c2_2 (h : K2 M) : mG M 2 2 = 24 := h (2, 2, 24) (by decide +kernel)
theorem K2.c2_3 (h : K2 M) : mG M 2 3 = 31 := h (2, 3, 31) (by decide +kernel)
theorem K2.c2_5 (h : K2 M) : mG M 2 5 = 32 := h (2, 5, 32) (by decide +kernel)
theorem K2.c2_6 (h : K2 M) : mG M 2 6 = 34 := h (2, 6, 34) (by decide +kernel)
theorem K2.c2_7 (h : K2 M) : mG M 2 7 = 36 := h (2, 7, 36) (by decide +kernel)
theorem K2.c2_8 (h : K2 M) : mG M 2 8 = 38 := h (2, 8, 38) (by decide +kernel)
theorem K2.c2_9 (h : K2 M) : mG M 2 9 = 45 := h (2, 9, 45) (by decide +kernel)
theorem K2.c2_11 (h : K2 M) : mG M 2 11 = 46 := h (2, 11, 46) (by decide +kernel)
theorem K2.c3_0 (h : K2 M) : mG M 3 0 = 4 := h (3, 0, 4) (by decide +kernel)
theorem K2.c3_2 (h : K2 M) : mG M 3 2 = 11 := h (3, 2, 11) (by decide +kernel)
theorem K2.c3_3 (h : K2 M) : mG M 3 3 = 12 := h (3, 3, 12) (by decide +kernel)
theorem K2.c3_4 (h : K2 M) : mG M 3 4 = 13 := h (3, 4, 13) (by decide +kernel)
theorem K2.c3_8 (h : K2 M) : mG M 3 8 = 14 := h (3, 8, 14) (by decide +kernel)
theorem K2.c3_9 (h : K2 M) : mG M 3 9 = 15 := h (3, 9, 15) (by decide +kernel)
theorem K2.c3_10 (h : K2 M) : mG M 3 10 = 16 := h (3, 10, 16) (by decide +kernel)
theorem K2.c3_15 (h : K2 M) : mG M 3 15 = 17 := h (3, 15, 17) (by decide +kernel)
theorem K2.c3_16 (h : K2 M) : mG M 3 16 = 18 := h (3, 16, 18) (by decide +kernel)
theorem K2.c3_17 (h : K2 M) : mG M 3 17 = 19 := h (3, 17, 19) (by decide +kernel)
theorem K2.c4_0 (h : K2 M) : mG M 4 0 = 5 := h (4, 0, 5) (by decide +kernel)
theorem K2.c4_1 (h : K2 M) : mG M 4 1 = 6 := h (4, 1, 6) (by decide +kernel)
theorem K2.c4_2 (h : K2 M) : mG M 4 2 = 7 := h (4, 2, 7) (by decide +kernel)
theorem K2.c4_3 (h : K2 M) : mG M 4 3 = 8 := h (4, 3, 8) (by decide +kernel)
theorem K2.c4_4 (h : K2 M) : mG M 4 4 = 9 := h (4, 4, 9) (by decide +kernel)
theorem K2.c4_5 (h : K2 M) : mG M 4 5 = 10 := h (4, 5, 10) (by decide +kernel)
theorem K2.c20_2 (h : K2 M) : mG M 20 2 = 21 := h (20, 2, 21) (by decide +kernel)
theorem K2.c20_3 (h : K2 M) : mG M 20 3 = 22 := h (20, 3, 22) (by decide +kernel)
theorem K2.c20_4 (h : K2 M) : mG M 20 4 = 23 := h (20, 4, 23) (by decide +kernel)
theorem K2.c24_0 (h : K2 M) : mG M 24 0 = 25 := h (24, 0, 25) (by decide +kernel)
theorem K2.c24_1 (h : K2 M) : mG M 24 1 = 26 := h (24, 1, 26) (by decide +kernel)
theorem K2.c24_2 (h : K2 M) : mG M 24 2 = 27 := h (24, 2, 27) (by decide +kernel)
theorem K2.c24_3 (h : K2 M) : mG M 24 3 = 29 := h (24, 3, 29) (by decide +kernel)
theorem K2.c31_0 (h : K2 M) : mG M 31 0 = 47 := h (31, 0, 47) (by decide +kernel)
theorem K2.c31_1 (h : K2 M) : mG M 31 1 = 49 := h (31, 1, 49) (by decide +kernel)
theorem K2.c31_2 (h : K2 M) : mG M 31 2 = 51 := h (31, 2, 51) (by decide +kernel)
theorem K2.c31_3 (h : K2 M) : mG M 31 3 = 53 := h (31, 3, 53) (by decide +kernel)
theorem K2.c31_4 (h : K2 M) : mG M 31 4 = 55 := h (31, 4, 55) (by decide +kernel)
theorem K2.c31_5 (h : K2 M) : mG M 31 5 = 57 := h (31, 5, 57) (by decide +kernel)
theorem K2.c31_6 (h : K2 M) : mG M 31 6 = 59 := h (31, 6, 59) (by decide +kernel)
theorem K2.c31_7 (h : K2 M) : mG M 31 7 = 61 := h (31, 7, 61) (by decide +kernel)
theorem K2.c31_8 (h : K2 M) : mG M 31 8 = 63 := h (31, 8, 63) (by decide +kernel)
theorem K2.c38_0 (h : K2 M) : mG M 38 0 = 39 := h (38, 0, 39) (by decide +kernel)
theorem K2.c38_1 (h : K2 M) : mG M 38 1 = 40 := h (38, 1, 40) (by decide +kernel)
theorem K2.c38_2 (h : K2 M) : mG M 38 2 = 41 := h (38, 2, 41) (by decide +kernel)
theorem K2.c38_3 (h : K2 M) : mG M 38 3 = 42 := h (38, 3, 42) (by decide +kernel)
theorem K2.c38_4 (h : K2 M) : mG M 38 4 = 43 := h (38, 4, 43) (by decide +kernel)
theorem K2.c38_5 (h : K2 M) : mG M 38 5 = 44 := h (38, 5, 44) (by decide +kernel)
theorem K2.c27_0 (h : K2 M) : mG M 27 0 = 28 := h (27, 0, 28) (by decide +kernel)
theorem K2.c29_0 (h : K2 M) : mG M 29 0 = 30 := h (29, 0, 30) (by decide +kernel)
theorem K2.c32_0 (h : K2 M) : mG M 32 0 = 33 := h (32, 0, 33) (by decide +kernel)
theorem K2.c34_0 (h : K2 M) : mG M 34 0 = 35 := h (34, 0, 35) (by decide +kernel)
theorem K2.c36_0 (h : K2 M) : mG M 36 0 = 37 := h (36, 0, 37) (by decide +kernel)
theorem K2.c47_0 (h : K2 M) : mG M 47 0 = 48 := h (47, 0, 48) (by decide +kernel)
theorem K2.c49_0 (h : K2 M) : mG M 49 0 = 50 := h (49, 0, 50) (by decide +kernel)
theorem K2.c51_0 (h : K2 M) : mG M 51 0 = 52 := h (51, 0, 52) (by decide +kernel)
theorem K2.c53_0 (h : K2 M) : mG M 53 0 = 54 := h (53, 0, 54) (by decide +kernel)
theorem K2.c55_0 (h : K2 M) : mG M 55 0 = 56 := h (55, 0, 56) (by decide +kernel)
theorem K2.c57_0 (h : K2 M) : mG M 57 0 = 58 := h (57, 0, 58) (by decide +kernel)
theorem K2.c59_0 (h : K2 M) : mG M 59 0 = 60 := h (59, 0, 60) (by decide +kernel)
theorem K2.c61_0 (h : K2 M) : mG M 61 0 = 62 := h (61, 0, 62) (by decide +kernel)
theorem K2.c63_0 (h : K2 M) : mG M 63 0 = 64 := h (63, 0, 64) (by decide +kernel)
theorem cst_out : ∀ x, x ∈ cstL → ¬ x.1 = 33 ∧ ¬ x.1 = 35 ∧ ¬ x.1 = 37 ∧ ¬ x.1 = 28 ∧ ¬ x.1 = 30 ∧ (¬ 48 ≤ x.1 ∨ x.2.1 = 0 ∧ x.1 % 2 = 1) ∧ ¬ x.1 = 21 ∧ ¬ x.1 = 22 ∧ ¬ x.1 = 23 ∧ ¬ x.1 = 25 ∧ ¬ x.1 = 26 ∧ ¬ (39 ≤ x.1 ∧ x.1 ≤ 46) ∧ (x.2.1 = 1 ∨ x.2.1 = 2 → x.1 = 2 ∨ x.1 = 3 ∨ x.1 = 4 ∨ x.1 = 20 ∨ x.1 = 24 ∨ x.1 = 31 ∨ x.1 = 38) ∧ ¬ (x.1 = 2 ∧ (x.2.1 = 4 ∨ x.2.1 = 10)) ∧ ¬ (x.1 = 20 ∧ (x.2.1 = 0 ∨ x.2.1 = 1 ∨ x.2.1 = 5)) ∧ ¬ (x.1 = 24 ∧ 4 ≤ x.2.1) ∧ ¬ ((x.1 = 4 ∨ x.1 = 38) ∧ 6 ≤ x.2.1) ∧ (2 ≤ x.1 ∧ x.1 ≤ 63) := by decide +kernel
theorem K2.fx (h : K2 M) {l : Int} (k : FX l M M') (hl : l = 33 ∨ l = 35 ∨ l = 37 ∨ l = 28 ∨ l = 30 ∨ (48 ≤ l ∧ l % 2 = 0) ∨ (l = 21 ∨ l = 22 ∨ l = 23 ∨ l = 25 ∨ l = 26) ∨ (39 ≤ l ∧ l ≤ 46)) : K2 M' := h.kp (fun x hx => k _ _ (fun e => by
  have c := cst_out x hx
  omega))
theorem K2.fw (h : K2 M) {l : Int} (k : FW l M M') (hl : l = 32 ∨ l = 34 ∨ l = 36 ∨ l = 27 ∨ l = 29 ∨ (47 ≤ l ∧ l % 2 = 1)) : K2 M' := h.kp (fun x hx => by
  have c := cst_out x hx
  exact k _ _ (fun e => by omega) (fun e => by omega))
theorem K2.st (h : K2 M) {c i x : Int} (hM : M' = mS M c i x) (hl : (c = 2 ∧ (i = 4 ∨ i = 10)) ∨ (c = 20 ∧ (i = 0 ∨ i = 1 ∨ i = 5)) ∨ (c = 24 ∧ 4 ≤ i) ∨ ((c = 4 ∨ c = 38) ∧ 6 ≤ i) ∨ (21 ≤ c ∧ c ≤ 23) ∨ (25 ≤ c ∧ c ≤ 26) ∨ (39 ≤ c ∧ c ≤ 46)) : K2 M' := h.kp (fun y hy => by
  have cc := cst_out y hy
  exact st_ne hM (fun e => by omega))
theorem K2.ws (h : K2 M) {s : Nat} (hs : s < 9) : mG M 31 (s : Int) = 47 + 2 * (s : Int) ∧ mG M (47 + 2 * (s : Int)) 0 = 47 + 2 * (s : Int) + 1 := by
  have m : ∀ s : Nat, s < 9 → ((31, (s : Int), 47 + 2 * (s : Int)) : Int × Int × Int) ∈ cstL ∧ ((47 + 2 * (s : Int), 0, 47 + 2 * (s : Int) + 1) : Int × Int × Int) ∈ cstL := by decide +kernel
  exact ⟨h _ (m s hs).1, h _ (m s hs).2⟩
end
def k9L : List (Int × Int × Int) := [(126, 1, 127), (126, 2, 128), (126, 3, 129), (126, 4, 130), (126, 5, 131), (126, 6, 132), (126, 7, 133), (126, 8, 134), (126, 9, 135), (126, 10, 136), (126, 11, 137), (126, 12, 138), (126, 13, 139), (126, 14, 140), (126, 15, 141), (126, 16, 142), (126, 17, 143), (126, 18, 144), (126, 19, 145), (126, 20, 146), (126, 21, 147), (126, 22, 148), (126, 23, 149), (126, 24, 150), (126, 25, 151), (126, 26, 152), (126, 27, 153), (126, 28, 154), (126, 39, 155), (126, 41, 156), (126, 42, 157), (126, 43, 158), (126, 44, 159), (126, 45, 160), (126, 47, 161), (126, 51, 162), (126, 55, 163), (126, 56, 164), (126, 58, 165), (126, 59, 166), (126, 60, 167), (126, 61, 168), (126, 62, 169)]
def K9 (M : Mem) : Prop := ∀ x, x ∈ k9L → mG M x.1 x.2.1 = x.2.2
section
variable {M M' : Mem}
theorem k9_in : ∀ x, x ∈ k9L → x.1 = 126 ∧ ((1 ≤ x.2.1 ∧ x.2.1 ≤ 28) ∨ x.2.1 = 39 ∨ (41 ≤ x.2.1 ∧ x.2.1 ≤ 45) ∨ x.2.1 = 47 ∨ x.2.1 = 51 ∨ x.2.1 = 55 ∨ x.2.1 = 56 ∨ (58 ≤ x.2.1 ∧ x.2.1 ≤ 62)) := by decide +kernel
theorem K9.kp (h : K9 M) (g : ∀ j : Int, ((1 ≤ j ∧ j ≤ 28) ∨ j = 39 ∨ (41 ≤ j ∧ j ≤ 45) ∨ j = 47 ∨ j = 51 ∨ j = 55 ∨ j = 56 ∨ (58 ≤ j ∧ j ≤ 62)) → mG M' 126 j = mG M 126 j) : K9 M' := fun x hx => by
  obtain ⟨e, z⟩ := k9_in x hx
  have := h x hx
  rw [e] at this ⊢
  exact (g _ z).trans this
theorem K9.of {n : Nat} (iM : I n M) : K9 M := by
  unfold K9 k9L
  exact all_cons (P := fun x => mG M x.1 x.2.1 = x.2.2) (rd_Model_1 iM rfl) (all_cons (P := fun x => mG M x.1 x.2.1 = x.2.2) (rd_Model_2 iM rfl) (all_cons (P := fun x => mG M x.1 x.2.1 = x.2.2) (rd_Model_3 iM rfl) (all_cons (P := fun x => mG M x.1 x.2.1 = x.2.2) (rd_Model_4 iM rfl) (all_cons (P := fun x => mG M x.1 x.2.1 = x.2.2) (rd_Model_5 iM rfl) (all_cons (P := fun x => mG M x.1 x.2.1 = x.2.2) (rd_Model_6 iM rfl) (all_cons (P := fun x => mG M x.1 x.2.1 = x.2.2) (rd_Model_7 iM rfl) (all_cons (P := fun x => mG M x.1 x.2.1 = x.2.2) (rd_Model_8 iM rfl) (all_cons (P := fun x => mG M x.1 x.2.1 = x.2.2) (rd_Model_9 iM rfl) (all_cons (P := fun x => mG M x.1 x.2.1 = x.2.2) (rd_Model_10 iM rfl) (all_cons (P := fun x => mG M x.1 x.2.1 = x.2.2) (rd_Model_11 iM rfl) (all_cons (P := fun x => mG M x.1 x.2.1 = x.2.2) (rd_Model_12 iM rfl) (all_cons (P := fun x => mG M x.1 x.2.1 = x.2.2) (rd_Model_13 iM rfl) (all_cons (P := fun x => mG M x.1 x.2.1 = x.2.2) (rd_Model_14 iM rfl) (all_cons (P := fun x => mG M x.1 x.2.1 = x.2.2) (rd_Model_15 iM rfl) (all_cons (P := fun x => mG M x.1 x.2.1 = x.2.2) (rd_Model_16 iM rfl) (all_cons (P := fun x => mG M x.1 x.2.1 = x.2.2) (rd_Model_17 iM rfl) (all_cons (P := fun x => mG M x.1 x.2.1 = x.2.2) (rd_Model_18 iM rfl) (all_cons (P := fun x => mG M x.1 x.2.1 = x.2.2) (rd_Model_19 iM rfl) (all_cons (P := fun x => mG M x.1 x.2.1 = x.2.2) (rd_Model_20 iM rfl) (all_cons (P := fun x => mG M x.1 x.2.1 = x.2.2) (rd_Model_21 iM rfl) (all_cons (P := fun x => mG M x.1 x.2.1 = x.2.2) (rd_Model_22 iM rfl) (all_cons (P := fun x => mG M x.1 x.2.1 = x.2.2) (rd_Model_23 iM rfl) (all_cons (P := fun x => mG M x.1 x.2.1 = x.2.2) (rd_Model_24 iM rfl) (all_cons (P := fun x => mG M x.1 x.2.1 = x.2.2) (rd_Model_25 iM rfl) (all_cons (P := fun x => mG M x.1 x.2.1 = x.2.2) (rd_Model_26 iM rfl) (all_cons (P := fun x => mG M x.1 x.2.1 = x.2.2) (rd_Model_27 iM rfl) (all_cons (P := fun x => mG M x.1 x.2.1 = x.2.2) (rd_Model_28 iM rfl) (all_cons (P := fun x => mG M x.1 x.2.1 = x.2.2) (rd_Model_39 iM rfl) (all_cons (P := fun x => mG M x.1 x.2.1 = x.2.2) (rd_Model_41 iM rfl) (all_cons (P := fun x => mG M x.1 x.2.1 = x.2.2) (rd_Model_42 iM rfl) (all_cons (P := fun x => mG M x.1 x.2.1 = x.2.2) (rd_Model_43 iM rfl) (all_cons (P := fun x => mG M x.1 x.2.1 = x.2.2) (rd_Model_44 iM rfl) (all_cons (P := fun x => mG M x.1 x.2.1 = x.2.2) (rd_Model_45 iM rfl) (all_cons (P := fun x => mG M x.1 x.2.1 = x.2.2) (rd_Model_47 iM rfl) (all_cons (P := fun x => mG M x.1 x.2.1 = x.2.2) (rd_Model_51 iM rfl) (all_cons (P := fun x => mG M x.1 x.2.1 = x.2.2) (rd_Model_55 iM rfl) (all_cons (P := fun x => mG M x.1 x.2.1 = x.2.2) (rd_Model_56 iM rfl) (all_cons (P := fun x => mG M x.1 x.2.1 = x.2.2) (rd_Model_58 iM rfl) (all_cons (P := fun x => mG M x.1 x.2.1 = x.2.2) (rd_Model_59 iM rfl) (all_cons (P := fun x => mG M x.1 x.2.1 = x.2.2) (rd_Model_60 iM rfl) (all_cons (P := fun x => mG M x.1 x.2.1 = x.2.2) (rd_Model_61 iM rfl) (all_cons (P := fun x => mG M x.1 x.2.1 = x.2.2) (rd_Model_62 iM rfl) (all_nil)))))))))))))))))))))))))))))))))))))))))))
theorem K9.c1 (h : K9 M) : mG M 126 1 = 127 := h (126, 1, 127) (by decide +kernel)
theorem K9.c2 (h : K9 M) : mG M 126 2 = 128 := h (126, 2, 128) (by decide +kernel)
theorem K9.c3 (h : K9 M) : mG M 126 3 = 129 := h (126, 3, 129) (by decide +kernel)
theorem K9.c4 (h : K9 M) : mG M 126 4 = 130 := h (126, 4, 130) (by decide +kernel)
theorem K9.c5 (h : K9 M) : mG M 126 5 = 131 := h (126, 5, 131) (by decide +kernel)
theorem K9.c6 (h : K9 M) : mG M 126 6 = 132 := h (126, 6, 132) (by decide +kernel)
theorem K9.c7 (h : K9 M) : mG M 126 7 = 133 := h (126, 7, 133) (by decide +kernel)
theorem K9.c8 (h : K9 M) : mG M 126 8 = 134 := h (126, 8, 134) (by decide +kernel)
theorem K9.c9 (h : K9 M) : mG M 126 9 = 135 := h (126, 9, 135) (by decide +kernel)
theorem K9.c10 (h : K9 M) : mG M 126 10 = 136 := h (126, 10, 136) (by decide +kernel)
theorem K9.c11 (h : K9 M) : mG M 126 11 = 137 := h (126, 11, 137) (by decide +kernel)
theorem K9.c12 (h : K9 M) : mG M 126 12 = 138 := h (126, 12, 138) (by decide +kernel)
theorem K9.c13 (h : K9 M) : mG M 126 13 = 139 := h (126, 13, 139) (by decide +kernel)
theorem K9.c14 (h : K9 M) : mG M 126 14 = 140 := h (126, 14, 140) (by decide +kernel)
theorem K9.c15 (h : K9 M) : mG M 126 15 = 141 := h (126, 15, 141) (by decide +kernel)
theorem K9.c16 (h : K9 M) : mG M 126 16 = 142 := h (126, 16, 142) (by decide +kernel)
theorem K9.c17 (h : K9 M) : mG M 126 17 = 143 := h (126, 17, 143) (by decide +kernel)
theorem K9.c18 (h : K9 M) : mG M 126 18 = 144 := h (126, 18, 144) (by decide +kernel)
theorem K9.c19 (h : K9 M) : mG M 126 19 = 145 := h (126, 19, 145) (by decide +kernel)
theorem K9.c20 (h : K9 M) : mG M 126 20 = 146 := h (126, 20, 146) (by decide +kernel)
theorem K9.c21 (h : K9 M) : mG M 126 21 = 147 := h (126, 21, 147) (by decide +kernel)
theorem K9.c22 (h : K9 M) : mG M 126 22 = 148 := h (126, 22, 148) (by decide +kernel)
theorem K9.c23 (h : K9 M) : mG M 126 23 = 149 := h (126, 23, 149) (by decide +kernel)
theorem K9.c24 (h : K9 M) : mG M 126 24 = 150 := h (126, 24, 150) (by decide +kernel)
theorem K9.c25 (h : K9 M) : mG M 126 25 = 151 := h (126, 25, 151) (by decide +kernel)
theorem K9.c26 (h : K9 M) : mG M 126 26 = 152 := h (126, 26, 152) (by decide +kernel)
theorem K9.c27 (h : K9 M) : mG M 126 27 = 153 := h (126, 27, 153) (by decide +kernel)
theorem K9.c28 (h : K9 M) : mG M 126 28 = 154 := h (126, 28, 154) (by decide +kernel)
theorem K9.c39 (h : K9 M) : mG M 126 39 = 155 := h (126, 39, 155) (by decide +kernel)
theorem K9.c41 (h : K9 M) : mG M 126 41 = 156 := h (126, 41, 156) (by decide +kernel)
theorem K9.c42 (h : K9 M) : mG M 126 42 = 157 := h (126, 42, 157) (by decide +kernel)
theorem K9.c43 (h : K9 M) : mG M 126 43 = 158 := h (126, 43, 158) (by decide +kernel)
theorem K9.c44 (h : K9 M) : mG M 126 44 = 159 := h (126, 44, 159) (by decide +kernel)
theorem K9.c45 (h : K9 M) : mG M 126 45 = 160 := h (126, 45, 160) (by decide +kernel)
theorem K9.c47 (h : K9 M) : mG M 126 47 = 161 := h (126, 47, 161) (by decide +kernel)
theorem K9.c51 (h : K9 M) : mG M 126 51 = 162 := h (126, 51, 162) (by decide +kernel)
theorem K9.c55 (h : K9 M) : mG M 126 55 = 163 := h (126, 55, 163) (by decide +kernel)
theorem K9.c56 (h : K9 M) : mG M 126 56 = 164 := h (126, 56, 164) (by decide +kernel)
theorem K9.c58 (h : K9 M) : mG M 126 58 = 165 := h (126, 58, 165) (by decide +kernel)
theorem K9.c59 (h : K9 M) : mG M 126 59 = 166 := h (126, 59, 166) (by decide +kernel)
theorem K9.c60 (h : K9 M) : mG M 126 60 = 167 := h (126, 60, 167) (by decide +kernel)
theorem K9.c61 (h : K9 M) : mG M 126 61 = 168 := h (126, 61, 168) (by decide +kernel)
theorem K9.c62 (h : K9 M) : mG M 126 62 = 169 := h (126, 62, 169) (by decide +kernel)
end
end
