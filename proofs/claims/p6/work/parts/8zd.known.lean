/-! ===== what is known, as bits ===== -/
section
variable {S : SH} {M : Mem}
theorem v_factAt15 {r i j : Int} (ok : S.ok) (k9 : K9 M) (h : RSH S M) (h0 : 0 ≤ r) (h1 : r < S.nr) : pw (mX9_factAt_15 126 r i (S.col r j) M) (fun q => q.2 = M ∧ ((S.inr r i j ∧ q.1 = S.at' r i j) ∨ (¬ S.inr r i j ∧ q.1 = -1))) := by
  obtain ⟨b1, b2⟩ := h.2.1.2 r h0 h1
  have b3 : mG M 153 r = S.st r.toNat := by
    have := h.2.2 r.toNat (by omega)
    rw [show ((r.toNat : Nat) : Int) = r by omega] at this
    exact this
  have a1 := k9.c9
  have a2 := k9.c10
  have a9 := k9.c27
  have k := ok.2.2 r h0 h1
  have z1 := ok.zv (k := S.k1 r) (by omega)
  have z2 := ok.zv (k := S.k2 r) k.2
  have s9 := ok.st9 h0 h1
  unfold mX9_factAt_15
  refine p_gFc (ji := 9) rfl a1 (p_aGc b1 (p_gK (p_call (v_sizeOf k9 h.1 (by omega)) (fun v m y => ?_))))
  obtain ⟨e, y⟩ := y
  replace e : m = M := e
  replace y : v = S.zv (S.k1 r) := y
  subst e; subst y
  rw [wI_id (x := S.zv (S.k1 r) - 1) (by omega) (by omega)]
  refine p_call w_in (fun v m2 y => ?_)
  obtain ⟨e, y⟩ := y
  replace e : m2 = m := e
  subst e
  rcases y with ⟨c1, hv⟩ | ⟨c1, hv⟩
  · replace hv : v = 1 := hv
    subst hv
    refine p_it0 (show ¬ (1 : Int) = 0 by decide) (p_gFc (ji := 10) rfl a2 (p_aGc b2 (p_gK (p_call (v_sizeOf k9 h.1 k.2) (fun v m y => ?_)))))
    obtain ⟨e, y⟩ := y
    replace e : m = m2 := e
    replace y : v = S.zv (S.k2 r) := y
    subst e; subst y
    rw [wI_id (x := S.zv (S.k2 r) - 1) (by omega) (by omega)]
    refine p_call w_in (fun v m2 y => ?_)
    obtain ⟨e, y⟩ := y
    replace e : m2 = m := e
    subst e
    rcases y with ⟨c2, hv⟩ | ⟨c2, hv⟩
    · replace hv : v = 1 := hv
      subst hv
      refine p_it0 (show ¬ (1 : Int) = 0 by decide) (p_gFc (ji := 27) rfl a9 (p_aGc b3 (p_gFc (ji := 10) rfl a2 (p_aGc b2 (p_gK (p_call (v_sizeOf k9 h.1 k.2) (fun v m y => p_ret ?_)))))))
      obtain ⟨e, y⟩ := y
      replace e : m = m2 := e
      replace y : v = S.zv (S.k2 r) := y
      subst e; subst y
      refine ⟨rfl, Or.inl ⟨⟨by omega, by omega⟩, ?_⟩⟩
      have p := mul_b (x := S.zv (S.k2 r)) (y := i) (a := 3) (b := 3) (by omega) (by omega) (by omega) (by omega)
      show wI (wI (S.st r.toNat + wI (S.zv (S.k2 r) * i)) + S.col r j) = S.st r.toNat + S.zv (S.k2 r) * i + S.col r j
      rw [wI_id (x := S.zv (S.k2 r) * i) (by omega) (by omega), wI_id (x := S.st r.toNat + S.zv (S.k2 r) * i) (by omega) (by omega), wI_id (x := S.st r.toNat + S.zv (S.k2 r) * i + S.col r j) (by omega) (by omega)]
    · replace hv : v = 0 := hv
      subst hv
      exact p_it1 rfl (p_ret ⟨rfl, Or.inr ⟨fun w => c2 (by have := w.2; omega), rfl⟩⟩)
  · replace hv : v = 0 := hv
    subst hv
    exact p_it1 rfl (p_ret ⟨rfl, Or.inr ⟨fun w => c1 (by have := w.1; omega), rfl⟩⟩)
theorem v_factAt {r i j : Int} (ok : S.ok) (k9 : K9 M) (h : RSH S M) (h0 : 0 ≤ r) (h1 : r < S.nr) : pw (mX9_factAt 126 r i j M) (fun q => q.2 = M ∧ ((S.inr r i j ∧ q.1 = S.at' r i j) ∨ (¬ S.inr r i j ∧ q.1 = -1))) := by
  have fin := v_factAt15 (i := i) (j := j) ok k9 h h0 h1
  obtain ⟨b1, b2⟩ := h.2.1.2 r h0 h1
  have a2 := k9.c10
  unfold mX9_factAt
  refine p_gFc (ji := 10) rfl a2 (p_aGc b2 (p_if (fun c3 => ?_) (fun c3 => ?_)))
  · have e : S.col r j = 0 := if_pos c3
    rw [e] at fin; exact fin
  · have e : S.col r j = j := if_neg c3
    rw [e] at fin; exact fin
/-- a fact stands at one place -/
theorem at_inj {r i j r' i' j' : Int} (ok : S.ok) (h0 : 0 ≤ r) (h1 : r < S.nr) (h0' : 0 ≤ r') (h1' : r' < S.nr) (hi : S.inr r i j) (hi' : S.inr r' i' j') (e : S.at' r i j = S.at' r' i' j') : r = r' ∧ i = i' ∧ S.col r j = S.col r j' := by
  have p := ok.pos h0 h1 hi
  have p' := ok.pos h0' h1' hi'
  have lt : ∀ a b : Nat, a < b → (b : Int) ≤ S.nr → S.st (a + 1) ≤ S.st b := fun a b hab hb => by
    have := (ok.mono (a := a + 1) (b - (a + 1)) (by omega)).1
    rw [show a + 1 + (b - (a + 1)) = b by omega] at this
    exact this
  have er : r = r' := by
    apply Classical.byContradiction
    intro hne
    by_cases c : r < r'
    · have := lt r.toNat r'.toNat (by omega) (by omega)
      omega
    · have := lt r'.toNat r.toNat (by omega) (by omega)
      omega
  subst er
  unfold SH.at' at e
  obtain ⟨_, c1, c2⟩ := hi
  obtain ⟨_, c1', c2'⟩ := hi'
  have z := zv_c ok h0 h1
  generalize S.zv (S.k2 r) = z at *
  refine ⟨rfl, ?_⟩
  rcases z with z | z | z <;> subst z <;> omega
/-- where what is known of a fact belongs -/
def SH.pl (S : SH) (x : Int) : Int := if (0 ≤ x / 9 ∧ x / 9 < S.nr) ∧ S.inr (x / 9) (x / 3 % 3) (x % 3) then S.at' (x / 9) (x / 3 % 3) (x % 3) else -1
theorem pl_rg (ok : S.ok) (x : Int) : S.pl x = -1 ∨ (0 ≤ S.pl x ∧ S.pl x < S.nf) := by
  unfold SH.pl
  split
  · rename_i h
    have p := ok.pos h.1.1 h.1.2 h.2
    have s := ok.st9 h.1.1 h.1.2
    exact Or.inr ⟨by omega, by omega⟩
  · exact Or.inl rfl
theorem pl_iff {x r i j : Int} (ok : S.ok) (h0 : 0 ≤ r) (h1 : r < S.nr) (hi : S.inr r i j) (hj : 0 ≤ j ∧ j < S.zv (S.k2 r)) (hx : 0 ≤ x ∧ x < 9 * S.nr) (ho : S.k2 (x / 9) = -1 → x % 3 = 0) : S.pl x = S.at' r i j ↔ x = 9 * r + 3 * i + j := by
  have z1 := ok.zv (k := S.k1 r) (by have := (ok.2.2 r h0 h1).1; omega)
  have z2 := zv_c ok h0 h1
  have p := ok.pos h0 h1 hi
  have s := ok.st9 h0 h1
  have hi1 := hi.1
  constructor
  · intro e
    unfold SH.pl at e
    split at e
    · rename_i h
      obtain ⟨e1, e2, e3⟩ := at_inj ok h.1.1 h.1.2 h0 h1 h.2 hi e
      rw [e1] at e3 ho
      have e4 : x % 3 = j := by
        unfold SH.col at e3
        split at e3
        · rename_i h2
          have := ho h2
          have : S.zv (S.k2 r) = 1 := by unfold SH.zv; rw [if_pos h2]
          omega
        · exact e3
      omega
    · omega
  · intro e
    have a1 : x / 9 = r := by omega
    have a2 : x / 3 % 3 = i := by omega
    have a3 : x % 3 = j := by omega
    unfold SH.pl
    rw [a1, a2, a3, if_pos ⟨⟨h0, h1⟩, hi⟩]
/-- what is known of each place, as the reference has it -/
def knR (S : SH) (M : Mem) (p : Int) : Int := knf (mG M 147) (mG M 148) (mG M 149) (vdy (mG M 131 0) (mG M 132 0)) (fun x => decide (S.pl x = p)) (mG M 146 0).toNat
def kbs (F : Int → Int) (n : Nat) : Nat := bitsOf (fun b => !decide (F ((n : Int) - 1 - (b : Int)) = -1)) n
def kss (F : Int → Int) (n : Nat) : Nat := bitsOf (fun b => decide (F ((n : Int) - 1 - (b : Int)) = 1)) n
theorem up_kb {F G : Int → Int} {n p : Nat} (hp : p < n) (h : G (p : Int) = 0 ∨ G (p : Int) = 1) (e : ∀ q : Int, ¬ q = (p : Int) → G q = F q) : kbs G n = kbs F n ||| 2 ^ (n - 1 - p) := by
  refine Nat.eq_of_testBit_eq (fun i => ?_)
  unfold kbs
  rw [Nat.testBit_or, bitsOf_b, bitsOf_b]
  by_cases c : i = n - 1 - p
  · subst c
    rw [Nat.testBit_two_pow_self, Bool.or_true, decide_eq_true (show n - 1 - p < n by omega), show (n : Int) - 1 - ((n - 1 - p : Nat) : Int) = (p : Int) by omega]
    rcases h with h | h <;> rw [h] <;> rfl
  · rw [Nat.testBit_two_pow_of_ne (fun y => c y.symm), Bool.or_false]
    by_cases d : i < n
    · rw [e _ (by omega)]
    · rw [decide_eq_false d]; rfl
theorem up_ks1 {F G : Int → Int} {n p : Nat} (hp : p < n) (h : G (p : Int) = 1) (e : ∀ q : Int, ¬ q = (p : Int) → G q = F q) : kss G n = kss F n ||| 2 ^ (n - 1 - p) := by
  refine Nat.eq_of_testBit_eq (fun i => ?_)
  unfold kss
  rw [Nat.testBit_or, bitsOf_b, bitsOf_b]
  by_cases c : i = n - 1 - p
  · subst c
    rw [Nat.testBit_two_pow_self, Bool.or_true, decide_eq_true (show n - 1 - p < n by omega), show (n : Int) - 1 - ((n - 1 - p : Nat) : Int) = (p : Int) by omega, h]; rfl
  · rw [Nat.testBit_two_pow_of_ne (fun y => c y.symm), Bool.or_false]
    by_cases d : i < n
    · rw [e _ (by omega)]
    · rw [decide_eq_false d]; rfl
theorem up_ks0 {F G : Int → Int} {n p : Nat} (hn : n ≤ 12) (hp : p < n) (h : G (p : Int) = 0) (e : ∀ q : Int, ¬ q = (p : Int) → G q = F q) : kss G n = kss F n &&& (4095 ^^^ 2 ^ (n - 1 - p)) := by
  refine Nat.eq_of_testBit_eq (fun i => ?_)
  unfold kss
  rw [Nat.testBit_and, Nat.testBit_xor, bitsOf_b, bitsOf_b, show (4095 : Nat) = 2 ^ 12 - 1 from rfl, Nat.testBit_two_pow_sub_one]
  by_cases c : i = n - 1 - p
  · subst c
    rw [Nat.testBit_two_pow_self, decide_eq_true (show n - 1 - p < 12 by omega), show (n : Int) - 1 - ((n - 1 - p : Nat) : Int) = (p : Int) by omega, h]
    cases decide (n - 1 - p < n) <;> cases decide (F (p : Int) = 1) <;> rfl
  · rw [Nat.testBit_two_pow_of_ne (fun y => c y.symm), Bool.xor_false]
    by_cases d : i < n
    · rw [e _ (by omega), decide_eq_true (show i < 12 by omega), Bool.and_true]
    · rw [decide_eq_false d]; rfl
theorem kb_congr {F G : Int → Int} {n : Nat} (e : ∀ p : Int, 0 ≤ p → G p = F p) : kbs G n = kbs F n ∧ kss G n = kss F n :=
  ⟨bitsOf_congr n (fun i hi => by rw [e _ (by omega)]), bitsOf_congr n (fun i hi => by rw [e _ (by omega)])⟩
theorem kb_lt (F : Int → Int) (n : Nat) : kbs F n < 2 ^ n := bitsOf_lt _ _
theorem ks_lt (F : Int → Int) (n : Nat) : kss F n < 2 ^ n := bitsOf_lt _ _
/-- as it is known, by bits -/
theorem as_known {F : Int → Int} {n w : Nat} (h : ∀ p, F p = -1 ∨ F p = 0 ∨ F p = 1) : (w &&& kbs F n = kss F n) ↔ allb (okp (n : Int) F w) n = true := by
  have tb : ∀ i, i < n → ((w &&& kbs F n).testBit i = (kss F n).testBit i ↔ okp (n : Int) F w (n - 1 - i) = true) := fun i hi => by
    unfold kbs kss okp phw
    rw [Nat.testBit_and, bitsOf_b, bitsOf_b, decide_eq_true hi, show (n : Int) - 1 - ((n - 1 - i : Nat) : Int) = (i : Int) by omega, show ((n - 1 - i : Nat) : Int) = (n : Int) - 1 - (i : Int) by omega, Int.toNat_natCast]
    rcases h ((n : Int) - 1 - (i : Int)) with e | e | e <;> rw [e] <;> cases w.testBit i <;> decide
  rw [allb_t]
  constructor
  · intro e i hi
    have := (tb (n - 1 - i) (by omega)).mp (by rw [e])
    rw [show n - 1 - (n - 1 - i) = i by omega] at this
    exact this
  · intro e
    refine Nat.eq_of_testBit_eq (fun i => ?_)
    by_cases c : i < n
    · exact (tb i c).mpr (e _ (by omega))
    · unfold kbs kss
      rw [Nat.testBit_and, bitsOf_b, bitsOf_b, decide_eq_false c, Bool.false_and, Bool.false_and, Bool.and_false]
/-- clear a bit -/
theorem ix_b {b : Nat} (hb : b < 4096) : (Int32.ofInt (ixor (b : Int) (-1))).toBitVec.toNat = b ^^^ 4294967295 := by
  unfold ixor
  rw [Int32.ofInt_toInt, Int32.toBitVec_xor, BitVec.toNat_xor, nonneg_bv (by omega) (by omega), Int.toNat_natCast]
  congr 1
theorem iand_clr {a b : Nat} (ha : a < 4096) (hb : b < 4096) : iand (a : Int) (ixor (b : Int) (-1)) = ((a &&& (4095 ^^^ b) : Nat) : Int) := by
  have e : (Int32.ofInt (a : Int) &&& Int32.ofInt (ixor (b : Int) (-1))).toBitVec.toNat = a &&& (4095 ^^^ b) := by
    rw [Int32.toBitVec_and, BitVec.toNat_and, nonneg_bv (by omega) (by omega), ix_b hb, Int.toNat_natCast]
    refine Nat.eq_of_testBit_eq (fun i => ?_)
    rw [Nat.testBit_and, Nat.testBit_and, Nat.testBit_xor, Nat.testBit_xor, show (4294967295 : Nat) = 2 ^ 32 - 1 from rfl, show (4095 : Nat) = 2 ^ 12 - 1 from rfl, Nat.testBit_two_pow_sub_one, Nat.testBit_two_pow_sub_one]
    by_cases c : i < 12
    · rw [decide_eq_true c, decide_eq_true (show i < 32 by omega), Bool.xor_comm]
    · have : a.testBit i = false := Nat.testBit_lt_two_pow (Nat.lt_of_lt_of_le ha (Nat.pow_le_pow_right (n := 2) (by decide) (show 12 ≤ i by omega)))
      rw [this]; rfl
  have h2 : a &&& (4095 ^^^ b) ≤ a := Nat.and_le_left
  unfold iand
  rw [toInt_small _ (by rw [e]; omega), e]
/-- the known entries -/
def KNO (S : SH) (M : Mem) : Prop := (0 ≤ mG M 146 0 ∧ mG M 146 0 ≤ 40) ∧ ∀ k : Nat, (k : Int) < mG M 146 0 → (0 ≤ mG M 147 (k : Int) ∧ mG M 147 (k : Int) < 9 * S.nr) ∧ (mG M 148 (k : Int) = 0 ∨ mG M 148 (k : Int) = 1)
def FK (M M' : Mem) : Prop := ∀ c j : Int, ¬ (c = 126 ∧ (j = 49 ∨ j = 50)) → mG M' c j = mG M c j
theorem v_findKnown {n : Nat} (ok : S.ok) (hn : S.nf = (n : Int)) (n12 : n ≤ 12) (k9 : K9 M) (h : RSH S M) (kn : KNO S M) : pw (mX9_findKnown 126 M) (fun q => mG q.2 126 49 = ((kbs (knR S M) n : Nat) : Int) ∧ mG q.2 126 50 = ((kss (knR S M) n : Nat) : Int) ∧ FK M q.2) := by
  obtain ⟨dy, hdy⟩ : ∃ dy, dy = vdy (mG M 131 0) (mG M 132 0) := ⟨_, rfl⟩
  obtain ⟨F, hF⟩ : ∃ F : Nat → Int → Int, F = fun k p => knf (mG M 147) (mG M 148) (mG M 149) dy (fun x => decide (S.pl x = p)) k := ⟨_, rfl⟩
  have eF : knR S M = F (mG M 146 0).toNat := by rw [hF]; funext p; unfold knR; rw [hdy]
  rw [eF]
  obtain ⟨Q, hQ⟩ : ∃ Q : Int × Mem → Prop, Q = fun q => mG q.2 126 49 = ((kbs (F (mG M 146 0).toNat) n : Nat) : Int) ∧ mG q.2 126 50 = ((kss (F (mG M 146 0).toNat) n : Nat) : Int) ∧ FK M q.2 := ⟨_, rfl⟩
  rw [← hQ]
  have p12 : 2 ^ n ≤ 2 ^ 12 := Nat.pow_le_pow_right (n := 2) (by decide) n12
  have step : ∀ (k : Nat) (p : Int), F (k + 1) p = if S.pl (mG M 147 (k : Int)) = p ∧ mG M 149 (k : Int) ≤ dy then (if mG M 148 (k : Int) = 0 then 0 else 1) else F k p := fun k p => by
    rw [hF]
    show (if decide _ = true ∧ _ then _ else _) = _
    by_cases c : S.pl (mG M 147 (k : Int)) = p
    · by_cases d : mG M 149 (k : Int) ≤ dy
      · exact (if_pos ⟨decide_eq_true c, d⟩).trans (if_pos ⟨c, d⟩).symm
      · exact (if_neg (fun w => d w.2)).trans (if_neg (fun w => d w.2)).symm
    · exact (if_neg (fun w => c (of_decide_eq_true w.1))).trans (if_neg (fun w => c w.1)).symm
  have loop : ∀ (fu k : Nat) (m : Mem), (k : Int) ≤ mG M 146 0 → FK M m → mG m 126 49 = ((kbs (F k) n : Nat) : Int) → mG m 126 50 = ((kss (F k) n : Nat) : Int) → pw (mX9_findKnown_43 fu 126 dy (n : Int) (k : Int) m) Q := by
    intro fu
    induction fu with
    | zero => intro k m _ _ _ _; exact p_none
    | succ fu ih =>
      intro k m hk fr e49 e50
      show pw (bX9_findKnown_43 (mX9_findKnown_43 fu) 126 dy (n : Int) (k : Int) m) _
      have k40 := kn.1.2
      have g : ∀ c j : Int, ¬ c = 126 → mG m c j = mG M c j := fun c j x => fr c j (fun w => x w.1)
      have km : K9 m := k9.kp (fun j hj => fr 126 j (fun w => by omega))
      unfold bX9_findKnown_43
      refine p_gFc (ji := 20) rfl km.c20 (p_aGc (g 146 0 (by decide)) (p_if (fun c => p_ret ?_) (fun c => ?_)))
      · rw [show k = (mG M 146 0).toNat by omega] at e49 e50
        rw [hQ]
        exact ⟨e49, e50, fr⟩
      have k1 : (k : Int) < mG M 146 0 := by omega
      obtain ⟨⟨x0, x1⟩, hb⟩ := kn.2 k k1
      obtain ⟨x, hx⟩ : ∃ x, x = mG M 147 (k : Int) := ⟨_, rfl⟩
      have n4 := ok.2.1
      rw [← hx] at x0 x1
      have ex : mG m 147 (k : Int) = x := (g 147 _ (by decide)).trans hx.symm
      have stk := step k
      rw [← hx] at stk
      refine p_gFc (ji := 21) rfl km.c21 (p_aGc ex (p_dQc (idiv_e x0 (by omega) (by decide) (by decide)) (p_gFc (ji := 21) rfl km.c21 (p_aGc ex (p_dQc (idiv_e x0 (by omega) (by decide) (by decide)) (p_dMc (irem_e (by omega) (by omega) (by decide) (by decide)) (p_gFc (ji := 21) rfl km.c21 (p_aGc ex (p_dMc (irem_e x0 (by omega) (by decide) (by decide)) (p_gK (p_call (v_factAt (r := x / 9) (i := x / 3 % 3) (j := x % 3) ok km (h.kp (fun c j hc => g c j (by omega))) (by omega) (by omega)) (fun v m1 y => ?_))))))))))))
      obtain ⟨y1, y2⟩ := y
      replace y1 : m1 = m := y1
      subst y1
      have skip : (∀ p : Int, 0 ≤ p → F (k + 1) p = F k p) → pw (mX9_findKnown_163 (mX9_findKnown_43 fu) 126 dy (n : Int) (k : Int) m1) Q := fun hs => by
        unfold mX9_findKnown_163
        rw [wI_s (p := k) (by omega)]
        have e := kb_congr (n := n) hs
        exact ih (k + 1) m1 (by omega) fr (by rw [e.1]; exact e49) (by rw [e.2]; exact e50)
      rcases y2 with ⟨c1, hv⟩ | ⟨c1, hv⟩
      · replace hv : v = S.at' (x / 9) (x / 3 % 3) (x % 3) := hv
        have pl : S.pl x = v := by unfold SH.pl; rw [if_pos ⟨⟨by omega, by omega⟩, c1⟩, hv]
        have pr := ok.pos (by omega) (by omega) c1
        have s9 := ok.st9 (r := x / 9) (by omega) (by omega)
        rw [← hv] at pr
        obtain ⟨p, hp⟩ := Int.eq_ofNat_of_zero_le (show 0 ≤ v by omega)
        subst hp
        refine p_it0 (by show ¬ ((p : Nat) : Int) = -1; omega) (p_gFc (ji := 23) rfl km.c23 (p_aGc (g 149 _ (by decide)) (p_if (fun c2 => ?_) (fun c2 => skip (fun q _ => ?_)))))
        · refine p_some (fun b hb' => ?_)
          rw [wI_id (x := (n : Int) - 1) (by omega) (by omega), wI_id (x := (n : Int) - 1 - (p : Int)) (by omega) (by omega), show (n : Int) - 1 - (p : Int) = ((n - 1 - p : Nat) : Int) by omega, ishl1 (n - 1 - p) (by omega), show (2 : Int) ^ (n - 1 - p) = ((2 ^ (n - 1 - p) : Nat) : Int) by simp] at hb'
          subst hb'
          have pb : 2 ^ (n - 1 - p) < 2 ^ n := Nat.pow_lt_pow_right (n := n) (by decide) (by omega)
          have l1 := kb_lt (F k) n
          have l2 := ks_lt (F k) n
          have fp : F (k + 1) (p : Int) = (if mG M 148 (k : Int) = 0 then 0 else 1) := by rw [stk, if_pos ⟨pl, c2⟩]
          have fo : ∀ q : Int, ¬ q = (p : Int) → F (k + 1) q = F k q := fun q hq => by rw [stk, if_neg (fun w => hq (w.1.symm.trans pl))]
          have hp1 : p < n := by omega
          have hkb := up_kb (F := F k) (G := F (k + 1)) hp1 (by rw [fp]; split <;> simp) fo
          refine p_gFc (ji := 49) rfl e49 (p_pF (ji := 49) rfl (fun m2 h2 => ?_))
          rw [ior_nn (by omega) (by omega), ← hkb] at h2
          have f2 : FK M m2 := fun c j z => (st_ne h2 (fun w => z ⟨w.1, Or.inl w.2⟩)).trans (fr c j z)
          have g2 : ∀ c j : Int, ¬ c = 126 → mG m2 c j = mG M c j := fun c j z => f2 c j (fun w => z w.1)
          have km2 : K9 m2 := k9.kp (fun j hj => f2 126 j (fun w => by omega))
          have e50' : mG m2 126 50 = ((kss (F k) n : Nat) : Int) := (st_ne h2 (fun w => absurd w.2 (by decide))).trans e50
          have fin : ∀ v : Nat, v = kss (F (k + 1)) n → pw (mX9_findKnown_160 (mX9_findKnown_43 fu) 126 dy (n : Int) (k : Int) 126 (v : Int) m2) Q := fun v hv => by
            unfold mX9_findKnown_160 mX9_findKnown_163
            refine p_pF (ji := 50) rfl (fun m3 h3 => ?_)
            rw [wI_s (p := k) (by omega)]
            exact ih (k + 1) m3 (by omega) (fun c j z => (st_ne h3 (fun w => z ⟨w.1, Or.inr w.2⟩)).trans (f2 c j z)) ((st_ne h3 (fun w => absurd w.2 (by decide))).trans (st_eq h2)) (by rw [st_eq h3, hv])
          refine p_gFc (ji := 22) rfl km2.c22 (p_aGc (g2 148 _ (by decide)) (p_if (fun c3 => ?_) (fun c3 => ?_)))
          · refine p_gFc (ji := 50) rfl e50' ?_
            rw [ior_nn (by omega) (by omega)]
            refine fin _ (up_ks1 hp1 ?_ fo).symm
            rw [fp, if_neg (by omega)]
          · refine p_gFc (ji := 50) rfl e50' ?_
            rw [iand_clr (by omega) (by omega)]
            refine fin _ (up_ks0 n12 hp1 ?_ fo).symm
            rw [fp, if_pos (by omega)]
        · rw [stk, if_neg (fun w => c2 w.2)]
      · replace hv : v = -1 := hv
        have pl : S.pl x = -1 := by unfold SH.pl; rw [if_neg (fun w => c1 w.2)]
        refine p_it1 hv (skip (fun q hq => ?_))
        rw [stk, if_neg (fun w => by have := w.1; omega)]
  have fin : ∀ v, v = dy → pw (mX9_findKnown_25 126 v M) Q := fun v hv => by
    subst hv
    unfold mX9_findKnown_25
    refine p_gK (p_call (v_manyFacts ok k9 h) (fun v m y => ?_))
    obtain ⟨y1, y2⟩ := y
    replace y1 : m = M := y1
    replace y2 : v = S.nf := y2
    subst y1
    rw [hn] at y2
    subst y2
    refine p_pF (ji := 49) rfl (fun m1 h1 => p_pF (ji := 50) rfl (fun m2 h2 => ?_))
    have z0 : kbs (F 0) n = 0 := by
      refine Nat.eq_of_testBit_eq (fun i => ?_)
      unfold kbs
      rw [bitsOf_b, Nat.zero_testBit]
      have : F 0 ((n : Int) - 1 - (i : Int)) = -1 := by rw [hF]; rfl
      rw [this]; exact Bool.and_false _
    have z1 : kss (F 0) n = 0 := by
      refine Nat.eq_of_testBit_eq (fun i => ?_)
      unfold kss
      rw [bitsOf_b, Nat.zero_testBit]
      have : F 0 ((n : Int) - 1 - (i : Int)) = -1 := by rw [hF]; rfl
      rw [this]; exact Bool.and_false _
    refine loop FU 0 m2 kn.1.1 (fun c j z => ?_) ?_ ?_
    · rw [st_ne h2 (fun w => z ⟨w.1, Or.inr w.2⟩), st_ne h1 (fun w => z ⟨w.1, Or.inl w.2⟩)]
    · rw [z0, st_ne h2 (fun w => absurd w.2 (by decide)), st_eq h1]; rfl
    · rw [z1, st_eq h2]; rfl
  unfold mX9_findKnown
  refine p_gFc (ji := 6) rfl k9.c6 (p_aGc rfl (p_if (fun c => p_gFc (ji := 5) rfl k9.c5 (p_aGc rfl (fin _ ?_))) (fun c => p_gFc (ji := 6) rfl k9.c6 (p_aGc rfl (fin _ ?_)))))
  · rw [hdy]; unfold vdy; rw [if_pos c]
  · rw [hdy]; unfold vdy; rw [if_neg c]
end
