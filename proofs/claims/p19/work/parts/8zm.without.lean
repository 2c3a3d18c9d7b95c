section
/-! ===== the reference begins; without ===== -/
/-- what stands behind canTell -/
def RPB (S : SH) (P : Nat → List Row) (M m : Mem) : Prop := (K9 m ∧ RSH S m ∧ KNO S m ∧ RTP S P (mG M 138 0) m) ∧ (mG m 138 0 = mG M 138 0 ∧ tvb m = tvb M ∧ knR S m = knR S M) ∧ ∀ c j : Int, ¬ c = 126 → ¬ c = 152 → ¬ c = 153 → mG m c j = mG M c j
section
variable {S : SH} {P : Nat → List Row} {M : Mem}
theorem RPB.mk {m : Mem} (rf : RFB S P M) (k9 : K9 m) (sh : RSH S m) (g2 : ∀ c j : Int, ¬ c = 126 → ¬ c = 152 → ¬ c = 153 → mG m c j = mG M c j) : RPB S P M m := by
  obtain ⟨_, _, kn, h8, rt⟩ := rf
  have e138 : mG m 138 0 = mG M 138 0 := g2 138 0 (by decide) (by decide) (by decide)
  refine ⟨⟨k9, sh, ⟨by rw [g2 146 0 (by decide) (by decide) (by decide)]; exact kn.1, fun k hk => ?_⟩, fun s hs => ⟨⟨(g2 141 _ (by decide) (by decide) (by decide)).trans (rt s hs).1.1, fun i r hr => ((rt s hs).1.2 i r hr).kp (fun c c0 c1 => g2 c _ (by omega) (by omega) (by omega))⟩, (rt s hs).2⟩⟩, ⟨e138, ?_, ?_⟩, g2⟩
  · rw [g2 146 0 (by decide) (by decide) (by decide)] at hk
    rw [g2 147 _ (by decide) (by decide) (by decide), g2 148 _ (by decide) (by decide) (by decide)]
    exact kn.2 k hk
  · unfold tvb
    rw [g2 131 0 (by decide) (by decide) (by decide), g2 132 0 (by decide) (by decide) (by decide), e138, show mG m 139 = mG M 139 from funext (fun j => g2 139 j (by decide) (by decide) (by decide)), show mG m 140 = mG M 140 from funext (fun j => g2 140 j (by decide) (by decide) (by decide))]
  · funext p
    unfold knR
    rw [g2 131 0 (by decide) (by decide) (by decide), g2 132 0 (by decide) (by decide) (by decide), g2 146 0 (by decide) (by decide) (by decide), show mG m 147 = mG M 147 from funext (fun j => g2 147 j (by decide) (by decide) (by decide)), show mG m 148 = mG M 148 from funext (fun j => g2 148 j (by decide) (by decide) (by decide)), show mG m 149 = mG M 149 from funext (fun j => g2 149 j (by decide) (by decide) (by decide))]
/-- the same without what is left alone -/
def RPC (S : SH) (P : Nat → List Row) (M m : Mem) : Prop := (K9 m ∧ RSH S m ∧ KNO S m ∧ RTP S P (mG M 138 0) m) ∧ (mG m 138 0 = mG M 138 0 ∧ tvb m = tvb M ∧ knR S m = knR S M)
theorem RPB.c {m : Mem} (h : RPB S P M m) : RPC S P M m := ⟨h.1, h.2.1⟩
theorem RPC.go {m m' : Mem} (h : RPC S P M m) (k9 : K9 m') (sh : RSH S m') (g2 : ∀ c j : Int, 131 ≤ c → c ≤ 149 → mG m' c j = mG m c j) : RPC S P M m' := by
  obtain ⟨⟨_, _, kn, rt⟩, ⟨e1, e2, e3⟩⟩ := h
  have e138 : mG m' 138 0 = mG m 138 0 := g2 138 0 (by decide) (by decide)
  refine ⟨⟨k9, sh, ⟨by rw [g2 146 0 (by decide) (by decide)]; exact kn.1, fun k hk => ?_⟩, fun s hs => ⟨⟨(g2 141 _ (by decide) (by decide)).trans (rt s hs).1.1, fun i r hr => ((rt s hs).1.2 i r hr).kp (fun c c0 c1 => g2 c _ (by omega) (by omega))⟩, (rt s hs).2⟩⟩, ⟨e138.trans e1, ?_, ?_⟩⟩
  · rw [g2 146 0 (by decide) (by decide)] at hk
    rw [g2 147 _ (by decide) (by decide), g2 148 _ (by decide) (by decide)]
    exact kn.2 k hk
  · rw [← e2]
    unfold tvb
    rw [g2 131 0 (by decide) (by decide), g2 132 0 (by decide) (by decide), e138, show mG m' 139 = mG m 139 from funext (fun j => g2 139 j (by decide) (by decide)), show mG m' 140 = mG m 140 from funext (fun j => g2 140 j (by decide) (by decide))]
  · rw [← e3]
    funext p
    unfold knR
    rw [g2 131 0 (by decide) (by decide), g2 132 0 (by decide) (by decide), g2 146 0 (by decide) (by decide), show mG m' 147 = mG m 147 from funext (fun j => g2 147 j (by decide) (by decide)), show mG m' 148 = mG m 148 from funext (fun j => g2 148 j (by decide) (by decide)), show mG m' 149 = mG m 149 from funext (fun j => g2 149 j (by decide) (by decide))]
/-- canTell, from a state that the call has begun -/
theorem v_can {m1 : Mem} (ok : S.ok) (rf : RFB S P M) (k1 : K9 m1) (g1 : ∀ c j : Int, ¬ c = 126 → ¬ c = 152 → ¬ c = 153 → mG m1 c j = mG M c j) : pw (mX9_canTell 126 m1) (fun q => RPB S P M q.2 ∧ ((12 < S.nf ∧ q.1 = 0) ∨ (S.nf ≤ 12 ∧ q.1 = 1))) := by
  refine p_mono (v_canTell ok k1 (rf.2.1.kp (fun c j hc => g1 c j (by omega) (by omega) (by omega)))) (fun q y => ?_)
  obtain ⟨y1, y2, y3⟩ := y
  exact ⟨RPB.mk rf (k1.fn y2) y1 (fun c j x z w => (y2 c j z w).trans (g1 c j x z w)), y3⟩
theorem tvb_lt {K : Nat} (hK : mG M 138 0 = (K : Int)) : tvb M < 2 ^ K := by
  have := bitsOf_lt (vwf (vdy (mG M 131 0) (mG M 132 0)) (mG M 139) (mG M 140)) (mG M 138 0).toNat
  rw [hK, Int.toNat_natCast] at this
  unfold tvb
  rw [hK, Int.toNat_natCast]
  exact this
theorem v_prep {m : Mem} {n : Nat} (ok : S.ok) (hn : S.nf = (n : Int)) (n12 : n ≤ 12) (h8 : 0 ≤ mG M 138 0 ∧ mG M 138 0 ≤ 8) (h : RPB S P M m) : pw (mX9_prepare 126 m) (fun q => RWd S P (mG M 138 0) (tvb M) (knR S M) n q.2 ∧ ∀ c j : Int, ¬ (c = 126 ∧ (j = 48 ∨ j = 49 ∨ j = 50)) → mG q.2 c j = mG m c j) := by
  obtain ⟨⟨a1, a2, a3, a4⟩, ⟨e1, e2, e3⟩, _⟩ := h
  have := v_prepare (P := P) ok hn n12 a1 a2 a3 (by rw [e1]; exact h8) (by rw [e1]; exact a4)
  rw [e1, e2, e3] at this
  exact this
/-- counting goes on -/
theorem v_cnt {K n vw : Nat} {F : Int → Int} (ok : S.ok) (hn : S.nf = (n : Int)) (n12 : n ≤ 12) (hF : ∀ p, F p = -1 ∨ F p = 0 ∨ F p = 1) (hK : K ≤ 8) (hv : vw < 256) : ∀ (fu w : Nat) (m : Mem), w ≤ 2 ^ n → RWd S P (K : Int) vw F n m → pw (mX9_without_63 fu 126 ((ctn (WDr S P K vw F n) w : Nat) : Int) (w : Int) m) (fun q => q.1 = ((ctn (WDr S P K vw F n) (2 ^ n) : Nat) : Int)) := by
  have p12 : 2 ^ n ≤ 2 ^ 12 := Nat.pow_le_pow_right (n := 2) (by decide) n12
  intro fu
  induction fu with
  | zero => intro w m _ _; exact p_none
  | succ fu ih =>
    intro w m hw rw'
    show pw (bX9_without_63 (mX9_without_63 fu) 126 _ (w : Int) m) _
    unfold bX9_without_63
    refine p_gK (p_call (v_manyFacts ok rw'.1.1 rw'.1.2) (fun v m4 y => ?_))
    obtain ⟨y6, y7⟩ := y
    replace y6 : m4 = m := y6
    replace y7 : v = S.nf := y7
    subst y6
    rw [hn] at y7
    subst y7
    rw [ishl1 n (by omega), show (2 : Int) ^ n = ((2 ^ n : Nat) : Int) by simp]
    refine p_if (fun c => p_ret ?_) (fun c => ?_)
    · show _ = _
      rw [show w = 2 ^ n by omega]
    have cl := ctn_le (WDr S P K vw F n) w
    refine p_gK (p_call (v_isWorld (w := w) ok hn n12 (by omega) hF hK hv rw') (fun v m5 y => ?_))
    obtain ⟨y8, y9, _⟩ := y
    replace y8 : FI m4 m5 := y8
    replace y9 : v = b2i (WDr S P K vw F n w) := y9
    have go : ∀ x : Int, x = b2i (WDr S P K vw F n w) → pw (mX9_without_87 (mX9_without_63 fu) 126 (w : Int) ((ctn (WDr S P K vw F n) w : Nat) : Int) x m5) (fun q => q.1 = ((ctn (WDr S P K vw F n) (2 ^ n) : Nat) : Int)) := fun x hx => by
      unfold mX9_without_87
      have bb := b2i_b (WDr S P K vw F n w)
      rw [wI_s (p := w) (by omega), wI_id (x := ((ctn (WDr S P K vw F n) w : Nat) : Int) + x) (by omega) (by omega), hx, b2i_n, ← Int.natCast_add, ← ctn_s]
      exact ih (w + 1) m5 (by omega) (rw'.fi y8)
    refine p_if (fun c2 => go 0 (by omega)) (fun c2 => go 1 ?_)
    have := b2i_b (WDr S P K vw F n w)
    omega
theorem ixor_nn {a b : Nat} (ha : a < 1073741824) (hb : b < 1073741824) : ixor (a : Int) (b : Int) = ((a ^^^ b : Nat) : Int) := by
  unfold ixor
  have e : (Int32.ofInt (a : Int) ^^^ Int32.ofInt (b : Int)).toBitVec.toNat = a ^^^ b := by
    rw [Int32.toBitVec_xor, BitVec.toNat_xor, nonneg_bv (by omega) (by omega), nonneg_bv (by omega) (by omega), Int.toNat_natCast, Int.toNat_natCast]
  have h2 : a ^^^ b < 2 ^ 30 := Nat.xor_lt_two_pow ha hb
  rw [toInt_small _ (by rw [e]; omega), e]
/-- one story less -/
theorem v_without {l : Int} {n K : Nat} (ok : S.ok) (hn : S.nf = (n : Int)) (rf : RFB S P M) (hK : mG M 138 0 = (K : Int)) : pw (mX9_without 126 l M) (fun q => ((¬ (n ≤ 12 ∧ 0 ≤ l ∧ (tvb M).testBit l.toNat = true)) ∧ q.1 = -1) ∨ ((n ≤ 12 ∧ 0 ≤ l ∧ (tvb M).testBit l.toNat = true) ∧ q.1 = ((ctn (WDr S P K (tvb M ^^^ 2 ^ l.toNat) (knR S M) n) (2 ^ n) : Nat) : Int))) := by
  have h8 := rf.2.2.2.1
  have K8 : K ≤ 8 := by omega
  have vl := tvb_lt hK
  have p8 : 2 ^ K ≤ 2 ^ 8 := Nat.pow_le_pow_right (n := 2) (by decide) K8
  have hF : ∀ p, knR S M p = -1 ∨ knR S M p = 0 ∨ knR S M p = 1 := fun p => knf_rg _ _ _ _ _ _
  have inl : (tvb M).testBit l.toNat = true → l.toNat < K := fun h => by
    apply Classical.byContradiction
    intro h2
    have := Nat.testBit_lt_two_pow (Nat.lt_of_lt_of_le vl (Nat.pow_le_pow_right (n := 2) (by decide) (show K ≤ l.toNat by omega)))
    rw [h] at this
    cases this
  unfold mX9_without
  refine p_pF (ji := 0) rfl (fun m1 h1 => ?_)
  have g1 : ∀ c j : Int, ¬ c = 126 → mG m1 c j = mG M c j := fun c j x => st_ne h1 (fun w => x w.1)
  have k1 : K9 m1 := rf.1.kp (fun j hj => st_ne h1 (fun w => by omega))
  refine p_gFc (ji := 12) rfl k1.c12 (p_aGc ((g1 138 0 (by decide)).trans hK) ?_)
  rw [wI_id (x := (K : Int) - 1) (by omega) (by omega)]
  refine p_call w_in (fun v m2 y => ?_)
  obtain ⟨e, y⟩ := y
  replace e : m2 = m1 := e
  subst e
  rcases y with ⟨c1, hv⟩ | ⟨c1, hv⟩
  · replace hv : v = 1 := hv
    refine p_it0 (show ¬ v = 0 by omega) (p_gK (p_call (v_can ok rf k1 (fun c j x _ _ => g1 c j x)) (fun v m3 y => ?_)))
    obtain ⟨rb, y⟩ := y
    rcases y with ⟨z1, z2⟩ | ⟨z1, z2⟩
    · exact p_it1 z2 (p_ret (Or.inl ⟨fun w => by omega, rfl⟩))
    replace z2 : v = 1 := z2
    have n12 : n ≤ 12 := by omega
    refine p_it0 (show ¬ v = 0 by omega) (p_gK (p_call (v_prep ok hn n12 h8 rb) (fun v m4 y => ?_)))
    obtain ⟨rw', _⟩ := y
    rw [hK] at rw'
    replace rw' : RWd S P (K : Int) (tvb M) (knR S M) n m4 := rw'
    obtain ⟨x, rfl⟩ := Int.eq_ofNat_of_zero_le c1.1
    have xK : x < K := by omega
    rw [Int.toNat_natCast] at *
    refine p_gFc (ji := 48) rfl rw'.2.1.2.1 (p_if (fun c2 => p_ret (Or.inl ⟨fun w => ?_, rfl⟩)) (fun c2 => ?_))
    · have := (ibit (by omega) (by omega)).mp c2
      rw [this] at w
      exact absurd w.2.2 (by decide)
    have tb : (tvb M).testBit x = true := by
      cases e : (tvb M).testBit x with
      | true => rfl
      | false => exact absurd ((ibit (by omega) (by omega)).mpr e) c2
    have px : 2 ^ x ≤ 2 ^ 7 := Nat.pow_le_pow_right (n := 2) (by decide) (by omega)
    refine p_gFc (ji := 48) rfl rw'.2.1.2.1 (p_pF (ji := 48) rfl (fun m5 h5 => ?_))
    rw [ishl1 x (by omega), show (2 : Int) ^ x = ((2 ^ x : Nat) : Int) by simp, ixor_nn (by omega) (by omega)] at h5
    have g5 : ∀ c j : Int, ¬ (c = 126 ∧ j = 48) → mG m5 c j = mG m4 c j := fun c j w => st_ne h5 w
    have g6 : ∀ c j : Int, ¬ c = 126 → mG m5 c j = mG m4 c j := fun c j w => g5 c j (fun y => w y.1)
    have xl : tvb M ^^^ 2 ^ x < 256 := Nat.xor_lt_two_pow (n := 8) (by omega) (by omega)
    obtain ⟨⟨ka, kb⟩, ⟨kc, _, ke, kf⟩, kg⟩ := rw'
    have rw5 : RWd S P (K : Int) (tvb M ^^^ 2 ^ x) (knR S M) n m5 :=
      ⟨⟨ka.kp (fun j hj => g5 126 j (fun w => by omega)), kb.kp (fun c j hc => g6 c j (by omega))⟩, ⟨(g6 138 0 (by decide)).trans kc, st_eq h5, (g5 126 49 (by decide)).trans ke, (g5 126 50 (by decide)).trans kf⟩, fun s hs => ⟨⟨(g6 141 _ (by decide)).trans (kg s hs).1.1, fun i r hr => ((kg s hs).1.2 i r hr).kp (fun c c0 c1 => g6 c _ (by omega))⟩, (kg s hs).2⟩⟩
    exact p_mono (v_cnt ok hn n12 hF K8 xl FU 0 m5 (Nat.zero_le _) rw5) (fun q z => Or.inr ⟨⟨n12, c1.1, tb⟩, z⟩)
  · replace hv : v = 0 := hv
    refine p_it1 hv (p_ret (Or.inl ⟨fun w => ?_, rfl⟩))
    have := inl w.2.2
    exact c1 ⟨w.2.1, by omega⟩
end
section
variable {M : Mem}
theorem hs_val {l : Int} : pw (mX6_hasStory 3 l M) (fun q => q.2 = M ∧ ((0 ≤ l ∧ l < mG M 3 11 ∧ q.1 = 1) ∨ (¬ (0 ≤ l ∧ l < mG M 3 11) ∧ q.1 = 0))) := by
  unfold mX6_hasStory
  exact p_if (fun c => p_ret ⟨rfl, Or.inr ⟨fun w => by omega, rfl⟩⟩) (fun c => p_gF (ji := 11) rfl (fun v hv => p_if (fun c2 => p_ret ⟨rfl, Or.inr ⟨fun w => by omega, rfl⟩⟩) (fun c2 => p_ret ⟨rfl, Or.inl ⟨by omega, by omega, rfl⟩⟩)))
theorem q_without {l : Int} {n : Nat} {P : Nat → List Row} {vw : Nat} {F : Int → Int} (ok : (shp M).ok) (hn : (shp M).nf = (n : Int)) (k2 : K2 M) (tp : TXP (shp M) P M) (h1 : mG M 1 0 = 2) (h11 : 0 ≤ mG M 3 11 ∧ mG M 3 11 ≤ 8) (hv : vw = vwb M) (hl : pw (mX4_lookUp 2 M) (fun q => (12 < n ∧ q.1 = 0 ∧ q.2 = M) ∨ (n ≤ 12 ∧ q.1 = 1 ∧ LK (shp M) P vw F M q.2))) : pw (mX8_without 1 l M) (fun q => (∀ c j : Int, 65 ≤ c → mG q.2 c j = mG M c j) ∧ (((¬ (n ≤ 12 ∧ 0 ≤ l ∧ vw.testBit l.toNat = true)) ∧ q.1 = -1) ∨ ((n ≤ 12 ∧ 0 ≤ l ∧ vw.testBit l.toNat = true) ∧ q.1 = ((ctn (fun w => PKq (n : Int) F n w && allb (stw (shp M) P (vw ^^^ 2 ^ l.toNat) w) 8) (2 ^ n) : Nat) : Int)))) := by
  have nf := ok.nf
  obtain ⟨Q, hQ⟩ : ∃ Q : Int × Mem → Prop, Q = fun q => (∀ c j : Int, 65 ≤ c → mG q.2 c j = mG M c j) ∧ (((¬ (n ≤ 12 ∧ 0 ≤ l ∧ vw.testBit l.toNat = true)) ∧ q.1 = -1) ∨ ((n ≤ 12 ∧ 0 ≤ l ∧ vw.testBit l.toNat = true) ∧ q.1 = ((ctn (fun w => PKq (n : Int) F n w && allb (stw (shp M) P (vw ^^^ 2 ^ l.toNat) w) 8) (2 ^ n) : Nat) : Int))) := ⟨_, rfl⟩
  rw [← hQ]
  have vlt : vw < 2 ^ (mG M 3 11).toNat := by rw [hv]; exact bitsOf_lt _ _
  have v8 : vw < 256 := Nat.lt_of_lt_of_le vlt (Nat.pow_le_pow_right (n := 2) (by decide) (show (mG M 3 11).toNat ≤ 8 by omega))
  have inl : ∀ s : Nat, vw.testBit s = true → (s : Int) < mG M 3 11 := fun s h => by
    have : s < (mG M 3 11).toNat := by
      apply Classical.byContradiction
      intro h2
      have := Nat.testBit_lt_two_pow (Nat.lt_of_lt_of_le vlt (Nat.pow_le_pow_right (n := 2) (by decide) (show (mG M 3 11).toNat ≤ s by omega)))
      rw [h] at this
      cases this
    omega
  have none : ¬ (0 ≤ l ∧ vw.testBit l.toNat = true) → ∀ m, m = M → pw (some (((-1) : Int), m)) Q := fun h m e => by
    subst e
    rw [hQ]
    exact p_ret ⟨fun _ _ _ => rfl, Or.inl ⟨fun w => h w.2, rfl⟩⟩
  unfold mX8_without
  refine p_gFc (ji := 0) rfl h1 (p_gK (p_call (P := Q) ?_ (fun v m y => p_ret y)))
  unfold mX4_countWithout
  refine p_gFc (ji := 0) rfl k2.c2_0 (p_gK (p_call (q_viewed k2 h11) (fun v m y => ?_)))
  obtain ⟨y1, y2⟩ := y
  replace y1 : m = M := y1
  replace y2 : v = ((vwb M : Nat) : Int) := y2
  subst y1
  rw [← hv] at y2
  subst y2
  refine p_gFc (ji := 0) rfl k2.c2_0 (p_gK (p_call (hs_val (l := l)) (fun r m2 y => ?_)))
  obtain ⟨y3, y4⟩ := y
  replace y3 : m2 = m := y3
  subst y3
  rcases y4 with ⟨l0, l1, e⟩ | ⟨z, e⟩
  · replace e : r = 1 := e
    obtain ⟨x, rfl⟩ := Int.eq_ofNat_of_zero_le l0
    replace l1 : (x : Int) < mG m2 3 11 := l1
    refine p_it0 (show ¬ r = 0 by omega) (p_if (fun c => ?_) (fun c => ?_))
    · have f := (ibit (x := vw) (k := x) (by omega) (by omega)).mp c
      unfold mX4_countWithout_31 mX4_countWithout_32
      refine p_it1 rfl (none (fun w => ?_) m2 rfl)
      rw [Int.toNat_natCast, f] at w
      exact absurd w.2 (by decide)
    have tb : vw.testBit x = true := by
      cases e : vw.testBit x with
      | true => rfl
      | false => exact absurd ((ibit (x := vw) (k := x) (by omega) (by omega)).mpr e) c
    have x8 : x < 8 := by have := inl x tb; omega
    unfold mX4_countWithout_32
    refine p_it0 z_1 (p_gK (p_call hl (fun v m3 y => ?_)))
    rcases y with ⟨a, b, c⟩ | ⟨a, b, c⟩
    · replace c : m3 = m2 := c
      subst c
      refine p_it1 b (p_ret ?_)
      rw [hQ]
      exact ⟨fun _ _ _ => rfl, Or.inl ⟨fun w => by omega, rfl⟩⟩
    replace b : v = 1 := b
    obtain ⟨w32, _, ca, hj, fl⟩ := c
    replace w32 : WS 32 (shp m2).nf (PKq (shp m2).nf F (shp m2).nf.toNat) m3 := w32
    rw [hn, Int.toNat_natCast] at w32
    have k3 := k2.fl fl
    have tp3 := tp.fl fl
    refine p_it0 (show ¬ v = 0 by omega) (p_gFc (ji := 7) rfl k3.c2_7 (p_gFc (ji := 5) rfl k3.c2_5 (p_gK (p_call (q_copy (l := 36) (l1 := 32) ⟨by omega, by omega⟩ k3.c36_0 w32 ⟨by decide, by decide, by decide⟩) (fun _ m4 y => ?_)))))
    obtain ⟨y5, y6⟩ := y
    replace y5 : WS 36 (n : Int) (PKq (n : Int) F n) m4 := y5
    replace y6 : FW 36 m3 m4 := y6
    have loop : ∀ (fu k : Nat) (m5 : Mem), k ≤ 8 → (∀ c j : Int, ¬ c = 37 → ¬ (c = 36 ∧ (j = 1 ∨ j = 2)) → mG m5 c j = mG m3 c j) → WS 36 (n : Int) (fun w => PKq (n : Int) F n w && allb (stw (shp m2) P (vw ^^^ 2 ^ x) w) k) m5 → pw (mX4_countWithout_60 fu 2 (x : Int) (vw : Int) (k : Int) m5) Q := by
      intro fu
      induction fu with
      | zero => intro k m5 _ _ _; exact p_none
      | succ fu ih =>
        intro k m5 hk g ws
        show pw (bX4_countWithout_60 (mX4_countWithout_60 fu) 2 (x : Int) (vw : Int) (k : Int) m5) _
        have k5 : K2 m5 := k3.kp (fun y hy => by
          have c := cst_out y hy
          exact g _ _ (fun e => by omega) (fun e => by omega))
        unfold bX4_countWithout_60
        refine p_if (fun c => ?_) (fun c => ?_)
        · have e8 : k = 8 := by omega
          subst e8
          refine p_gFc (ji := 7) rfl k5.c2_7 (p_gK (p_call (q_count (l := 36) ⟨by omega, by omega⟩ ws) (fun r m6 y => p_ret ?_)))
          obtain ⟨z1, z2⟩ := y
          replace z1 : m6 = m5 := z1
          subst z1
          rw [hQ]
          refine ⟨fun c j hc => (g c j (by omega) (by omega)).trans (fl c j (nq_0 (by omega))), Or.inr ⟨⟨a, l0, by rw [Int.toNat_natCast]; exact tb⟩, ?_⟩⟩
          rw [Int.toNat_natCast]
          refine (show r = _ from z2).trans ?_
          rw [ctn_uw a (fun w hw => by unfold PKq; rw [Int.toNat_natCast, decide_eq_false hw]; rfl)]
        have go : ∀ m6, (∀ c j : Int, ¬ c = 37 → ¬ (c = 36 ∧ (j = 1 ∨ j = 2)) → mG m6 c j = mG m3 c j) → WS 36 (n : Int) (fun w => PKq (n : Int) F n w && allb (stw (shp m2) P (vw ^^^ 2 ^ x) w) (k + 1)) m6 → pw (mX4_countWithout_96 (mX4_countWithout_60 fu) 2 (x : Int) (vw : Int) (k : Int) m6) Q := fun m6 g6 w6 => by
          unfold mX4_countWithout_96
          rw [wI_s (p := k) (by omega)]
          exact ih (k + 1) m6 (by omega) g6 w6
        have bitx : (vw ^^^ 2 ^ x).testBit k = (vw.testBit k ^^ decide (x = k)) := by
          rw [Nat.testBit_xor]
          by_cases e : x = k
          · rw [e, Nat.testBit_two_pow_self, decide_eq_true rfl]
          · rw [Nat.testBit_two_pow_of_ne e, decide_eq_false e]
        have skip : (vw ^^^ 2 ^ x).testBit k = false → pw (mX4_countWithout_96 (mX4_countWithout_60 fu) 2 (x : Int) (vw : Int) (k : Int) m5) Q := fun f => go m5 g (ws.ext (fun w _ => by
          show (_ && allb _ k) = (_ && (allb _ k && stw (shp m2) P (vw ^^^ 2 ^ x) w k))
          have : stw (shp m2) P (vw ^^^ 2 ^ x) w k = true := by unfold stw; rw [f]; rfl
          rw [this, Bool.and_true]))
        refine p_if (fun c1 => skip ?_) (fun c1 => p_if (fun c2 => skip ?_) (fun c2 => ?_))
        · have e : x = k := by omega
          rw [bitx, decide_eq_true e, ← e, tb]; rfl
        · rw [bitx, (ibit (by omega) (by omega)).mp c2, decide_eq_false (by omega)]; rfl
        have tk : vw.testBit k = true := by
          cases e : vw.testBit k with
          | true => rfl
          | false => exact absurd ((ibit (by omega) (by omega)).mpr e) c2
        have hin : (k : Int) < mG m3 3 11 := by rw [fl 3 11 (nq_0 (by omega))]; exact inl k tk
        have es : shp m3 = shp m2 := shp_go (fun b j x => fl b j (nq_0 (by omega)))
        obtain ⟨t1, t2, t3⟩ := tp3 k hin
        have cs := (ca.2 k (by omega) (hj k (by omega) tk)).2.2.2 (P k) (by unfold txs; rw [if_neg (by omega)]; exact t2) t3
        rw [hn] at cs
        refine p_gFc (ji := 7) rfl k5.c2_7 (p_gFc (ji := 3) rfl k5.c2_3 (p_aGc (k5.ws (s := k) (by omega)).1 (p_gK (p_call (q_keepOnly (l := 36) (l1 := 47 + 2 * (k : Int)) ⟨by omega, by omega⟩ ws (cs.kp (fun j => g _ j (by omega) (by omega)) (fun j => g _ j (by omega) (by omega))) ⟨by omega, by omega⟩) (fun _ m6 y => ?_)))))
        obtain ⟨z1, z2⟩ := y
        replace z2 : FX 37 m5 m6 := z2
        refine go m6 (fun c j u v => (z2 c j u).trans (g c j u v)) (WS.ext z1 (fun w _ => ?_))
        show ((_ && allb _ k) && _) = (_ && (allb _ k && stw (shp m2) P (vw ^^^ 2 ^ x) w k))
        have : stw (shp m2) P (vw ^^^ 2 ^ x) w k = TMw (shp m2) (P k) w := by unfold stw; rw [bitx, tk, decide_eq_false (by omega)]; rfl
        rw [this, Bool.and_assoc]
    refine loop FU 0 m4 (by omega) (fun c j u v => y6 c j u v) (y5.ext (fun w _ => ?_))
    show _ = (_ && true)
    rw [Bool.and_true]
  · replace e : r = 0 := e
    replace z : ¬ (0 ≤ l ∧ l < mG m2 3 11) := z
    refine p_it1 e ?_
    unfold mX4_countWithout_31 mX4_countWithout_32
    refine p_it1 rfl (none (fun w => ?_) m2 rfl)
    have := inl _ w.2
    exact z ⟨w.1, by omega⟩
theorem eq_without {l : Int} (h : J3 M) : pw (mX8_without 1 l M) (fun q1 => pw (mX9_without 126 l q1.2) (fun q2 => EQ q1 q2)) := by
  have h11 := rd_Told_11 h.1.1.1 (a := 3) rfl
  obtain ⟨P, n, ok, hn, k2, sh, tp, rf, ve, vlt, h1, hl⟩ := look h
  refine p_mono (q_without (l := l) ok hn k2 tp h1.1 h11 rfl hl) (fun q1 y => ?_)
  obtain ⟨g, y⟩ := y
  obtain ⟨rf2, e1, e2, e3⟩ := rf.f9 (M' := q1.2) (fun c j c0 _ => g c j (by omega))
  obtain ⟨K, hK⟩ := Int.eq_ofNat_of_zero_le rf.2.2.2.1.1
  have h8 := rf.2.2.2.1
  refine p_mono (v_without (l := l) ok hn rf2 (e3.trans hK)) (fun q2 z => ?_)
  rw [e1, e2, ve] at z
  show q1.1 = q2.1
  rcases y with ⟨a, b⟩ | ⟨a, b⟩
  · rcases z with ⟨c, d⟩ | ⟨c, d⟩
    · rw [b, d]
    · exact absurd c a
  · rcases z with ⟨c, d⟩ | ⟨c, d⟩
    · exact absurd a c
    · rw [b, d]
      rw [hK, Int.toNat_natCast] at vlt
      have xk : l.toNat < K := by
        apply Classical.byContradiction
        intro h2
        have := Nat.testBit_lt_two_pow (Nat.lt_of_lt_of_le vlt (Nat.pow_le_pow_right (n := 2) (by decide) (show K ≤ l.toNat by omega)))
        rw [a.2.2] at this
        cases this
      have xl : vwb M ^^^ 2 ^ l.toNat < 2 ^ K := Nat.xor_lt_two_pow vlt (Nat.pow_lt_pow_right (by decide) xk)
      rw [ctn_congr _ (fun w hw => ?_)]
      rw [← wd_eq hn xl (by omega) hw]
      unfold WDw
      rw [hn, Int.toNat_natCast]
end
end
section
/-! ===== in how many worlds facts are so ===== -/
def FC (M M' : Mem) : Prop := ∀ c j : Int, ¬ (c = 126 ∧ (j = 46 ∨ j = 57)) → ¬ c = 154 → ¬ c = 160 → ¬ c = 161 → ¬ c = 164 → mG M' c j = mG M c j
theorem FC.rf {M : Mem} : FC M M := fun _ _ _ _ _ _ _ => rfl
theorem FC.tr {M M' M'' : Mem} (h : FC M M') (k : FC M' M'') : FC M M'' := fun c j x y z w u => (k c j x y z w u).trans (h c j x y z w u)
theorem FI.fc {M M' : Mem} (h : FI M M') : FC M M' := fun c j x y z w _ => h c j (fun e => x ⟨e.1, Or.inl e.2⟩) y z w
/-- in how many worlds a fact is so -/
def cfa (f : Nat → Bool) (n p : Nat) : Nat := ctn (fun w => f w && phw (n : Int) w (p : Int)) (2 ^ n)
section
variable {S : SH} {P : Nat → List Row} {M : Mem}
theorem RWd.fc {K : Int} {vw n : Nat} {F : Int → Int} {M' : Mem} (h : RWd S P K vw F n M) (k : FC M M') : RWd S P K vw F n M' := by
  obtain ⟨⟨ka, kb⟩, ⟨kc, kd, ke, kf⟩, kg⟩ := h
  have g6 : ∀ c j : Int, ¬ c = 126 → ¬ c = 154 → ¬ c = 160 → ¬ c = 161 → ¬ c = 164 → mG M' c j = mG M c j := fun c j a b d e f => k c j (fun y => a y.1) b d e f
  have g5 : ∀ j : Int, ¬ (j = 46 ∨ j = 57) → mG M' 126 j = mG M 126 j := fun j hj => k 126 j (fun y => hj y.2) (by decide) (by decide) (by decide) (by decide)
  exact ⟨⟨ka.kp (fun j hj => g5 j (by omega)), kb.kp (fun c j hc => g6 c j (by omega) (by omega) (by omega) (by omega) (by omega))⟩, ⟨(g6 138 0 (by decide) (by decide) (by decide) (by decide) (by decide)).trans kc, (g5 48 (by decide)).trans kd, (g5 49 (by decide)).trans ke, (g5 50 (by decide)).trans kf⟩, fun s hs => ⟨⟨(g6 141 _ (by decide) (by decide) (by decide) (by decide) (by decide)).trans (kg s hs).1.1, fun i r hr => ((kg s hs).1.2 i r hr).kp (fun c c0 c1 => g6 c _ (by omega) (by omega) (by omega) (by omega) (by omega))⟩, (kg s hs).2⟩⟩
/-- the counts are right -/
def CNT (WD : Nat → Bool) (n w : Nat) (m : Mem) : Prop := mG m 126 57 = ((ctn WD w : Nat) : Int) ∧ ∀ f : Nat, f < n → mG m 164 (f : Int) = ((ctn (fun u => WD u && phw (n : Int) u (f : Int)) w : Nat) : Int)
theorem v_countFacts {m : Mem} {n K : Nat} (ok : S.ok) (hn : S.nf = (n : Int)) (n12 : n ≤ 12) (h8 : 0 ≤ mG M 138 0 ∧ mG M 138 0 ≤ 8) (hK : mG M 138 0 = (K : Int)) (rb : RPB S P M m) : pw (mX9_countFacts 126 m) (fun q => CNT (WDr S P K (tvb M) (knR S M) n) n (2 ^ n) q.2 ∧ K9 q.2 ∧ RSH S q.2 ∧ ∀ c j : Int, 131 ≤ c → c ≤ 149 → mG q.2 c j = mG m c j) := by
  have hF : ∀ p, knR S M p = -1 ∨ knR S M p = 0 ∨ knR S M p = 1 := fun p => knf_rg _ _ _ _ _ _
  have K8 : K ≤ 8 := by omega
  have vl := tvb_lt hK
  have p8 : 2 ^ K ≤ 2 ^ 8 := Nat.pow_le_pow_right (n := 2) (by decide) K8
  have p12 : 2 ^ n ≤ 2 ^ 12 := Nat.pow_le_pow_right (n := 2) (by decide) n12
  obtain ⟨WD, hWD⟩ : ∃ WD, WD = WDr S P K (tvb M) (knR S M) n := ⟨_, rfl⟩
  rw [← hWD]
  obtain ⟨Q, hQ⟩ : ∃ Q : Int × Mem → Prop, Q = fun q => CNT WD n (2 ^ n) q.2 ∧ K9 q.2 ∧ RSH S q.2 ∧ ∀ c j : Int, 131 ≤ c → c ≤ 149 → mG q.2 c j = mG m c j := ⟨_, rfl⟩
  rw [← hQ]
  have l32 : ∀ (fu w : Nat) (m1 : Mem), w ≤ 2 ^ n → RWd S P (K : Int) (tvb M) (knR S M) n m1 → CNT WD n w m1 → (∀ c j : Int, 131 ≤ c → c ≤ 149 → mG m1 c j = mG m c j) → pw (mX9_countFacts_32 fu 126 (w : Int) m1) Q := by
    intro fu
    induction fu with
    | zero => intro w m1 _ _ _ _; exact p_none
    | succ fu ih =>
      intro w m1 hw rw' ct fg
      show pw (bX9_countFacts_32 (mX9_countFacts_32 fu) 126 (w : Int) m1) _
      unfold bX9_countFacts_32
      refine p_gK (p_call (v_manyFacts ok rw'.1.1 rw'.1.2) (fun v m4 y => ?_))
      obtain ⟨y6, y7⟩ := y
      replace y6 : m4 = m1 := y6
      replace y7 : v = S.nf := y7
      subst y6
      rw [hn] at y7
      subst y7
      rw [ishl1 n (by omega), show (2 : Int) ^ n = ((2 ^ n : Nat) : Int) by simp]
      refine p_if (fun c => p_ret ?_) (fun c => ?_)
      · rw [show w = 2 ^ n by omega] at ct
        rw [hQ]
        exact ⟨ct, rw'.1.1, rw'.1.2, fg⟩
      have w1 : w < 2 ^ n := by omega
      have cl := ctn_le WD w
      refine p_gK (p_call (v_isWorld (w := w) ok hn n12 w1 hF K8 (by omega) rw') (fun v m5 y => ?_))
      obtain ⟨y8, y9, y10⟩ := y
      replace y8 : FI m4 m5 := y8
      replace y9 : v = b2i (WDr S P K (tvb M) (knR S M) n w) := y9
      replace y10 : v = 1 → LW S (phw S.nf w) m5 := y10
      rw [← hWD] at y9
      have e57 : mG m5 126 57 = ((ctn WD w : Nat) : Int) := (y8 126 57 (by decide) (by decide) (by decide) (by decide)).trans ct.1
      have e164 : ∀ j : Int, mG m5 164 j = mG m4 164 j := fun j => y8 164 j (fun w => absurd w.1 (by decide)) (by decide) (by decide) (by decide)
      have r5 := rw'.fi y8
      have fg5 : ∀ c j : Int, 131 ≤ c → c ≤ 149 → mG m5 c j = mG m c j := fun c j c0 c1 => (y8 c j (fun w => by omega) (by omega) (by omega) (by omega)).trans (fg c j c0 c1)
      refine p_if (fun c2 => ?_) (fun c2 => ?_)
      · have wf : WD w = false := b2i_0.mp (y9.symm.trans c2)
        unfold mX9_countFacts_99
        rw [wI_s (p := w) (by omega)]
        refine ih (w + 1) m5 (by omega) r5 ⟨?_, fun f hf => ?_⟩ fg5
        · rw [e57, ctn_s, wf]; rfl
        · rw [e164, ct.2 f hf, ctn_s, wf]; rfl
      · have wt : WD w = true := by
          cases e : WD w with
          | true => rfl
          | false => rw [e] at y9; exact absurd y9 c2
        have lw := y10 (by rw [y9, wt]; rfl)
        refine p_gFc (ji := 57) rfl e57 (p_pF (ji := 57) rfl (fun m6 h6 => ?_))
        rw [wI_id (x := ((ctn WD w : Nat) : Int) + 1) (by omega) (by omega)] at h6
        have f6 : FC m5 m6 := fun c j x _ _ _ _ => st_ne h6 (fun w => x ⟨w.1, Or.inr w.2⟩)
        have l62 : ∀ (fu2 f : Nat) (m7 : Mem), f ≤ n → FC m5 m7 → mG m7 126 57 = ((ctn WD (w + 1) : Nat) : Int) → LW S (phw S.nf w) m7 → (∀ x : Nat, x < n → mG m7 164 (x : Int) = ((ctn (fun u => WD u && phw (n : Int) u (x : Int)) (if x < f then w + 1 else w) : Nat) : Int)) → pw (mX9_countFacts_62 (mX9_countFacts_32 fu) fu2 126 (w : Int) (f : Int) m7) Q := by
          intro fu2
          induction fu2 with
          | zero => intro f m7 _ _ _ _ _; exact p_none
          | succ fu2 ih2 =>
            intro f m7 hf fr e7 lw7 hx
            show pw (bX9_countFacts_62 (mX9_countFacts_32 fu) (mX9_countFacts_62 (mX9_countFacts_32 fu) fu2) 126 (w : Int) (f : Int) m7) _
            have r7 := r5.fc fr
            unfold bX9_countFacts_62
            refine p_gK (p_call (v_manyFacts ok r7.1.1 r7.1.2) (fun v m8 y => ?_))
            obtain ⟨z6, z7⟩ := y
            replace z6 : m8 = m7 := z6
            replace z7 : v = S.nf := z7
            subst z6
            rw [hn] at z7
            subst z7
            refine p_if (fun c3 => ?_) (fun c3 => ?_)
            · have e : f = n := by omega
              unfold mX9_countFacts_99
              rw [wI_s (p := w) (by omega)]
              refine ih (w + 1) m8 (by omega) r7 ⟨e7, fun x hx2 => ?_⟩ (fun c j c0 c1 => (fr c j (fun w => by omega) (by omega) (by omega) (by omega) (by omega)).trans (fg5 c j c0 c1))
              rw [hx x hx2, if_pos (by omega)]
            · have f1 : f < n := by omega
              have hxf := hx f f1
              rw [if_neg (Nat.lt_irrefl f)] at hxf
              have cb := ctn_le (fun u => WD u && phw (n : Int) u (f : Int)) w
              have ph := lw7 (f : Int) (by omega) (by omega)
              rw [hn] at ph
              refine p_gFc (ji := 56) rfl r7.1.1.c56 (p_aGc hxf (p_gFc (ji := 28) rfl r7.1.1.c28 (p_aGc ph ?_)))
              have go : ∀ x : Int, x = b2i (phw (n : Int) w (f : Int)) → pw (mX9_countFacts_91 (mX9_countFacts_32 fu) (mX9_countFacts_62 (mX9_countFacts_32 fu) fu2) 126 (w : Int) (f : Int) 164 (f : Int) ((ctn (fun u => WD u && phw (n : Int) u (f : Int)) w : Nat) : Int) x m8) Q := fun x hxx => by
                unfold mX9_countFacts_91
                have bb := b2i_b (phw (n : Int) w (f : Int))
                refine p_aS (fun m9 h9 => ?_)
                rw [wI_id (x := ((ctn (fun u => WD u && phw (n : Int) u (f : Int)) w : Nat) : Int) + x) (by omega) (by omega)] at h9
                rw [wI_s (p := f) (by omega)]
                have f9 : FC m8 m9 := fun c j _ _ _ _ z => st_ne h9 (fun w => z w.1)
                refine ih2 (f + 1) m9 (by omega) (fr.tr f9) ((st_ne h9 (fun w => absurd w.1 (by decide))).trans e7) (fun y y0 y1 => (st_ne h9 (fun w => absurd w.1 (by decide))).trans (lw7 y y0 y1)) (fun y hy => ?_)
                by_cases e : y = f
                · rw [e, st_eq h9, if_pos (by omega), ctn_s, hxx, b2i_n, wt, Bool.true_and]; rfl
                · rw [st_ne h9 (fun w => e (by have := w.2; omega)), hx y hy]
                  by_cases c4 : y < f
                  · rw [if_pos c4, if_pos (by omega)]
                  · rw [if_neg c4, if_neg (by omega)]
              refine p_if (fun c4 => go 0 c4.symm) (fun c4 => go 1 ?_)
              have := b2i_b (phw (n : Int) w (f : Int))
              omega
        refine l62 FU 0 m6 (Nat.zero_le _) f6 ?_ (fun y y0 y1 => (st_ne h6 (fun w => absurd w.1 (by decide))).trans (lw y y0 y1)) (fun x hx => ?_)
        · rw [st_eq h6, ctn_s, wt]; rfl
        · rw [if_neg (by omega), st_ne h6 (fun w => absurd w.1 (by decide)), e164]
          exact ct.2 x hx
  unfold mX9_countFacts
  refine p_gK (p_call (v_prep ok hn n12 h8 rb) (fun v m1 y => ?_))
  obtain ⟨rw', yg⟩ := y
  rw [hK] at rw'
  replace rw' : RWd S P (K : Int) (tvb M) (knR S M) n m1 := rw'
  replace yg : ∀ c j : Int, ¬ (c = 126 ∧ (j = 48 ∨ j = 49 ∨ j = 50)) → mG m1 c j = mG m c j := yg
  refine p_pF (ji := 57) rfl (fun m2 h2 => ?_)
  have f2 : FC m1 m2 := fun c j x _ _ _ _ => st_ne h2 (fun w => x ⟨w.1, Or.inr w.2⟩)
  have l11 : ∀ (fu f : Nat) (m3 : Mem), f ≤ 12 → FC m1 m3 → mG m3 126 57 = 0 → (∀ x : Nat, x < f → mG m3 164 (x : Int) = 0) → pw (mX9_countFacts_11 fu 126 (f : Int) m3) Q := by
    intro fu
    induction fu with
    | zero => intro f m3 _ _ _ _; exact p_none
    | succ fu ih =>
      intro f m3 hf fr e57 hx
      show pw (bX9_countFacts_11 (mX9_countFacts_11 fu) 126 (f : Int) m3) _
      unfold bX9_countFacts_11
      refine p_if (fun c => ?_) (fun c => ?_)
      · exact l32 FU 0 m3 (Nat.zero_le _) (rw'.fc fr) ⟨e57, fun x hx2 => hx x (by omega)⟩ (fun c j c0 c1 => (fr c j (fun w => by omega) (by omega) (by omega) (by omega) (by omega)).trans (yg c j (fun w => by omega)))
      · refine p_gFc (ji := 56) rfl (rw'.fc fr).1.1.c56 (p_aS (fun m4 h4 => ?_))
        rw [wI_s (p := f) (by omega)]
        refine ih (f + 1) m4 (by omega) (fr.tr (fun c j _ _ _ _ z => st_ne h4 (fun w => z w.1))) ((st_ne h4 (fun w => absurd w.1 (by decide))).trans e57) (fun x hx2 => ?_)
        by_cases e : x = f
        · rw [e]; exact st_eq h4
        · rw [st_ne h4 (fun w => e (by have := w.2; omega))]
          exact hx x (by omega)
  exact l11 FU 0 m2 (Nat.zero_le _) f2 (st_eq h2) (fun x hx => absurd hx (by omega))
/-- a fact that is named -/
theorem v_toldFact {m1 : Mem} {a b c : Int} (ok : S.ok) (k1 : K9 m1) (rst : RST S m1) : pw (mX9_toldFact 126 a b c m1) (fun q => (K9 q.2 ∧ RSH S q.2) ∧ FN m1 q.2 ∧ (((0 ≤ a ∧ a < S.nr) ∧ S.inr a b c ∧ q.1 = S.at' a b c) ∨ (¬ ((0 ≤ a ∧ a < S.nr) ∧ S.inr a b c) ∧ q.1 = -1))) := by
  have n4 := ok.2.1
  unfold mX9_toldFact
  refine p_gK (p_call (v_bringSizes ok k1 rst) (fun v m2 y => ?_))
  obtain ⟨y1, y2⟩ := y
  replace y1 : RSH S m2 := y1
  replace y2 : FN m1 m2 := y2
  have k2 := k1.fn y2
  refine p_gK (p_call (P := fun q => q.2 = m2 ∧ ((0 ≤ a ∧ a < S.nr) ∧ q.1 = 1 ∨ ¬ (0 ≤ a ∧ a < S.nr) ∧ q.1 = 0)) ?_ (fun v m3 y => ?_))
  · unfold mX9_isRelation
    refine p_gFc (ji := 8) rfl k2.c8 (p_aGc y1.2.1.1 ?_)
    rw [wI_id (x := S.nr - 1) (by omega) (by omega)]
    refine p_call w_in (fun v m3 y => p_zR (fun _ => p_ret ?_))
    obtain ⟨e, y⟩ := y
    refine ⟨e, ?_⟩
    rcases y with ⟨w, z⟩ | ⟨w, z⟩
    · exact Or.inl ⟨by omega, z⟩
    · exact Or.inr ⟨by omega, z⟩
  · obtain ⟨e, y⟩ := y
    replace e : m3 = m2 := e
    subst e
    rcases y with ⟨w, z⟩ | ⟨w, z⟩
    · replace z : v = 1 := z
      refine p_it0 (show ¬ v = 0 by omega) (p_gK (p_call (v_factAt (i := b) (j := c) ok k2 y1 w.1 w.2) (fun v m4 y => p_ret ?_)))
      obtain ⟨e, y⟩ := y
      replace e : m4 = m3 := e
      subst e
      refine ⟨⟨k2, y1⟩, y2, ?_⟩
      rcases y with ⟨u, z⟩ | ⟨u, z⟩
      · exact Or.inl ⟨w, u, z⟩
      · exact Or.inr ⟨fun x => u x.2, z⟩
    · replace z : v = 0 := z
      exact p_it1 z (p_ret ⟨⟨k2, y1⟩, y2, Or.inr ⟨fun x => w x.1, rfl⟩⟩)
/-- what is sure of a place: 1, 0, or -1 -/
def srn (f : Nat → Bool) (n p : Nat) : Int := if ctn f (2 ^ n) = 0 then -1 else if cfa f n p = 0 then 0 else if cfa f n p = ctn f (2 ^ n) then 1 else -1
theorem v_sure {a b c : Int} {n K : Nat} (ok : S.ok) (hn : S.nf = (n : Int)) (rf : RFB S P M) (hK : mG M 138 0 = (K : Int)) : pw (mX9_sure 126 a b c M) (fun q => (¬ (n ≤ 12 ∧ (0 ≤ a ∧ a < S.nr) ∧ S.inr a b c) ∧ q.1 = -1) ∨ ((n ≤ 12 ∧ (0 ≤ a ∧ a < S.nr) ∧ S.inr a b c) ∧ q.1 = srn (WDr S P K (tvb M) (knR S M) n) n (S.at' a b c).toNat)) := by
  unfold mX9_sure
  refine p_pF (ji := 0) rfl (fun m1 h1 => ?_)
  have g1 : ∀ c j : Int, ¬ c = 126 → mG m1 c j = mG M c j := fun c j x => st_ne h1 (fun w => x w.1)
  have k1 : K9 m1 := rf.1.kp (fun j hj => st_ne h1 (fun w => by omega))
  refine p_gK (p_call (v_toldFact (a := a) (b := b) (c := c) ok k1 (rf.2.1.kp (fun c j hc => g1 c j (by omega)))) (fun p m2 y => ?_))
  obtain ⟨⟨k2, _⟩, y2, y3⟩ := y
  replace y2 : FN m1 m2 := y2
  replace k2 : K9 m2 := k2
  have g2 : ∀ c j : Int, ¬ c = 126 → ¬ c = 152 → ¬ c = 153 → mG m2 c j = mG M c j := fun c j x y z => (y2 c j y z).trans (g1 c j x)
  rcases y3 with ⟨w1, w2, e⟩ | ⟨w, e⟩
  · replace e : p = S.at' a b c := e
    have pos := ok.pos w1.1 w1.2 w2
    have s9 := ok.st9 w1.1 w1.2
    refine p_it0 (show ¬ p = -1 by omega) (p_gK (p_call (v_can ok rf k2 g2) (fun v m3 y => ?_)))
    obtain ⟨rb, y⟩ := y
    rcases y with ⟨z1, z2⟩ | ⟨z1, z2⟩
    · exact p_it1 z2 (p_ret (Or.inl ⟨fun w => by omega, rfl⟩))
    replace z2 : v = 1 := z2
    have n12 : n ≤ 12 := by omega
    obtain ⟨x, hx⟩ := Int.eq_ofNat_of_zero_le (show 0 ≤ p by omega)
    have ex : (S.at' a b c).toNat = x := by omega
    rw [ex]
    refine p_it0 (show ¬ v = 0 by omega) (p_gK (p_call (v_countFacts ok hn n12 rf.2.2.2.1 hK rb) (fun v m4 y => ?_)))
    obtain ⟨⟨c1, c2⟩, k4, _, _⟩ := y
    replace c1 : mG m4 126 57 = ((ctn (WDr S P K (tvb M) (knR S M) n) (2 ^ n) : Nat) : Int) := c1
    have c3 := c2 x (by omega)
    replace c3 : mG m4 164 (x : Int) = ((cfa (WDr S P K (tvb M) (knR S M) n) n x : Nat) : Int) := c3
    rw [hx]
    refine p_gFc (ji := 57) rfl c1 (p_if (fun d => p_ret (Or.inr ⟨⟨n12, w1, w2⟩, ?_⟩)) (fun d => p_gFc (ji := 56) rfl k4.c56 (p_aGc c3 (p_gFc (ji := 57) rfl c1 (p_if (fun d2 => p_ret (Or.inr ⟨⟨n12, w1, w2⟩, ?_⟩)) (fun d2 => p_gFc (ji := 56) rfl k4.c56 (p_aGc c3 (p_if (fun d3 => p_ret (Or.inr ⟨⟨n12, w1, w2⟩, ?_⟩)) (fun d3 => p_ret (Or.inr ⟨⟨n12, w1, w2⟩, ?_⟩))))))))))
    · show _ = srn _ _ _
      unfold srn; rw [if_pos (by omega)]
    · show _ = srn _ _ _
      unfold srn; rw [if_neg (by omega), if_neg (by omega), if_pos (by omega)]
    · show _ = srn _ _ _
      unfold srn; rw [if_neg (by omega), if_pos (by omega)]
    · show _ = srn _ _ _
      unfold srn; rw [if_neg (by omega), if_neg (by omega), if_neg (by omega)]
  · exact p_it1 e (p_ret (Or.inl ⟨fun u => w u.2, rfl⟩))
end
section
variable {M : Mem}
theorem ctn_0 {f : Nat → Bool} : ∀ k : Nat, (∀ w, w < k → f w = false) ↔ ctn f k = 0 := by
  intro k
  induction k with
  | zero => exact ⟨fun _ => rfl, fun _ w hw => absurd hw (by omega)⟩
  | succ k ih =>
    rw [ctn_s]
    constructor
    · intro h
      rw [ih.mp (fun w hw => h w (by omega)), h k (by omega)]; rfl
    · intro h w hw
      by_cases e : w = k
      · rw [e]
        cases z : f k with
        | false => rfl
        | true => rw [z] at h; simp only [Bool.toNat_true] at h; omega
      · exact ih.mpr (by omega) w (by omega)
theorem q_sureness {n p : Nat} {P : Nat → List Row} {vw : Nat} {F : Int → Int} (ok : (shp M).ok) (hn : (shp M).nf = (n : Int)) (hp : (p : Int) < (n : Int)) (k2 : K2 M) (sh : SHC (shp M) 4 M) (hl : pw (mX4_lookUp 2 M) (fun q => (12 < n ∧ q.1 = 0 ∧ q.2 = M) ∨ (n ≤ 12 ∧ q.1 = 1 ∧ LK (shp M) P vw F M q.2))) : pw (mX4_sureness 2 (p : Int) M) (fun q => (12 < n ∧ q.1 = -1 ∧ q.2 = M) ∨ (n ≤ 12 ∧ q.1 = srn (WDw (shp M) P vw F) n p ∧ LK (shp M) P vw F M q.2)) := by
  have nf := ok.nf
  unfold mX4_sureness
  refine p_it0 (show ¬ ((p : Nat) : Int) = -1 by omega) (p_gK (p_call hl (fun v m y => ?_)))
  rcases y with ⟨a, b, c⟩ | ⟨a, b, c⟩
  · exact p_it1 b (p_ret (Or.inl ⟨a, rfl, c⟩))
  replace b : v = 1 := b
  have lk : LK (shp M) P vw F M m := c
  obtain ⟨_, w34, _, _, fl⟩ := id lk
  have km := k2.fl fl
  have u := uw_1 n a
  have cut : ∀ g : Nat → Bool, (∀ w, ¬ w < 2 ^ n → g w = false) → ctn g (64 * uw (shp M).nf) = ctn g (2 ^ n) := fun g hg => by rw [hn]; exact ctn_uw a hg
  refine p_it0 (show ¬ v = 0 by omega) (p_gFc (ji := 6) rfl km.c2_6 (p_gK (p_call (q_isNothing (l := 34) ⟨nf.1, by omega⟩ w34) (fun r m1 y => ?_))))
  obtain ⟨y1, y2⟩ := y
  replace y1 : m1 = m := y1
  subst y1
  have out : ∀ w, ¬ w < 2 ^ n → WDw (shp M) P vw F w = false := fun w hw => wd_out hn hw
  have c0 := cut _ out
  rcases y2 with ⟨z, e⟩ | ⟨z, e⟩
  · replace e : r = 1 := e
    refine p_it0 (show ¬ r = 0 by omega) (p_ret (Or.inr ⟨a, ?_, lk⟩))
    have := (ctn_0 _).mp z
    rw [c0] at this
    show (-1 : Int) = srn _ _ _
    unfold srn
    rw [if_pos this]
  · replace e : r = 0 := e
    have nz : ¬ ctn (WDw (shp M) P vw F) (2 ^ n) = 0 := fun h => by
      rw [← c0] at h
      obtain ⟨w, w1, w2⟩ := z
      rw [(ctn_0 _).mpr h w w1] at w2
      cases w2
    refine p_it1 e (p_gFc (ji := 6) rfl km.c2_6 (p_gFc (ji := 0) rfl km.c2_0 (p_gFc (ji := 0) rfl km.c3_0 (p_gK (p_call (q_bit (p := (p : Int)) (sh.fl fl) ok ⟨by omega, by omega⟩) (fun bt m2 y => ?_))))))
    obtain ⟨y3, y4⟩ := y
    replace y3 : m2 = m1 := y3
    replace y4 : bt = (shp M).nf - 1 - (p : Int) := y4
    subst y3; subst y4
    refine p_gK (p_call (q_countWhere (l := 34) (i := (shp M).nf - 1 - (p : Int)) ⟨nf.1, by omega⟩ w34 (by omega)) (fun r2 m3 y => ?_))
    obtain ⟨y5, y6⟩ := y
    replace y5 : m3 = m2 := y5
    subst y5
    have e6 : r2 = ((cfa (WDw (shp M) P vw F) n p : Nat) : Int) := by
      refine (show r2 = _ from y6).trans ?_
      rw [cut _ (fun w hw => by rw [out w hw]; rfl)]
      unfold cfa phw
      rw [hn]
    refine p_if (fun d => p_ret (Or.inr ⟨a, ?_, lk⟩)) (fun d => p_gFc (ji := 6) rfl km.c2_6 (p_gK (p_call (q_count (l := 34) ⟨nf.1, by omega⟩ w34) (fun r3 m4 y => ?_))))
    · have d : r2 = 0 := d
      show (0 : Int) = srn _ _ _
      unfold srn
      rw [if_neg nz, if_pos (by omega)]
    · have d : ¬ r2 = 0 := d
      obtain ⟨y7, y8⟩ := y
      replace y7 : m4 = m3 := y7
      subst y7
      have e8 : r3 = ((ctn (WDw (shp M) P vw F) (2 ^ n) : Nat) : Int) := (show r3 = _ from y8).trans (by rw [c0])
      refine p_if (fun d2 => p_ret (Or.inr ⟨a, ?_, lk⟩)) (fun d2 => p_ret (Or.inr ⟨a, ?_, lk⟩))
      · have d2 : r2 = r3 := d2
        show (1 : Int) = srn _ _ _
        unfold srn
        rw [if_neg nz, if_neg (by omega), if_pos (by omega)]
      · have d2 : ¬ r2 = r3 := d2
        show (-1 : Int) = srn _ _ _
        unfold srn
        rw [if_neg nz, if_neg (by omega), if_neg (by omega)]
theorem srn_congr {f g : Nat → Bool} {n p : Nat} (h : ∀ w, w < 2 ^ n → f w = g w) : srn f n p = srn g n p := by
  unfold srn cfa
  rw [ctn_congr (f := f) (g := g) _ h, ctn_congr (f := fun w => f w && phw (n : Int) w (p : Int)) (g := fun w => g w && phw (n : Int) w (p : Int)) _ (fun w hw => by rw [h w hw])]
theorem q_sure {a b c : Int} {n : Nat} {P : Nat → List Row} {vw : Nat} {F : Int → Int} (ok : (shp M).ok) (hn : (shp M).nf = (n : Int)) (k2 : K2 M) (sh : SHC (shp M) 4 M) (h1 : mG M 1 0 = 2 ∧ mG M 1 1 = 3) (hl : pw (mX4_lookUp 2 M) (fun q => (12 < n ∧ q.1 = 0 ∧ q.2 = M) ∨ (n ≤ 12 ∧ q.1 = 1 ∧ LK (shp M) P vw F M q.2))) : pw (mX8_sure 1 a b c M) (fun q => FLK M q.2 ∧ ((¬ (n ≤ 12 ∧ (0 ≤ a ∧ a < (shp M).nr) ∧ (shp M).inr a b c) ∧ q.1 = -1) ∨ ((n ≤ 12 ∧ (0 ≤ a ∧ a < (shp M).nr) ∧ (shp M).inr a b c) ∧ q.1 = srn (WDw (shp M) P vw F) n ((shp M).at' a b c).toNat))) := by
  unfold mX8_sure
  refine p_gFc (ji := 0) rfl h1.1 (p_gFc (ji := 1) rfl h1.2 (p_gFc (ji := 0) rfl k2.c3_0 (p_gK (p_call (q_place (r := a) (i := b) (j := c) ok sh) (fun p m y => ?_)))))
  obtain ⟨y1, y2⟩ := y
  replace y1 : m = M := y1
  subst y1
  rcases y2 with ⟨w1, w2, e⟩ | ⟨w, e⟩
  · replace e : p = (shp m).at' a b c := e
    have pos := ok.pos w1.1 w1.2 w2
    have s9 := ok.st9 w1.1 w1.2
    obtain ⟨x, hx⟩ := Int.eq_ofNat_of_zero_le (show 0 ≤ p by omega)
    have ex : ((shp m).at' a b c).toNat = x := by omega
    rw [ex, hx]
    refine p_gK (p_call (q_sureness ok hn (by omega) k2 sh hl) (fun v m2 y => p_ret ?_))
    rcases y with ⟨u1, u2, u3⟩ | ⟨u1, u2, u3⟩
    · replace u3 : m2 = m := u3
      subst u3
      exact ⟨FLK.rf, Or.inl ⟨fun w => by omega, u2⟩⟩
    · exact ⟨u3.2.2.2.2, Or.inr ⟨⟨u1, w1, w2⟩, u2⟩⟩
  · replace e : p = -1 := e
    subst e
    refine p_gK (p_call (P := fun q => q.2 = m ∧ q.1 = -1) ?_ (fun v m2 y => p_ret ?_))
    · unfold mX4_sureness
      exact p_it1 rfl (p_ret ⟨rfl, rfl⟩)
    · obtain ⟨z1, z2⟩ := y
      replace z1 : m2 = m := z1
      subst z1
      exact ⟨FLK.rf, Or.inl ⟨fun u => w u.2, z2⟩⟩
theorem eq_sure {a b c : Int} (h : J3 M) : pw (mX8_sure 1 a b c M) (fun q1 => pw (mX9_sure 126 a b c q1.2) (fun q2 => EQ q1 q2)) := by
  obtain ⟨P, n, ok, hn, k2, sh, tp, rf, ve, vlt, h1, hl⟩ := look h
  refine p_mono (q_sure (a := a) (b := b) (c := c) ok hn k2 sh h1 hl) (fun q1 y => ?_)
  obtain ⟨fl, y⟩ := y
  obtain ⟨rf2, e1, e2, e3⟩ := rf.f9 fl.f9
  obtain ⟨K, hK⟩ := Int.eq_ofNat_of_zero_le rf.2.2.2.1.1
  have h8 := rf.2.2.2.1
  rw [hK, Int.toNat_natCast] at vlt
  refine p_mono (v_sure (a := a) (b := b) (c := c) ok hn rf2 (e3.trans hK)) (fun q2 z => ?_)
  rw [e1, e2, ve] at z
  show q1.1 = q2.1
  rcases y with ⟨u, v⟩ | ⟨u, v⟩
  · rcases z with ⟨w, x⟩ | ⟨w, x⟩
    · rw [v, x]
    · exact absurd w u
  · rcases z with ⟨w, x⟩ | ⟨w, x⟩
    · exact absurd u w
    · rw [v, x, srn_congr (fun w hw => wd_eq hn vlt (by omega) hw)]
end
theorem j3_withoutE {M : Mem} {l1 : Int} (r1 : (-2147483648) ≤ l1 ∧ l1 ≤ 2147483647) (h : J3 M) : wp (mX8_without 1 l1 M) (fun q1 => wp (mX9_without 126 l1 q1.2) (fun q2 => J3 q2.2 ∧ EQ q1 q2)) := J3.e (M := M) (j3_without r1 h) (eq_without h)
theorem j3_sureE {M : Mem} {l1 l2 l3 : Int} (r1 : (-2147483648) ≤ l1 ∧ l1 ≤ 2147483647) (r2 : (-2147483648) ≤ l2 ∧ l2 ≤ 2147483647) (r3 : (-2147483648) ≤ l3 ∧ l3 ≤ 2147483647) (h : J3 M) : wp (mX8_sure 1 l1 l2 l3 M) (fun q1 => wp (mX9_sure 126 l1 l2 l3 q1.2) (fun q2 => J3 q2.2 ∧ EQ q1 q2)) := J3.e (M := M) (j3_sure r1 r2 r3 h) (eq_sure h)
end
