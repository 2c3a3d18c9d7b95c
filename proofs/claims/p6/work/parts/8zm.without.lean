/-! ===== the reference begins; without ===== -/
/-- what stands behind canTell -/
def RPB (S : SH) (P : Nat → List Row) (M m : Mem) : Prop := (K9 m ∧ RSH S m ∧ KNO S m ∧ RTP S P (mG M 138 0) m) ∧ (mG m 138 0 = mG M 138 0 ∧ tvb m = tvb M ∧ knR S m = knR S M) ∧ ∀ c j : Int, ¬ c = 126 → ¬ c = 152 → ¬ c = 153 → mG m c j = mG M c j
section
variable {S : SH} {P : Nat → List Row} {M : Mem}
theorem RPB.mk {m : Mem} (rf : RFB S P M) (k9 : K9 m) (sh : RSH S m) (g2 : ∀ c j : Int, ¬ c = 126 → ¬ c = 152 → ¬ c = 153 → mG m c j = mG M c j) : RPB S P M m := by
  obtain ⟨_, _, kn, h8, rt⟩ := rf
  have e138 : mG m 138 0 = mG M 138 0 := g2 138 0 (by decide) (by decide) (by decide)
  refine ⟨⟨k9, sh, ⟨by rw [g2 146 0 (by decide) (by decide) (by decide)]; exact kn.1, fun k hk => ?_⟩, fun s hs => ⟨⟨(g2 141 _ (by decide) (by decide) (by decide)).trans (rt s hs).1.1, fun i r hr => ((rt s hs).1.2 i r hr).kp (fun c c0 c1 => g2 c _ (by omega) (by omega) (by omega))⟩, (rt s hs).2⟩⟩, ⟨e138, ?_, ?_⟩, g2⟩
  · rw [g2 146 0 (by decide) (by decide) (by decide)] at hk
    rw [g2 147 _ (by decide) (by decide) (by decide), g2 148 _ (by decide) (by decide) (by decide)]
    exact kn.2 k hk
  · unfold tvb
    rw [g2 131 0 (by decide) (by decide) (by decide), g2 132 0 (by decide) (by decide) (by decide), e138, show mG m 139 = mG M 139 from funext (fun j => g2 139 j (by decide) (by decide) (by decide)), show mG m 140 = mG M 140 from funext (fun j => g2 140 j (by decide) (by decide) (by decide))]
  · funext p
    unfold knR
    rw [g2 131 0 (by decide) (by decide) (by decide), g2 132 0 (by decide) (by decide) (by decide), g2 146 0 (by decide) (by decide) (by decide), show mG m 147 = mG M 147 from funext (fun j => g2 147 j (by decide) (by decide) (by decide)), show mG m 148 = mG M 148 from funext (fun j => g2 148 j (by decide) (by decide) (by decide)), show mG m 149 = mG M 149 from funext (fun j => g2 149 j (by decide) (by decide) (by decide))]
/-- the same without what is left alone -/
def RPC (S : SH) (P : Nat → List Row) (M m : Mem) : Prop := (K9 m ∧ RSH S m ∧ KNO S m ∧ RTP S P (mG M 138 0) m) ∧ (mG m 138 0 = mG M 138 0 ∧ tvb m = tvb M ∧ knR S m = knR S M)
theorem RPB.c {m : Mem} (h : RPB S P M m) : RPC S P M m := ⟨h.1, h.2.1⟩
theorem RPC.go {m m' : Mem} (h : RPC S P M m) (k9 : K9 m') (sh : RSH S m') (g2 : ∀ c j : Int, 131 ≤ c → c ≤ 149 → mG m' c j = mG m c j) : RPC S P M m' := by
  obtain ⟨⟨_, _, kn, rt⟩, ⟨e1, e2, e3⟩⟩ := h
  have e138 : mG m' 138 0 = mG m 138 0 := g2 138 0 (by decide) (by decide)
  refine ⟨⟨k9, sh, ⟨by rw [g2 146 0 (by decide) (by decide)]; exact kn.1, fun k hk => ?_⟩, fun s hs => ⟨⟨(g2 141 _ (by decide) (by decide)).trans (rt s hs).1.1, fun i r hr => ((rt s hs).1.2 i r hr).kp (fun c c0 c1 => g2 c _ (by omega) (by omega))⟩, (rt s hs).2⟩⟩, ⟨e138.trans e1, ?_, ?_⟩⟩
  · rw [g2 146 0 (by decide) (by decide)] at hk
    rw [g2 147 _ (by decide) (by decide), g2 148 _ (by decide) (by decide)]
    exact kn.2 k hk
  · rw [← e2]
    unfold tvb
    rw [g2 131 0 (by decide) (by decide), g2 132 0 (by decide) (by decide), e138, show mG m' 139 = mG m 139 from funext (fun j => g2 139 j (by decide) (by decide)), show mG m' 140 = mG m 140 from funext (fun j => g2 140 j (by decide) (by decide))]
  · rw [← e3]
    funext p
    unfold knR
    rw [g2 131 0 (by decide) (by decide), g2 132 0 (by decide) (by decide), g2 146 0 (by decide) (by decide), show mG m' 147 = mG m 147 from funext (fun j => g2 147 j (by decide) (by decide)), show mG m' 148 = mG m 148 from funext (fun j => g2 148 j (by decide) (by decide)), show mG m' 149 = mG m 149 from funext (fun j => g2 149 j (by decide) (by decide))]
/-- canTell, from a state that the call has begun -/
theorem v_can {m1 : Mem} (ok : S.ok) (rf : RFB S P M) (k1 : K9 m1) (g1 : ∀ c j : Int, ¬ c = 126 → ¬ c = 152 → ¬ c = 153 → mG m1 c j = mG M c j) : pw (mX9_canTell 126 m1) (fun q => RPB S P M q.2 ∧ ((12 < S.nf ∧ q.1 = 0) ∨ (S.nf ≤ 12 ∧ q.1 = 1))) := by
  refine p_mono (v_canTell ok k1 (rf.2.1.kp (fun c j hc => g1 c j (by omega) (by omega) (by omega)))) (fun q y => ?_)
  obtain ⟨y1, y2, y3⟩ := y
  exact ⟨RPB.mk rf (k1.fn y2) y1 (fun c j x z w => (y2 c j z w).trans (g1 c j x z w)), y3⟩
theorem tvb_lt {K : Nat} (hK : mG M 138 0 = (K : Int)) : tvb M < 2 ^ K := by
  have := bitsOf_lt (vwf (vdy (mG M 131 0) (mG M 132 0)) (mG M 139) (mG M 140)) (mG M 138 0).toNat
  rw [hK, Int.toNat_natCast] at this
  unfold tvb
  rw [hK, Int.toNat_natCast]
  exact this
theorem v_prep {m : Mem} {n : Nat} (ok : S.ok) (hn : S.nf = (n : Int)) (n12 : n ≤ 12) (h8 : 0 ≤ mG M 138 0 ∧ mG M 138 0 ≤ 8) (h : RPB S P M m) : pw (mX9_prepare 126 m) (fun q => RWd S P (mG M 138 0) (tvb M) (knR S M) n q.2 ∧ ∀ c j : Int, ¬ (c = 126 ∧ (j = 48 ∨ j = 49 ∨ j = 50)) → mG q.2 c j = mG m c j) := by
  obtain ⟨⟨a1, a2, a3, a4⟩, ⟨e1, e2, e3⟩, _⟩ := h
  have := v_prepare (P := P) ok hn n12 a1 a2 a3 (by rw [e1]; exact h8) (by rw [e1]; exact a4)
  rw [e1, e2, e3] at this
  exact this
/-- counting goes on -/
theorem v_cnt {K n vw : Nat} {F : Int → Int} (ok : S.ok) (hn : S.nf = (n : Int)) (n12 : n ≤ 12) (hF : ∀ p, F p = -1 ∨ F p = 0 ∨ F p = 1) (hK : K ≤ 8) (hv : vw < 256) : ∀ (fu w : Nat) (m : Mem), w ≤ 2 ^ n → RWd S P (K : Int) vw F n m → pw (mX9_without_63 fu 126 ((ctn (WDr S P K vw F n) w : Nat) : Int) (w : Int) m) (fun q => q.1 = ((ctn (WDr S P K vw F n) (2 ^ n) : Nat) : Int)) := by
  have p12 : 2 ^ n ≤ 2 ^ 12 := Nat.pow_le_pow_right (n := 2) (by decide) n12
  intro fu
  induction fu with
  | zero => intro w m _ _; exact p_none
  | succ fu ih =>
    intro w m hw rw'
    show pw (bX9_without_63 (mX9_without_63 fu) 126 _ (w : Int) m) _
    unfold bX9_without_63
    refine p_gK (p_call (v_manyFacts ok rw'.1.1 rw'.1.2) (fun v m4 y => ?_))
    obtain ⟨y6, y7⟩ := y
    replace y6 : m4 = m := y6
    replace y7 : v = S.nf := y7
    subst y6
    rw [hn] at y7
    subst y7
    rw [ishl1 n (by omega), show (2 : Int) ^ n = ((2 ^ n : Nat) : Int) by simp]
    refine p_if (fun c => p_ret ?_) (fun c => ?_)
    · show _ = _
      rw [show w = 2 ^ n by omega]
    have cl := ctn_le (WDr S P K vw F n) w
    refine p_gK (p_call (v_isWorld (w := w) ok hn n12 (by omega) hF hK hv rw') (fun v m5 y => ?_))
    obtain ⟨y8, y9, _⟩ := y
    replace y8 : FI m4 m5 := y8
    replace y9 : v = b2i (WDr S P K vw F n w) := y9
    have go : ∀ x : Int, x = b2i (WDr S P K vw F n w) → pw (mX9_without_87 (mX9_without_63 fu) 126 (w : Int) ((ctn (WDr S P K vw F n) w : Nat) : Int) x m5) (fun q => q.1 = ((ctn (WDr S P K vw F n) (2 ^ n) : Nat) : Int)) := fun x hx => by
      unfold mX9_without_87
      have bb := b2i_b (WDr S P K vw F n w)
      rw [wI_s (p := w) (by omega), wI_id (x := ((ctn (WDr S P K vw F n) w : Nat) : Int) + x) (by omega) (by omega), hx, b2i_n, ← Int.natCast_add, ← ctn_s]
      exact ih (w + 1) m5 (by omega) (rw'.fi y8)
    refine p_if (fun c2 => go 0 (by omega)) (fun c2 => go 1 ?_)
    have := b2i_b (WDr S P K vw F n w)
    omega
theorem ixor_nn {a b : Nat} (ha : a < 1073741824) (hb : b < 1073741824) : ixor (a : Int) (b : Int) = ((a ^^^ b : Nat) : Int) := by
  unfold ixor
  have e : (Int32.ofInt (a : Int) ^^^ Int32.ofInt (b : Int)).toBitVec.toNat = a ^^^ b := by
    rw [Int32.toBitVec_xor, BitVec.toNat_xor, nonneg_bv (by omega) (by omega), nonneg_bv (by omega) (by omega), Int.toNat_natCast, Int.toNat_natCast]
  have h2 : a ^^^ b < 2 ^ 30 := Nat.xor_lt_two_pow ha hb
  rw [toInt_small _ (by rw [e]; omega), e]
/-- one story less -/
theorem v_without {l : Int} {n K : Nat} (ok : S.ok) (hn : S.nf = (n : Int)) (rf : RFB S P M) (hK : mG M 138 0 = (K : Int)) : pw (mX9_without 126 l M) (fun q => ((¬ (n ≤ 12 ∧ 0 ≤ l ∧ (tvb M).testBit l.toNat = true)) ∧ q.1 = -1) ∨ ((n ≤ 12 ∧ 0 ≤ l ∧ (tvb M).testBit l.toNat = true) ∧ q.1 = ((ctn (WDr S P K (tvb M ^^^ 2 ^ l.toNat) (knR S M) n) (2 ^ n) : Nat) : Int))) := by
  have h8 := rf.2.2.2.1
  have K8 : K ≤ 8 := by omega
  have vl := tvb_lt hK
  have p8 : 2 ^ K ≤ 2 ^ 8 := Nat.pow_le_pow_right (n := 2) (by decide) K8
  have hF : ∀ p, knR S M p = -1 ∨ knR S M p = 0 ∨ knR S M p = 1 := fun p => knf_rg _ _ _ _ _ _
  have inl : (tvb M).testBit l.toNat = true → l.toNat < K := fun h => by
    apply Classical.byContradiction
    intro h2
    have := Nat.testBit_lt_two_pow (Nat.lt_of_lt_of_le vl (Nat.pow_le_pow_right (n := 2) (by decide) (show K ≤ l.toNat by omega)))
    rw [h] at this
    cases this
  unfold mX9_without
  refine p_pF (ji := 0) rfl (fun m1 h1 => ?_)
  have g1 : ∀ c j : Int, ¬ c = 126 → mG m1 c j = mG M c j := fun c j x => st_ne h1 (fun w => x w.1)
  have k1 : K9 m1 := rf.1.kp (fun j hj => st_ne h1 (fun w => by omega))
  refine p_gFc (ji := 12) rfl k1.c12 (p_aGc ((g1 138 0 (by decide)).trans hK) ?_)
  rw [wI_id (x := (K : Int) - 1) (by omega) (by omega)]
  refine p_call w_in (fun v m2 y => ?_)
  obtain ⟨e, y⟩ := y
  replace e : m2 = m1 := e
  subst e
  rcases y with ⟨c1, hv⟩ | ⟨c1, hv⟩
  · replace hv : v = 1 := hv
    refine p_it0 (show ¬ v = 0 by omega) (p_gK (p_call (v_can ok rf k1 (fun c j x _ _ => g1 c j x)) (fun v m3 y => ?_)))
    obtain ⟨rb, y⟩ := y
    rcases y with ⟨z1, z2⟩ | ⟨z1, z2⟩
    · exact p_it1 z2 (p_ret (Or.inl ⟨fun w => by omega, rfl⟩))
    replace z2 : v = 1 := z2
    have n12 : n ≤ 12 := by omega
    refine p_it0 (show ¬ v = 0 by omega) (p_gK (p_call (v_prep ok hn n12 h8 rb) (fun v m4 y => ?_)))
    obtain ⟨rw', _⟩ := y
    rw [hK] at rw'
    replace rw' : RWd S P (K : Int) (tvb M) (knR S M) n m4 := rw'
    obtain ⟨x, rfl⟩ := Int.eq_ofNat_of_zero_le c1.1
    have xK : x < K := by omega
    rw [Int.toNat_natCast] at *
    refine p_gFc (ji := 48) rfl rw'.2.1.2.1 (p_if (fun c2 => p_ret (Or.inl ⟨fun w => ?_, rfl⟩)) (fun c2 => ?_))
    · have := (ibit (by omega) (by omega)).mp c2
      rw [this] at w
      exact absurd w.2.2 (by decide)
    have tb : (tvb M).testBit x = true := by
      cases e : (tvb M).testBit x with
      | true => rfl
      | false => exact absurd ((ibit (by omega) (by omega)).mpr e) c2
    have px : 2 ^ x ≤ 2 ^ 7 := Nat.pow_le_pow_right (n := 2) (by decide) (by omega)
    refine p_gFc (ji := 48) rfl rw'.2.1.2.1 (p_pF (ji := 48) rfl (fun m5 h5 => ?_))
    rw [ishl1 x (by omega), show (2 : Int) ^ x = ((2 ^ x : Nat) : Int) by simp, ixor_nn (by omega) (by omega)] at h5
    have g5 : ∀ c j : Int, ¬ (c = 126 ∧ j = 48) → mG m5 c j = mG m4 c j := fun c j w => st_ne h5 w
    have g6 : ∀ c j : Int, ¬ c = 126 → mG m5 c j = mG m4 c j := fun c j w => g5 c j (fun y => w y.1)
    have xl : tvb M ^^^ 2 ^ x < 256 := Nat.xor_lt_two_pow (n := 8) (by omega) (by omega)
    obtain ⟨⟨ka, kb⟩, ⟨kc, _, ke, kf⟩, kg⟩ := rw'
    have rw5 : RWd S P (K : Int) (tvb M ^^^ 2 ^ x) (knR S M) n m5 :=
      ⟨⟨ka.kp (fun j hj => g5 126 j (fun w => by omega)), kb.kp (fun c j hc => g6 c j (by omega))⟩, ⟨(g6 138 0 (by decide)).trans kc, st_eq h5, (g5 126 49 (by decide)).trans ke, (g5 126 50 (by decide)).trans kf⟩, fun s hs => ⟨⟨(g6 141 _ (by decide)).trans (kg s hs).1.1, fun i r hr => ((kg s hs).1.2 i r hr).kp (fun c c0 c1 => g6 c _ (by omega))⟩, (kg s hs).2⟩⟩
    exact p_mono (v_cnt ok hn n12 hF K8 xl FU 0 m5 (Nat.zero_le _) rw5) (fun q z => Or.inr ⟨⟨n12, c1.1, tb⟩, z⟩)
  · replace hv : v = 0 := hv
    refine p_it1 hv (p_ret (Or.inl ⟨fun w => ?_, rfl⟩))
    have := inl w.2.2
    exact c1 ⟨w.2.1, by omega⟩
end
section
variable {M : Mem}
theorem hs_val {l : Int} : pw (mX6_hasStory 3 l M) (fun q => q.2 = M ∧ ((0 ≤ l ∧ l < mG M 3 11 ∧ q.1 = 1) ∨ (¬ (0 ≤ l ∧ l < mG M 3 11) ∧ q.1 = 0))) := by
  unfold mX6_hasStory
  exact p_if (fun c => p_ret ⟨rfl, Or.inr ⟨fun w => by omega, rfl⟩⟩) (fun c => p_gF (ji := 11) rfl (fun v hv => p_if (fun c2 => p_ret ⟨rfl, Or.inr ⟨fun w => by omega, rfl⟩⟩) (fun c2 => p_ret ⟨rfl, Or.inl ⟨by omega, by omega, rfl⟩⟩)))
theorem q_without {l : Int} {n : Nat} {P : Nat → List Row} {vw : Nat} {F : Int → Int} (ok : (shp M).ok) (hn : (shp M).nf = (n : Int)) (k2 : K2 M) (tp : TXP (shp M) P M) (h1 : mG M 1 0 = 2) (h11 : 0 ≤ mG M 3 11 ∧ mG M 3 11 ≤ 8) (hv : vw = vwb M) (hl : pw (mX4_lookUp 2 M) (fun q => (12 < n ∧ q.1 = 0 ∧ q.2 = M) ∨ (n ≤ 12 ∧ q.1 = 1 ∧ LK (shp M) P vw F M q.2))) : pw (mX8_without 1 l M) (fun q => (∀ c j : Int, 65 ≤ c → mG q.2 c j = mG M c j) ∧ (((¬ (n ≤ 12 ∧ 0 ≤ l ∧ vw.testBit l.toNat = true)) ∧ q.1 = -1) ∨ ((n ≤ 12 ∧ 0 ≤ l ∧ vw.testBit l.toNat = true) ∧ q.1 = ((ctn (fun w => PKq (n : Int) F n w && allb (stw (shp M) P (vw ^^^ 2 ^ l.toNat) w) 8) (2 ^ n) : Nat) : Int)))) := by
  have nf := ok.nf
  obtain ⟨Q, hQ⟩ : ∃ Q : Int × Mem → Prop, Q = fun q => (∀ c j : Int, 65 ≤ c → mG q.2 c j = mG M c j) ∧ (((¬ (n ≤ 12 ∧ 0 ≤ l ∧ vw.testBit l.toNat = true)) ∧ q.1 = -1) ∨ ((n ≤ 12 ∧ 0 ≤ l ∧ vw.testBit l.toNat = true) ∧ q.1 = ((ctn (fun w => PKq (n : Int) F n w && allb (stw (shp M) P (vw ^^^ 2 ^ l.toNat) w) 8) (2 ^ n) : Nat) : Int))) := ⟨_, rfl⟩
  rw [← hQ]
  have vlt : vw < 2 ^ (mG M 3 11).toNat := by rw [hv]; exact bitsOf_lt _ _
  have v8 : vw < 256 := Nat.lt_of_lt_of_le vlt (Nat.pow_le_pow_right (n := 2) (by decide) (show (mG M 3 11).toNat ≤ 8 by omega))
  have inl : ∀ s : Nat, vw.testBit s = true → (s : Int) < mG M 3 11 := fun s h => by
    have : s < (mG M 3 11).toNat := by
      apply Classical.byContradiction
      intro h2
      have := Nat.testBit_lt_two_pow (Nat.lt_of_lt_of_le vlt (Nat.pow_le_pow_right (n := 2) (by decide) (show (mG M 3 11).toNat ≤ s by omega)))
      rw [h] at this
      cases this
    omega
  have none : ¬ (0 ≤ l ∧ vw.testBit l.toNat = true) → ∀ m, m = M → pw (some (((-1) : Int), m)) Q := fun h m e => by
    subst e
    rw [hQ]
    exact p_ret ⟨fun _ _ _ => rfl, Or.inl ⟨fun w => h w.2, rfl⟩⟩
  unfold mX8_without
  refine p_gFc (ji := 0) rfl h1 (p_gK (p_call (P := Q) ?_ (fun v m y => p_ret y)))
  unfold mX4_countWithout
  refine p_gFc (ji := 0) rfl k2.c2_0 (p_gK (p_call (q_viewed k2 h11) (fun v m y => ?_)))
  obtain ⟨y1, y2⟩ := y
  replace y1 : m = M := y1
  replace y2 : v = ((vwb M : Nat) : Int) := y2
  subst y1
  rw [← hv] at y2
  subst y2
  refine p_gFc (ji := 0) rfl k2.c2_0 (p_gK (p_call (hs_val (l := l)) (fun r m2 y => ?_)))
  obtain ⟨y3, y4⟩ := y
  replace y3 : m2 = m := y3
  subst y3
  rcases y4 with ⟨l0, l1, e⟩ | ⟨z, e⟩
  · replace e : r = 1 := e
    obtain ⟨x, rfl⟩ := Int.eq_ofNat_of_zero_le l0
    replace l1 : (x : Int) < mG m2 3 11 := l1
    refine p_it0 (show ¬ r = 0 by omega) (p_if (fun c => ?_) (fun c => ?_))
    · have f := (ibit (x := vw) (k := x) (by omega) (by omega)).mp c
      unfold mX4_countWithout_31 mX4_countWithout_32
      refine p_it1 rfl (none (fun w => ?_) m2 rfl)
      rw [Int.toNat_natCast, f] at w
      exact absurd w.2 (by decide)
    have tb : vw.testBit x = true := by
      cases e : vw.testBit x with
      | true => rfl
      | false => exact absurd ((ibit (x := vw) (k := x) (by omega) (by omega)).mpr e) c
    have x8 : x < 8 := by have := inl x tb; omega
    unfold mX4_countWithout_32
    refine p_it0 z_1 (p_gK (p_call hl (fun v m3 y => ?_)))
    rcases y with ⟨a, b, c⟩ | ⟨a, b, c⟩
    · replace c : m3 = m2 := c
      subst c
      refine p_it1 b (p_ret ?_)
      rw [hQ]
      exact ⟨fun _ _ _ => rfl, Or.inl ⟨fun w => by omega, rfl⟩⟩
    replace b : v = 1 := b
    obtain ⟨w32, _, ca, hj, fl⟩ := c
    replace w32 : WS 32 (shp m2).nf (PKq (shp m2).nf F (shp m2).nf.toNat) m3 := w32
    rw [hn, Int.toNat_natCast] at w32
    have k3 := k2.fl fl
    have tp3 := tp.fl fl
    refine p_it0 (show ¬ v = 0 by omega) (p_gFc (ji := 7) rfl k3.c2_7 (p_gFc (ji := 5) rfl k3.c2_5 (p_gK (p_call (q_copy (l := 36) (l1 := 32) ⟨by omega, by omega⟩ k3.c36_0 w32 ⟨by decide, by decide, by decide⟩) (fun _ m4 y => ?_)))))
    obtain ⟨y5, y6⟩ := y
    replace y5 : WS 36 (n : Int) (PKq (n : Int) F n) m4 := y5
    replace y6 : FW 36 m3 m4 := y6
    have loop : ∀ (fu k : Nat) (m5 : Mem), k ≤ 8 → (∀ c j : Int, ¬ c = 37 → ¬ (c = 36 ∧ (j = 1 ∨ j = 2)) → mG m5 c j = mG m3 c j) → WS 36 (n : Int) (fun w => PKq (n : Int) F n w && allb (stw (shp m2) P (vw ^^^ 2 ^ x) w) k) m5 → pw (mX4_countWithout_60 fu 2 (x : Int) (vw : Int) (k : Int) m5) Q := by
      intro fu
      induction fu with
      | zero => intro k m5 _ _ _; exact p_none
      | succ fu ih =>
        intro k m5 hk g ws
        show pw (bX4_countWithout_60 (mX4_countWithout_60 fu) 2 (x : Int) (vw : Int) (k : Int) m5) _
        have k5 : K2 m5 := k3.kp (fun y hy => by
          have c := cst_out y hy
          exact g _ _ (fun e => by omega) (fun e => by omega))
        unfold bX4_countWithout_60
        refine p_if (fun c => ?_) (fun c => ?_)
        · have e8 : k = 8 := by omega
          subst e8
          refine p_gFc (ji := 7) rfl k5.c2_7 (p_gK (p_call (q_count (l := 36) ⟨by omega, by omega⟩ ws) (fun r m6 y => p_ret ?_)))
          obtain ⟨z1, z2⟩ := y
          replace z1 : m6 = m5 := z1
          subst z1
          rw [hQ]
          refine ⟨fun c j hc => (g c j (by omega) (by omega)).trans (fl c j (nq_0 (by omega))), Or.inr ⟨⟨a, l0, by rw [Int.toNat_natCast]; exact tb⟩, ?_⟩⟩
          rw [Int.toNat_natCast]
          refine (show r = _ from z2).trans ?_
          rw [ctn_uw a (fun w hw => by unfold PKq; rw [Int.toNat_natCast, decide_eq_false hw]; rfl)]
        have go : ∀ m6, (∀ c j : Int, ¬ c = 37 → ¬ (c = 36 ∧ (j = 1 ∨ j = 2)) → mG m6 c j = mG m3 c j) → WS 36 (n : Int) (fun w => PKq (n : Int) F n w && allb (stw (shp m2) P (vw ^^^ 2 ^ x) w) (k + 1)) m6 → pw (mX4_countWithout_96 (mX4_countWithout_60 fu) 2 (x : Int) (vw : Int) (k : Int) m6) Q := fun m6 g6 w6 => by
          unfold mX4_countWithout_96
          rw [wI_s (p := k) (by omega)]
          exact ih (k + 1) m6 (by omega) g6 w6
        have bitx : (vw ^^^ 2 ^ x).testBit k = (vw.testBit k ^^ decide (x = k)) := by
          rw [Nat.testBit_xor]
          by_cases e : x = k
          · rw [e, Nat.testBit_two_pow_self, decide_eq_true rfl]
          · rw [Nat.testBit_two_pow_of_ne e, decide_eq_false e]
        have skip : (vw ^^^ 2 ^ x).testBit k = false → pw (mX4_countWithout_96 (mX4_countWithout_60 fu) 2 (x : Int) (vw : Int) (k : Int) m5) Q := fun f => go m5 g (ws.ext (fun w _ => by
          show (_ && allb _ k) = (_ && (allb _ k && stw (shp m2) P (vw ^^^ 2 ^ x) w k))
          have : stw (shp m2) P (vw ^^^ 2 ^ x) w k = true := by unfold stw; rw [f]; rfl
          rw [this, Bool.and_true]))
        refine p_if (fun c1 => skip ?_) (fun c1 => p_if (fun c2 => skip ?_) (fun c2 => ?_))
        · have e : x = k := by omega
          rw [bitx, decide_eq_true e, ← e, tb]; rfl
        · rw [bitx, (ibit (by omega) (by omega)).mp c2, decide_eq_false (by omega)]; rfl
        have tk : vw.testBit k = true := by
          cases e : vw.testBit k with
          | true => rfl
          | false => exact absurd ((ibit (by omega) (by omega)).mpr e) c2
        have hin : (k : Int) < mG m3 3 11 := by rw [fl 3 11 (nq_0 (by omega))]; exact inl k tk
        have es : shp m3 = shp m2 := shp_go (fun b j x => fl b j (nq_0 (by omega)))
        obtain ⟨t1, t2, t3⟩ := tp3 k hin
        have cs := (ca.2 k (by omega) (hj k (by omega) tk)).2.2.2 (P k) (by unfold txs; rw [if_neg (by omega)]; exact t2) t3
        rw [hn] at cs
        refine p_gFc (ji := 7) rfl k5.c2_7 (p_gFc (ji := 3) rfl k5.c2_3 (p_aGc (k5.ws (s := k) (by omega)).1 (p_gK (p_call (q_keepOnly (l := 36) (l1 := 47 + 2 * (k : Int)) ⟨by omega, by omega⟩ ws (cs.kp (fun j => g _ j (by omega) (by omega)) (fun j => g _ j (by omega) (by omega))) ⟨by omega, by omega⟩) (fun _ m6 y => ?_)))))
        obtain ⟨z1, z2⟩ := y
        replace z2 : FX 37 m5 m6 := z2
        refine go m6 (fun c j u v => (z2 c j u).trans (g c j u v)) (WS.ext z1 (fun w _ => ?_))
        show ((_ && allb _ k) && _) = (_ && (allb _ k && stw (shp m2) P (vw ^^^ 2 ^ x) w k))
        have : stw (shp m2) P (vw ^^^ 2 ^ x) w k = TMw (shp m2) (P k) w := by unfold stw; rw [bitx, tk, decide_eq_false (by omega)]; rfl
        rw [this, Bool.and_assoc]
    refine loop FU 0 m4 (by omega) (fun c j u v => y6 c j u v) (y5.ext (fun w _ => ?_))
    show _ = (_ && true)
    rw [Bool.and_true]
  · replace e : r = 0 := e
    replace z : ¬ (0 ≤ l ∧ l < mG m2 3 11) := z
    refine p_it1 e ?_
    unfold mX4_countWithout_31 mX4_countWithout_32
    refine p_it1 rfl (none (fun w => ?_) m2 rfl)
    have := inl _ w.2
    exact z ⟨w.1, by omega⟩
theorem eq_without {l : Int} (h : J3 M) : pw (mX8_without 1 l M) (fun q1 => pw (mX9_without 126 l q1.2) (fun q2 => EQ q1 q2)) := by
  have h11 := rd_Told_11 h.1.1.1 (a := 3) rfl
  obtain ⟨P, n, ok, hn, k2, sh, tp, rf, ve, vlt, h1, hl⟩ := look h
  refine p_mono (q_without (l := l) ok hn k2 tp h1.1 h11 rfl hl) (fun q1 y => ?_)
  obtain ⟨g, y⟩ := y
  obtain ⟨rf2, e1, e2, e3⟩ := rf.f9 (M' := q1.2) (fun c j c0 _ => g c j (by omega))
  obtain ⟨K, hK⟩ := Int.eq_ofNat_of_zero_le rf.2.2.2.1.1
  have h8 := rf.2.2.2.1
  refine p_mono (v_without (l := l) ok hn rf2 (e3.trans hK)) (fun q2 z => ?_)
  rw [e1, e2, ve] at z
  show q1.1 = q2.1
  rcases y with ⟨a, b⟩ | ⟨a, b⟩
  · rcases z with ⟨c, d⟩ | ⟨c, d⟩
    · rw [b, d]
    · exact absurd c a
  · rcases z with ⟨c, d⟩ | ⟨c, d⟩
    · exact absurd a c
    · rw [b, d]
      rw [hK, Int.toNat_natCast] at vlt
      have xk : l.toNat < K := by
        apply Classical.byContradiction
        intro h2
        have := Nat.testBit_lt_two_pow (Nat.lt_of_lt_of_le vlt (Nat.pow_le_pow_right (n := 2) (by decide) (show K ≤ l.toNat by omega)))
        rw [a.2.2] at this
        cases this
      have xl : vwb M ^^^ 2 ^ l.toNat < 2 ^ K := Nat.xor_lt_two_pow vlt (Nat.pow_lt_pow_right (by decide) xk)
      rw [ctn_congr _ (fun w hw => ?_)]
      rw [← wd_eq hn xl (by omega) hw]
      unfold WDw
      rw [hn, Int.toNat_natCast]
end
