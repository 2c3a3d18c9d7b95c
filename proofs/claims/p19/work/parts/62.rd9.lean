/-! ===== the reference's reader: a whole text ===== -/
def bex (b v k : Int) : Int := wI ((ior (iand b (ixor (ishl 3 (wI (2 * v))) (-1))) (ishl k (wI (2 * v)))) + 256)
theorem ior_n2 {a b : Nat} (ha : a < 1073741824) (hb : b < 1073741824) : ior (a : Int) (b : Int) = ((a ||| b : Nat) : Int) := by
  unfold ior
  have e : (Int32.ofInt (a : Int) ||| Int32.ofInt (b : Int)).toBitVec.toNat = a ||| b := by
    rw [Int32.toBitVec_or, BitVec.toNat_or, nonneg_bv (by omega) (by omega), nonneg_bv (by omega) (by omega), Int.toNat_natCast, Int.toNat_natCast]
  have h2 : a ||| b < 2 ^ 30 := Nat.or_lt_two_pow (by omega) (by omega)
  rw [toInt_small _ (by rw [e]; omega), e]
theorem iand_h2 {a : Nat} {m : Int} {k : Nat} (h1 : a < 2147483648) (hm : (Int32.ofInt m).toBitVec.toNat = k) : iand (a : Int) m = ((a &&& k : Nat) : Int) := by
  unfold iand
  have e : (Int32.ofInt (a : Int) &&& Int32.ofInt m).toBitVec.toNat = a &&& k := by
    rw [Int32.toBitVec_and, BitVec.toNat_and, nonneg_bv (by omega) (by omega), hm, Int.toNat_natCast]
  have h2 : a &&& k ≤ a := Nat.and_le_left
  rw [toInt_small _ (by rw [e]; omega), e]
theorem bex_m : ∀ v : Nat, v < 4 → (Int32.ofInt (ixor (ishl 3 (wI (2 * (v : Int)))) (-1))).toBitVec.toNat / 256 = 16777215 := by decide +kernel
theorem bex_k : ∀ v : Nat, v < 4 → ∀ k : Nat, k < 3 → ishl (k : Int) (wI (2 * (v : Int))) = ((k <<< (2 * v) : Nat) : Int) ∧ k <<< (2 * v) < 256 := by decide +kernel
theorem bex_q : ∀ d : Nat, d < 4 → d &&& 16777215 = d := by decide +kernel
theorem bex_n : ∀ b : Nat, b < 1024 → ∀ v : Nat, v < 4 → ∀ k : Nat, k < 3 → 256 * (((b / 256 : Nat) : Int) + 1) ≤ bex b v k ∧ bex b v k ≤ 256 * (((b / 256 : Nat) : Int) + 1) + 255 := fun b hb v hv k hk => by
  obtain ⟨K, hK⟩ : ∃ K, (Int32.ofInt (ixor (ishl 3 (wI (2 * (v : Int)))) (-1))).toBitVec.toNat = K := ⟨_, rfl⟩
  have m := bex_m v hv
  rw [hK] at m
  obtain ⟨k1, k2⟩ := bex_k v hv k hk
  have l1 : b &&& K ≤ b := Nat.and_le_left
  have e3 : ((b &&& K) ||| (k <<< (2 * v))) / 256 = b / 256 := by
    have o : ((b &&& K) ||| (k <<< (2 * v))) / 2 ^ 8 = (b &&& K) / 2 ^ 8 ||| (k <<< (2 * v)) / 2 ^ 8 := Nat.or_div_two_pow
    have a : (b &&& K) / 2 ^ 8 = b / 2 ^ 8 &&& K / 2 ^ 8 := Nat.and_div_two_pow
    have z : k <<< (2 * v) / 2 ^ 8 = 0 := Nat.div_eq_of_lt k2
    rw [a, z, Nat.or_zero, show K / 2 ^ 8 = 16777215 from m, bex_q (b / 2 ^ 8) (by omega)] at o
    exact o
  unfold bex
  rw [iand_h2 (by omega) hK, k1, ior_n2 (by omega) (Nat.lt_of_lt_of_le k2 (by decide))]
  generalize ((b &&& K) ||| (k <<< (2 * v))) = z at e3 ⊢
  rw [wI_id (by omega) (by omega)]
  omega
theorem bex_in {b v k d : Int} (d0 : 0 ≤ d) (d1 : d ≤ 3) (h0 : 256 * d ≤ b) (h1 : b ≤ 256 * d + 255) (v0 : 0 ≤ v) (v1 : v ≤ 3) (k0 : 0 ≤ k) (k1 : k ≤ 2) : 256 * (d + 1) ≤ bex b v k ∧ bex b v k ≤ 256 * (d + 1) + 255 := by
  obtain ⟨b, rfl⟩ := Int.eq_ofNat_of_zero_le (a := b) (by omega)
  obtain ⟨v, rfl⟩ := Int.eq_ofNat_of_zero_le v0
  obtain ⟨k, rfl⟩ := Int.eq_ofNat_of_zero_le k0
  have h := bex_n b (by omega) v (by omega) k (by omega)
  have e : ((b / 256 : Nat) : Int) = d := by omega
  rw [e] at h
  exact h
/-- beside these, what waits -/
def BK (p : Int) (M M' : Mem) : Prop := (∀ b j : Int, ¬ (b = 126 ∧ 29 ≤ j ∧ j ≤ 38) → ¬ (156 ≤ b ∧ b ≤ 159 ∧ j = p) → ¬ b = 155 → mG M' b j = mG M b j) ∧ (¬ mG M 126 36 = 0 → ¬ mG M' 126 36 = 0)
theorem BK.ad {p : Int} {M M' : Mem} (h : BK p M M') (ha : AD M) : AD M' := ha.of (fun j hj => h.1 126 j (fun z => (adc_in hj).1 (by omega)) (fun z => by omega) (by decide))
theorem BK.rf {p : Int} {M : Mem} : BK p M M := ⟨fun _ _ _ _ _ => rfl, fun h => h⟩
theorem BK.rk {p : Int} {M M1 M2 : Mem} (h1 : BK p M M1) (h2 : RK p M1 M2) : BK p M M2 := ⟨fun b j h k l => (h2.1 b j (fun z => h ⟨z.1, by omega, by omega⟩) k).trans (h1.1 b j h k l), fun h => h2.2 (h1.2 h)⟩
theorem BK.pk {p : Int} {M M1 M2 : Mem} (h1 : BK p M M1) (h2 : PK p M1 M2) : BK p M M2 := h1.rk (RK.rf.pk h2)
theorem BK.tk {p : Int} {M M1 M2 : Mem} (h1 : BK p M M1) (h2 : TK M1 M2) : BK p M M2 := h1.rk (RK.rf.tk h2)
theorem BK.tr {p : Int} {M M1 M2 : Mem} (h1 : BK p M M1) (h2 : BK p M1 M2) : BK p M M2 := ⟨fun b j h k l => (h2.1 b j h k l).trans (h1.1 b j h k l), fun h => h2.2 (h1.2 h)⟩
/-- wait -/
theorem pt_wait {M : Mem} {p x : Int} (ha : AD M) (hw : 0 ≤ mG M 126 38 ∧ mG M 126 38 ≤ 1000) : pw (mX9_wait 126 x M) (fun q => BK p M q.2 ∧ (∀ b j : Int, 156 ≤ b → mG q.2 b j = mG M b j) ∧ mG q.2 126 38 = mG M 126 38 + 1 ∧ mG q.2 155 (mG M 126 38) = x ∧ mG q.2 126 36 = mG M 126 36) := by
  unfold mX9_wait
  refine p_gFc (ji := 39) (r := 155) rfl (ha 39 (by decide)) ?_
  refine p_gF (ji := 38) rfl (fun v hv => ?_)
  refine p_aS (fun M1 h1 => ?_)
  refine p_gF (ji := 38) rfl (fun v2 hv2 => ?_)
  refine p_pF (ji := 38) rfl (fun M2 h2 => ?_)
  have e2 : v2 = v := by rw [← hv2, ← hv]; exact st_ne h1 (fun z => absurd z.1 (by decide))
  subst e2
  have w := wI_id (x := v2 + 1) (by omega) (by omega)
  refine p_ret ⟨⟨fun b j z1 z2 z3 => ?_, fun z => ?_⟩, fun b j hb => ?_, ?_, ?_, ?_⟩
  · rw [st_ne h2 (fun y => z1 ⟨y.1, by omega, by omega⟩), st_ne h1 (fun y => z3 y.1)]
  · rw [st_ne h2 (fun y => absurd y.2 (by decide)), st_ne h1 (fun y => absurd y.1 (by decide))]; exact z
  · rw [st_ne h2 (fun y => by omega), st_ne h1 (fun y => by omega)]
  · rw [st_eq h2, w, hv]
  · rw [st_ne h2 (fun y => absurd y.1 (by decide)), hv, st_eq h1]
  · rw [st_ne h2 (fun y => absurd y.2 (by decide)), st_ne h1 (fun y => absurd y.1 (by decide))]
def BB9 (p l2 : Int) (M : Mem) (q : Int × Mem) : Prop := BK p M q.2 ∧ (q.1 = 1 → mG q.2 156 p = mG M 156 p ∧ 0 ≤ mG q.2 157 p ∧ mG q.2 157 p ≤ 3 ∧ 0 ≤ mG q.2 158 p ∧ mG q.2 158 p ≤ 2 ∧ mG q.2 126 38 = mG M 126 38 + 1 ∧ ∃ v k : Int, 0 ≤ v ∧ v ≤ 3 ∧ 0 ≤ k ∧ k ≤ 2 ∧ mG q.2 155 (mG M 126 38) = bex l2 v k)
theorem pt_readBinder {M : Mem} {p l2 : Int} (ha : AD M) (hw : 0 ≤ mG M 126 38 ∧ mG M 126 38 ≤ 1000) : pw (mX9_readBinder 126 p l2 M) (BB9 p l2 M) := by
  have t49 : ∀ M1 : Mem, PK p M M1 → pw (mX9_readBinder_49 126 p l2 M1) (BB9 p l2 M) := by
    intro M1 k1
    unfold mX9_readBinder_49
    refine p_gK ?_
    refine p_call pt_varOf ?_
    rintro v m ⟨e, r0, r1⟩
    have e : m = M1 := e
    have r0 : -1 ≤ v := r0
    have r1 : v ≤ 3 := r1
    subst e
    dsimp only
    refine p_if (fun c => ?_) (fun c => ?_)
    · refine p_gF (ji := 31) rfl (fun _ _ => ?_)
      refine p_pF (ji := 35) rfl (fun M2 h2 => ?_)
      exact p_ret ⟨BK.rf.pk (k1.st2 (by omega) h2), fun z => absurd z (show ¬ (0 : Int) = 1 from by decide)⟩
    · refine p_gK ?_
      refine p_call pt_token ?_
      intro v2 m2 h2
      have h2 : TK m m2 := h2
      have k2 : PK p M m2 := k1.tk h2
      refine p_gK ?_
      refine p_call pt_kindOf ?_
      rintro v3 m3 ⟨e3, r30, r31⟩
      have e3 : m3 = m2 := e3
      have r30 : -1 ≤ v3 := r30
      have r31 : v3 ≤ 2 := r31
      subst e3
      dsimp only
      refine p_if (fun c2 => ?_) (fun c2 => ?_)
      · refine p_gF (ji := 31) rfl (fun _ _ => ?_)
        refine p_pF (ji := 35) rfl (fun M2 h2 => ?_)
        exact p_ret ⟨BK.rf.pk (k2.st2 (by omega) h2), fun z => absurd z (show ¬ (0 : Int) = 1 from by decide)⟩
      · refine p_gK ?_
        refine p_call pt_token ?_
        intro v4 m4 h4
        have h4 : TK m3 m4 := h4
        have k4 : PK p M m4 := k2.tk h4
        refine p_gFc (ji := 42) (r := 157) rfl ((k4.ad ha) 42 (by decide)) ?_
        refine p_aS (fun M5 h5 => ?_)
        have k5 : PK p M M5 := k4.st (by decide) h5
        refine p_gFc (ji := 43) (r := 158) rfl ((k5.ad ha) 43 (by decide)) ?_
        refine p_aS (fun M6 h6 => ?_)
        have k6 : PK p M M6 := k5.st (by decide) h6
        have e38 : mG M6 126 38 = mG M 126 38 := k6.1 126 38 (fun z => by omega) (fun z => by omega)
        refine p_gK ?_
        refine p_call (pt_wait (p := p) (k6.ad ha) (by rw [e38]; exact hw)) ?_
        rintro v7 m7 ⟨b7, g7, f7, a7, -⟩
        have b7 : BK p M6 m7 := b7
        have f7 : mG m7 126 38 = mG M6 126 38 + 1 := f7
        have a7 : mG m7 155 (mG M6 126 38) = bex l2 v v3 := a7
        rw [e38] at f7 a7
        have g7 : ∀ b j : Int, 156 ≤ b → mG m7 b j = mG M6 b j := g7
        have e157 : mG m7 157 p = v := by rw [g7 157 p (by decide), st_ne h6 (fun z => absurd z.1 (by decide)), st_eq h5]
        have e158 : mG m7 158 p = v3 := by rw [g7 158 p (by decide), st_eq h6]
        refine p_ret ⟨(BK.rf.pk k6).tr b7, fun _ => ⟨?_, by rw [e157]; omega, by rw [e157]; exact r1, by rw [e158]; omega, by rw [e158]; exact r31, f7, v, v3, by omega, r1, by omega, r31, a7⟩⟩
        rw [g7 156 p (by decide)]
        exact k6.1 156 p (fun z => by omega) (fun z => by omega)
  unfold mX9_readBinder
  refine p_gFc (ji := 44) (r := 159) rfl (ha 44 (by decide)) ?_
  refine p_aS (fun M1 h1 => ?_)
  have k1 : PK p M M1 := PK.rf.st (by decide) h1
  refine p_gF (ji := 41) rfl (fun _ _ => ?_)
  refine p_aG (fun _ _ => ?_)
  refine p_if (fun _ => t49 _ k1) (fun _ => ?_)
  refine p_gF (ji := 32) rfl (fun _ _ => ?_)
  refine p_if (fun _ => ?_) (fun _ => ?_)
  · refine p_gFc (ji := 44) (r := 159) rfl ((k1.ad ha) 44 (by decide)) ?_
    refine p_gF (ji := 33) rfl (fun _ _ => ?_)
    refine p_aS (fun M2 h2 => ?_)
    refine p_gK ?_
    refine p_call pt_token ?_
    intro v m h
    exact t49 _ ((k1.st (by decide) h2).tk h)
  · refine p_gF (ji := 31) rfl (fun _ _ => ?_)
    refine p_pF (ji := 35) rfl (fun M2 h2 => ?_)
    exact p_ret ⟨BK.rf.pk (k1.st2 (by omega) h2), fun z => absurd z (show ¬ (0 : Int) = 1 from by decide)⟩
/-- after a part: what is new -/
def NEW (p l1 : Int) (M M' : Mem) : Prop := 0 ≤ mG M' 156 p ∧ mG M' 156 p ≤ 12 ∧ (9 ≤ mG M' 156 p → 0 ≤ mG M' 157 p ∧ mG M' 157 p ≤ 3) ∧ (mG M' 156 p ≤ 3 → 0 ≤ mG M' 158 p ∧ mG M' 158 p ≤ 2) ∧ mG M' 126 38 = mG M 126 38 + arN (mG M' 156 p) ∧ (mG M' 156 p = 0 → (4 ≤ idiv l1 256 → ¬ mG M' 126 36 = 0) ∧ ∃ v k : Int, 0 ≤ v ∧ v ≤ 3 ∧ 0 ≤ k ∧ k ≤ 2 ∧ mG M' 155 (mG M 126 38) = bex l1 v k)
def PP9 (p l1 : Int) (M : Mem) (q : Int × Mem) : Prop := BK p M q.2 ∧ (q.1 = 1 → NEW p l1 M q.2)
theorem pt_102 {M0 M : Mem} {p l1 : Int} (b0 : BK p M0 M) (ha : AD M0) (hr : -1 ≤ mG M 156 p ∧ mG M 156 p ≤ 10 ∧ ¬ mG M 156 p = -1) (hw : mG M 126 38 = mG M0 126 38) (hw0 : 0 ≤ mG M0 126 38 ∧ mG M0 126 38 ≤ 500) (hl : mG M 156 p = 0 → 4 ≤ idiv l1 256 → ¬ mG M 126 36 = 0) : pw (mX9_readPart_102 126 l1 p M) (PP9 p l1 M0) := by
  unfold mX9_readPart_102
  refine p_gK ?_
  refine p_call pt_token ?_
  intro v1 m1 h1
  have h1 : TK M m1 := h1
  dsimp only
  have b1 : BK p M0 m1 := b0.tk h1
  have a1 := b1.ad ha
  have e156 : mG m1 156 p = mG M 156 p := h1.1 156 p (fun z => by omega)
  have e38 : mG m1 126 38 = mG M0 126 38 := (h1.1 126 38 (fun z => by omega)).trans hw
  have hl1 : mG m1 156 p = 0 → 4 ≤ idiv l1 256 → ¬ mG m1 126 36 = 0 := fun z y => h1.2 (hl (by rw [← e156]; exact z) y)
  rw [← e156] at hr
  refine p_gFc (ji := 41) (r := 156) rfl (a1 41 (by decide)) ?_
  refine p_aG (fun v2 hv2 => ?_)
  refine p_if (fun c => ?_) (fun c => ?_)
  · refine p_gFc (ji := 41) (r := 156) rfl (a1 41 (by decide)) ?_
    refine p_aG (fun v3 hv3 => ?_)
    refine p_if (fun c3 => ?_) (fun c3 => ?_)
    · refine p_gK ?_
      refine p_call (pt_readSame a1) ?_
      intro v4 m4 k4
      have k4 : PK p m1 m4 := k4
      refine p_zR (fun _ => ?_)
      have e : mG m4 156 p = mG m1 156 p := k4.1 156 p (fun z => by omega) (fun z => by omega)
      have e8 : mG m4 156 p = 8 := by rw [e, hv3]; exact c3
      refine p_ret ⟨b1.pk k4, fun _ => ?_⟩
      show NEW p l1 M0 m4
      unfold NEW
      rw [e8]
      exact ⟨by decide, by decide, fun z => absurd z (by decide), fun z => absurd z (by decide), (k4.1 126 38 (fun z => by omega) (fun z => by omega)).trans (e38.trans (Int.add_zero _).symm), fun z => absurd z (by decide)⟩
    · refine p_gFc (ji := 41) (r := 156) rfl (a1 41 (by decide)) ?_
      refine p_aG (fun v4 hv4 => ?_)
      refine p_if (fun c4 => ?_) (fun c4 => ?_)
      · refine p_gK ?_
        refine p_call (pt_wait (p := p) a1 (by rw [e38]; omega)) ?_
        rintro v5 m5 ⟨b5, g5, f5, -, l5⟩
        have b5 : BK p m1 m5 := b5
        have f5 : mG m5 126 38 = mG m1 126 38 + 1 := f5
        have g5 : ∀ b j : Int, 156 ≤ b → mG m5 b j = mG m1 b j := g5
        have e5 : mG m5 156 p = v2 := (g5 156 p (by decide)).trans hv2
        dsimp only
        refine p_gFc (ji := 41) (r := 156) rfl ((b5.ad a1) 41 (by decide)) ?_
        refine p_aG (fun v6 hv6 => ?_)
        refine p_if (fun c6 => ?_) (fun c6 => ?_)
        · have e4 : mG m5 156 p = 4 := by rw [hv6]; exact c6
          refine p_ret ⟨b1.tr b5, fun _ => ?_⟩
          show NEW p l1 M0 m5
          unfold NEW
          rw [e4]
          exact ⟨by decide, by decide, fun z => absurd z (by decide), fun z => absurd z (by decide), by rw [f5, e38]; rfl, fun z => absurd z (by decide)⟩
        · refine p_gK ?_
          refine p_call (pt_wait (p := p) (b5.ad a1) (by rw [f5, e38]; omega)) ?_
          rintro v7 m7 ⟨b7, g7, f7, -, l7⟩
          have b7 : BK p m5 m7 := b7
          have f7 : mG m7 126 38 = mG m5 126 38 + 1 := f7
          have g7 : ∀ b j : Int, 156 ≤ b → mG m7 b j = mG m5 b j := g7
          have e7 : mG m7 156 p = v2 := (g7 156 p (by decide)).trans e5
          have ar : arN v2 = 2 := by unfold arN; rw [if_neg (by omega), if_pos (by omega)]
          refine p_ret ⟨(b1.tr b5).tr b7, fun _ => ?_⟩
          show NEW p l1 M0 m7
          unfold NEW
          rw [e7]
          exact ⟨by omega, by omega, fun z => by omega, fun z => by omega, by rw [f7, f5, e38, ar]; omega, fun z => by omega⟩
      · refine p_gK ?_
        refine p_call (pt_readRelation a1) ?_
        rintro v5 m5 ⟨k5, g5⟩
        have k5 : RK p m1 m5 := k5
        have g5 : v5 = 1 → 9 ≤ mG m5 156 p ∧ mG m5 156 p ≤ 12 ∧ 0 ≤ mG m5 157 p ∧ mG m5 157 p ≤ 3 := g5
        refine p_zR (fun _ => ?_)
        refine p_ret ⟨b1.rk k5, fun z => ?_⟩
        have g5 := g5 z
        have ar : arN (mG m5 156 p) = 0 := by unfold arN; rw [if_neg (by omega), if_neg (by omega)]
        show NEW p l1 M0 m5
        unfold NEW
        rw [ar]
        exact ⟨by omega, by omega, fun _ => g5.2.2, fun z => by omega, (k5.1 126 38 (fun z => by omega) (fun z => by omega)).trans (e38.trans (Int.add_zero _).symm), fun z => by omega⟩
  · refine p_gK ?_
    refine p_call (pt_readBinder a1 (by rw [e38]; omega)) ?_
    rintro v5 m5 ⟨b5, g5⟩
    have b5 : BK p m1 m5 := b5
    refine p_zR (fun _ => ?_)
    refine p_ret ⟨b1.tr b5, fun z => ?_⟩
    have g5 : mG m5 156 p = mG m1 156 p ∧ 0 ≤ mG m5 157 p ∧ mG m5 157 p ≤ 3 ∧ 0 ≤ mG m5 158 p ∧ mG m5 158 p ≤ 2 ∧ mG m5 126 38 = mG m1 126 38 + 1 ∧ ∃ v k : Int, 0 ≤ v ∧ v ≤ 3 ∧ 0 ≤ k ∧ k ≤ 2 ∧ mG m5 155 (mG m1 126 38) = bex l1 v k := g5 z
    obtain ⟨g1, g2, g3, g4, g6, g7, v, k, g8, g9, h0, h1', h2⟩ := g5
    have ar : arN (mG m5 156 p) = 1 := by unfold arN; rw [if_pos (by omega)]
    show NEW p l1 M0 m5
    unfold NEW
    rw [ar]
    refine ⟨by omega, by omega, fun z => by omega, fun _ => ⟨g4, g6⟩, by rw [g7, e38], fun y => ⟨fun x => b5.2 (hl1 (by rw [← g1]; exact y) x), v, k, g8, g9, h0, h1', ?_⟩⟩
    rw [← e38]; exact h2
/-- a part is read -/
def RP9 (l1 : Int) (M : Mem) (q : Int × Mem) : Prop := ∃ M1, (∀ b j : Int, ¬ (b = 126 ∧ 29 ≤ j ∧ j ≤ 40 ∧ ¬ j = 39) → mG M1 b j = mG M b j) ∧ mG M1 126 38 = mG M 126 38 ∧ mG M1 126 40 = mG M 126 40 + 1 ∧ (¬ mG M 126 36 = 0 → ¬ mG M1 126 36 = 0) ∧ (mG M 126 40 = 40 → ¬ mG M1 126 36 = 0) ∧ PP9 (if 40 ≤ mG M 126 40 then 40 else mG M 126 40) l1 M1 q
theorem pt_readPart {M : Mem} {l1 : Int} (ha : AD M) (hw0 : 0 ≤ mG M 126 38 ∧ mG M 126 38 ≤ 500) (hn : 0 ≤ mG M 126 40 ∧ mG M 126 40 ≤ 1000) : pw (mX9_readPart 126 l1 M) (RP9 l1 M) := by
  have t36 : ∀ (p : Int) (M1 : Mem), AD M1 → mG M1 126 38 = mG M 126 38 → mG M1 126 40 = mG M 126 40 → pw (mX9_readPart_36 126 l1 p M1) (fun q => ∃ M2, M2 = mS M1 126 40 (wI (mG M 126 40 + 1)) ∧ PP9 p l1 M2 q) := by
    intro p M1 a1 e38 e40
    unfold mX9_readPart_36
    refine p_gFc (ji := 40) rfl e40 ?_
    refine p_pF (ji := 40) rfl (fun M2 h2 => ?_)
    have g2 : ∀ b j : Int, ¬ (b = 126 ∧ j = 40) → mG M2 b j = mG M1 b j := fun b j hb => st_ne h2 hb
    have a2 : AD M2 := a1.of (fun j hj => g2 126 j (fun z => (adc_in hj).2.1 z.2))
    have e2 : mG M2 126 38 = mG M 126 38 := (g2 126 38 (fun z => absurd z.2 (by decide))).trans e38
    refine p_gFc (ji := 41) (r := 156) rfl (a2 41 (by decide)) ?_
    refine p_gK ?_
    refine p_call pt_actOf ?_
    rintro v3 m3 ⟨e3, r30, r31⟩
    have e3 : m3 = M2 := e3
    have r30 : -1 ≤ v3 := r30
    have r31 : v3 ≤ 10 := r31
    subst e3
    dsimp only
    refine p_aS (fun M4 h4 => ?_)
    have k4 : RK p m3 M4 := RK.rf.st (by decide) h4
    have e4 : mG M4 156 p = v3 := st_eq h4
    have a4 := k4.ad a2
    have e438 : mG M4 126 38 = mG m3 126 38 := st_ne h4 (fun z => absurd z.1 (by decide))
    refine p_gFc (ji := 41) (r := 156) rfl (a4 41 (by decide)) ?_
    refine p_aGc e4 ?_
    refine p_if (fun c => ?_) (fun c => ?_)
    · refine p_gK ?_
      refine p_call (pt_readRelation a4) ?_
      rintro v5 m5 ⟨k5, g5⟩
      have k5 : RK p M4 m5 := k5
      have g5 : v5 = 1 → 9 ≤ mG m5 156 p ∧ mG m5 156 p ≤ 12 ∧ 0 ≤ mG m5 157 p ∧ mG m5 157 p ≤ 3 := g5
      refine p_zR (fun _ => ?_)
      refine p_ret ⟨m3, h2, BK.rf.rk (k4.tr k5), fun z => ?_⟩
      have g5 := g5 z
      have ar : arN (mG m5 156 p) = 0 := by unfold arN; rw [if_neg (by omega), if_neg (by omega)]
      show NEW p l1 m3 m5
      unfold NEW
      rw [ar]
      exact ⟨by omega, by omega, fun _ => g5.2.2, fun z => by omega, ((k5.1 126 38 (fun z => by omega) (fun z => by omega)).trans e438).trans (Int.add_zero _).symm, fun z => by omega⟩
    · have t : ∀ M5 : Mem, TK M4 M5 → (mG M5 156 p = 0 → 4 ≤ idiv l1 256 → ¬ mG M5 126 36 = 0) → pw (mX9_readPart_102 126 l1 p M5) (fun q => ∃ M2, M2 = mS M1 126 40 (wI (mG M 126 40 + 1)) ∧ PP9 p l1 M2 q) := by
        intro M5 h5 hl
        have e5 : mG M5 156 p = v3 := (h5.1 156 p (fun z => by omega)).trans e4
        exact p_mono (pt_102 (M0 := m3) ((BK.rf.rk k4).tk h5) a2 (by rw [e5]; omega) ((h5.1 126 38 (fun z => by omega)).trans e438) (by rw [e2]; exact hw0) hl) (fun q hq => ⟨m3, h2, hq⟩)
      refine p_gFc (ji := 41) (r := 156) rfl (a4 41 (by decide)) ?_
      refine p_aGc e4 ?_
      refine p_if (fun c2 => ?_) (fun c2 => ?_)
      · exact t M4 TK.rf (fun z => by omega)
      · refine p_dQ (fun d hd => ?_)
        refine p_if (fun c3 => ?_) (fun c3 => ?_)
        · exact t M4 TK.rf (fun z y => by omega)
        · refine p_gF (ji := 31) rfl (fun _ _ => ?_)
          refine p_gK ?_
          refine p_call (pt_later (by decide)) ?_
          rintro v5 m5 ⟨h5, g5⟩
          exact t m5 h5 (fun _ _ => g5)
  have t18 : ∀ M1 : Mem, TK M M1 → (mG M 126 40 = 40 → ¬ mG M1 126 36 = 0) → pw (mX9_readPart_18 126 l1 M1) (RP9 l1 M) := by
    intro M1 h1 hl
    have e38 : mG M1 126 38 = mG M 126 38 := h1.1 126 38 (fun z => by omega)
    have e40 : mG M1 126 40 = mG M 126 40 := h1.1 126 40 (fun z => by omega)
    have w := wI_id (x := mG M 126 40 + 1) (by omega) (by omega)
    have fin : ∀ (p : Int) (q : Int × Mem), p = (if 40 ≤ mG M 126 40 then 40 else mG M 126 40) → (∃ M2, M2 = mS M1 126 40 (wI (mG M 126 40 + 1)) ∧ PP9 p l1 M2 q) → RP9 l1 M q := by
      rintro p q rfl ⟨M2, h2, h3⟩
      have g2 : ∀ b j : Int, ¬ (b = 126 ∧ j = 40) → mG M2 b j = mG M1 b j := fun b j hb => st_ne h2 hb
      refine ⟨M2, fun b j hb => (g2 b j (fun z => hb ⟨z.1, by omega, by omega, by omega⟩)).trans (h1.1 b j (fun z => hb ⟨z.1, by omega, by omega, by omega⟩)), (g2 126 38 (fun z => absurd z.2 (by decide))).trans e38, ?_, fun z => ?_, fun z => ?_, h3⟩
      · rw [st_eq h2, w]
      · rw [g2 126 36 (fun z => absurd z.2 (by decide))]; exact h1.2 z
      · rw [g2 126 36 (fun z => absurd z.2 (by decide))]; exact hl z
    unfold mX9_readPart_18
    refine p_gFc (ji := 40) rfl e40 ?_
    refine p_if (fun c => ?_) (fun c => ?_)
    · exact p_mono (t36 40 M1 (h1.ad ha) e38 e40) (fun q h => fin 40 q (by rw [if_pos c]) h)
    · refine p_gFc (ji := 40) rfl e40 ?_
      exact p_mono (t36 (mG M 126 40) M1 (h1.ad ha) e38 e40) (fun q h => fin _ q (by rw [if_neg c]) h)
  unfold mX9_readPart
  refine p_gF (ji := 40) rfl (fun v hv => ?_)
  refine p_if (fun c => ?_) (fun c => ?_)
  · refine p_gF (ji := 31) rfl (fun _ _ => ?_)
    refine p_gK ?_
    refine p_call (pt_later (by decide)) ?_
    rintro v5 m5 ⟨h5, g5⟩
    exact t18 m5 h5 (fun _ => g5)
  · exact t18 M TK.rf (fun z => absurd (hv.symm.trans z) c)
/-! the whole text -/
def VLn (M : Mem) (k : Int) : Prop := 0 ≤ mG M 156 k ∧ (9 ≤ mG M 156 k → 0 ≤ mG M 157 k ∧ mG M 157 k ≤ 3) ∧ (mG M 156 k ≤ 3 → 0 ≤ mG M 158 k ∧ mG M 158 k ≤ 2)
def GH (M : Mem) (np : Nat) (w : Int) : Prop := ∃ g : Nat → Int, g 0 = 1 ∧ g np = w ∧ ∀ k : Nat, k < np → 1 ≤ g k ∧ g (k + 1) = g k - 1 + arN (mG M 156 k) ∧ VLn M k
/-- how far it is read -/
def PI (M : Mem) : Prop := 0 ≤ mG M 126 40 ∧ (mG M 126 40 ≤ 40 → GH M (mG M 126 40).toNat (mG M 126 38)) ∧ (41 ≤ mG M 126 40 → ¬ mG M 126 36 = 0) ∧ (mG M 126 36 = 0 → (∀ m : Nat, (m : Int) ≤ mG M 126 40 → (∀ k : Nat, k < m → mG M 156 k = 0) → m ≤ 4) ∧ ((∀ k : Nat, (k : Int) < mG M 126 40 → mG M 156 k = 0) → mG M 126 38 = 1 ∧ 256 * mG M 126 40 ≤ mG M 155 0 ∧ mG M 155 0 ≤ 256 * mG M 126 40 + 255))
/-- what is taken as a text -/
def TXT (M : Mem) : Prop := 1 ≤ mG M 126 40 ∧ mG M 126 40 ≤ 40 ∧ GH M (mG M 126 40).toNat 0 ∧ ∃ a : Nat, a ≤ 4 ∧ (a : Int) < mG M 126 40 ∧ ¬ mG M 156 a = 0
theorem least_of {P : Nat → Prop} : ∀ n : Nat, (∀ k, k < n → P k) ∨ ∃ a, a < n ∧ ¬ P a ∧ ∀ k, k < a → P k := by
  intro n
  induction n with
  | zero => exact Or.inl (fun k h => absurd h (Nat.not_lt_zero k))
  | succ n ih =>
    rcases ih with h | ⟨a, h1, h2, h3⟩
    · by_cases e : P n
      · exact Or.inl (fun k hk => by
          by_cases z : k = n
          · rw [z]; exact e
          · exact h k (by omega))
      · exact Or.inr ⟨n, Nat.lt_succ_self n, e, h⟩
    · exact Or.inr ⟨a, by omega, h2, h3⟩
theorem PI.txt {M : Mem} (h : PI M) (hw : mG M 126 38 ≤ 0) (hl : mG M 126 36 = 0) : TXT M := by
  obtain ⟨h0, h1, h2, h3⟩ := h
  have n40 : mG M 126 40 ≤ 40 := Decidable.byContradiction fun z => h2 (by omega) hl
  obtain ⟨g, g0, gn, gk⟩ := h1 n40
  obtain ⟨la1, la2⟩ := h3 hl
  have np : 1 ≤ mG M 126 40 := Decidable.byContradiction fun z => by
    have e : (mG M 126 40).toNat = 0 := by omega
    rw [e, g0] at gn; omega
  have w0 : mG M 126 38 = 0 := by
    obtain ⟨b, c, d⟩ := gk ((mG M 126 40).toNat - 1) (by omega)
    rw [show (mG M 126 40).toNat - 1 + 1 = (mG M 126 40).toNat by omega, gn] at c
    have : 0 ≤ arN (mG M 156 (((mG M 126 40).toNat - 1 : Nat) : Int)) := by unfold arN; split <;> (try split) <;> omega
    omega
  refine ⟨np, n40, ⟨g, g0, by rw [gn, w0], gk⟩, ?_⟩
  rcases least_of (P := fun k => mG M 156 (k : Int) = 0) (mG M 126 40).toNat with h | ⟨a, a1, a2, a3⟩
  · have := (la2 (fun k hk => h k (by omega))).1
    omega
  · exact ⟨a, la1 a (by omega) a3, by omega, a2⟩
theorem PI.step {M M1 M2 : Mem} {l1 r : Int} (h : PI M) (hw : 1 ≤ mG M 126 38) (e1 : ∀ b j : Int, ¬ b = 126 → mG M1 b j = mG M b j) (e38 : mG M1 126 38 = mG M 126 38 - 1) (e40 : mG M1 126 40 = mG M 126 40) (e36 : mG M1 126 36 = mG M 126 36) (el : l1 = mG M 155 (mG M 126 38 - 1)) (hp : RP9 l1 M1 (r, M2)) (hr : r = 1) : PI M2 := by
  obtain ⟨h0, h1, h2, h3⟩ := h
  obtain ⟨N, n1, n38, n40, n36, nn, bk, new⟩ := hp
  have new := new hr
  rw [e40] at n40 nn bk new
  rw [e38] at n38
  rw [e36] at n36
  have m40 : mG M2 126 40 = mG M 126 40 + 1 := by
    rw [show mG M2 126 40 = mG N 126 40 from bk.1 126 40 (fun z => by omega) (fun z => by omega) (by decide), n40]
  have lm : ¬ mG M 126 36 = 0 → ¬ mG M2 126 36 = 0 := fun z => bk.2 (n36 z)
  by_cases c : 40 ≤ mG M 126 40
  · have l2 : ¬ mG M2 126 36 = 0 := by
      by_cases c2 : mG M 126 40 = 40
      · exact bk.2 (nn c2)
      · exact lm (h2 (by omega))
    exact ⟨by omega, fun z => by omega, fun _ => l2, fun z => absurd z l2⟩
  · rw [if_neg c] at bk new
    obtain ⟨p, hp⟩ : ∃ p : Nat, mG M 126 40 = (p : Int) := ⟨(mG M 126 40).toNat, by omega⟩
    rw [hp] at bk new m40
    have ek : ∀ k : Nat, ¬ k = p → mG M2 156 k = mG M 156 k ∧ mG M2 157 k = mG M 157 k ∧ mG M2 158 k = mG M 158 k := by
      intro k hk
      have z : ∀ b : Int, 156 ≤ b → mG M2 b k = mG M b k := fun b hb => by
        rw [show mG M2 b k = mG N b k from bk.1 b k (fun z => by omega) (fun z => by omega) (by omega), n1 b k (by omega), e1 b k (by omega)]
      exact ⟨z 156 (by decide), z 157 (by decide), z 158 (by decide)⟩
    obtain ⟨w1, w2, w3, w4, w5, w6⟩ := new
    have w1 : 0 ≤ mG M2 156 p := w1
    have w5 : mG M2 126 38 = mG N 126 38 + arN (mG M2 156 p) := w5
    rw [n38] at w5 w6
    have h1 := h1 (by omega)
    rw [hp, Int.toNat_natCast] at h1
    obtain ⟨g, g0, gn, gk⟩ := h1
    refine ⟨by omega, fun z => ?_, fun z => by omega, fun z => ?_⟩
    · rw [m40, show ((p : Int) + 1).toNat = p + 1 by omega]
      refine ⟨fun k => if k ≤ p then g k else mG M2 126 38, by show (if 0 ≤ p then g 0 else _) = 1; rw [if_pos (Nat.zero_le p)]; exact g0, by show (if p + 1 ≤ p then g (p + 1) else _) = _; rw [if_neg (by omega)], fun k hk => ?_⟩
      show 1 ≤ (if k ≤ p then g k else _) ∧ (if k + 1 ≤ p then g (k + 1) else _) = (if k ≤ p then g k else _) - 1 + _ ∧ _
      rw [if_pos (by omega)]
      by_cases e : k = p
      · subst e
        rw [if_neg (by omega), gn]
        exact ⟨hw, by omega, w1, w3, w4⟩
      · obtain ⟨x1, x2, x3⟩ := ek k e
        rw [if_pos (by omega)]
        unfold VLn
        rw [x1, x2, x3]
        exact gk k (by omega)
    · have z0 : mG M 126 36 = 0 := Decidable.byContradiction fun y => lm y z
      obtain ⟨la1, la2⟩ := h3 z0
      have all : (∀ k : Nat, k < p + 1 → mG M2 156 k = 0) → (p : Int) ≤ 3 ∧ mG M2 126 38 = 1 ∧ 256 * ((p : Int) + 1) ≤ mG M2 155 0 ∧ mG M2 155 0 ≤ 256 * ((p : Int) + 1) + 255 := by
        intro hz
        have zp := hz p (by omega)
        obtain ⟨b1, b2, b3⟩ := la2 (fun k hk => by rw [← (ek k (by omega)).1]; exact hz k (by omega))
        rw [hp] at b2 b3
        rw [b1, show (1 : Int) - 1 = 0 by decide] at el w6
        have p4 := la1 p (by omega) (fun k hk => by rw [← (ek k (by omega)).1]; exact hz k (by omega))
        obtain ⟨y1, v, k, v0, v1, k0, k1, y2⟩ := w6 zp
        have y2 : mG M2 155 0 = bex l1 v k := y2
        have p3 : (p : Int) ≤ 3 := Decidable.byContradiction fun x => by
          have ep : (p : Int) = 4 := by omega
          rw [ep] at b2 b3
          have d := idiv_e (x := l1) (y := 256) (by omega) (by omega) (by decide) (by decide)
          exact y1 (by rw [d]; omega) z
        have bx := bex_in (d := p) (b := l1) (by omega) p3 (by omega) (by omega) v0 v1 k0 k1
        rw [zp] at w5
        have a0 : arN 0 = 1 := rfl
        exact ⟨p3, by omega, by rw [y2]; exact bx.1, by rw [y2]; exact bx.2⟩
      refine ⟨fun m hm hz => ?_, fun hz => ?_⟩
      · by_cases e : m = p + 1
        · subst e
          have := (all hz).1
          omega
        · exact la1 m (by omega) (fun k hk => by rw [← (ek k (by omega)).1]; exact hz k hk)
      · rw [m40]
        exact (all (fun k hk => hz k (by omega))).2
