/-! ===== what both sides hold, as shapes and texts ===== -/
def shp (M : Mem) : SH := (mG M 5, mG M 4 6, mG M 6, mG M 7)
theorem st_shp (M : Mem) : ∀ r : Nat, stC 4 M r = (shp M).st r := by
  intro r
  induction r with
  | zero => rfl
  | succ r ih =>
    show stC 4 M r + szC 4 M (mG M (4 + 2) r) * szC 4 M (mG M (4 + 3) r) = (shp M).st r + (shp M).zv ((shp M).k1 r) * (shp M).zv ((shp M).k2 r)
    rw [ih]
    rfl
theorem sOf_0 : sOf 0 = 3 := rfl
section
variable {n : Nat} {M : Mem}
theorem shp_ok (iM : I n M) : (shp M).ok :=
  ⟨fun k k0 k1 => rd_Ssizes iM (a := 5) (i := k) rfl k0 k1, rd_Shape_6 iM (a := 4) rfl, fun r _ _ => ⟨rd_Sfirst iM (a := 6) (i := r) rfl, rd_Ssecond iM (a := 7) (i := r) rfl⟩⟩
theorem shp_c (iM : I n M) (h : SR 0 M) : SHC (shp M) 4 M := by
  obtain ⟨_, _, _, lo, _⟩ := h
  rw [sOf_0] at lo
  replace lo : LO 4 M := lo
  obtain ⟨l1, l2⟩ := lo
  refine ⟨⟨rd_Shape_0 iM (a := 4) rfl, rd_Shape_1 iM (a := 4) rfl, rd_Shape_2 iM (a := 4) rfl, rd_Shape_3 iM (a := 4) rfl, rd_Shape_4 iM (a := 4) rfl, rd_Shape_5 iM (a := 4) rfl, rfl, ?_⟩, fun k k0 k1 => rfl, fun r r0 r1 => ?_⟩
  · rw [l1, st_shp]; rfl
  · have n4 := rd_Shape_6 iM (a := 4) rfl
    obtain ⟨x, rfl⟩ := Int.eq_ofNat_of_zero_le r0
    obtain ⟨a, b, c⟩ := l2 x r1
    refine ⟨rfl, rfl, ?_, ?_, ?_⟩
    · show mG M (4 + 4) _ = _
      rw [a, st_shp, Int.toNat_natCast]
    · show mG M (4 + 5) _ = _
      rw [b]; rfl
    · show mG M (4 + 6) _ = _
      rw [c]; rfl
theorem shp_r (h : SR 0 M) : RST (shp M) M := by
  obtain ⟨s1, s2, s3, _⟩ := h
  rw [sOf_0] at s1 s2 s3
  replace s2 : mG M 4 6 = mG M 134 0 := s2
  refine ⟨fun k k0 k1 => ?_, s2.symm, fun r r0 r1 => ?_⟩
  · have := s1 k k0 k1
    rw [show 3 * (0 : Int) + k = k by omega] at this
    exact this.symm
  · have r1 : r < mG M 4 6 := r1
    have := s3 r r0 (by omega)
    rw [show 4 * (0 : Int) + r = r by omega] at this
    exact ⟨this.1.symm, this.2.symm⟩
theorem ex_fun {Q : Nat → List Row → Prop} (h : ∀ s, ∃ p, Q s p) : ∃ P : Nat → List Row, ∀ s, Q s (P s) := ⟨fun s => Classical.choose (h s), fun s => Classical.choose_spec (h s)⟩
/-- the stories' texts, on both sides -/
theorem told_P (iM : I n M) (h : SR 0 M) (h2 : S2 0 M) : ∃ P : Nat → List Row, TXP (shp M) P M ∧ RTP (shp M) P (mG M 138 0) M := by
  obtain ⟨_, ⟨b1, b2⟩, _⟩ := h2
  rw [sOf_0] at b1 b2
  have r := shp_r h
  have e134 : mG M 134 0 = (shp M).nr := r.2.1
  obtain ⟨P, hP⟩ := ex_fun (Q := fun s ps => (s : Int) < mG M 138 0 → 169 < mG M 14 (s : Int) ∧ TT ps (mG M 14 (s : Int)) M ∧ RT ps (s : Int) M ∧ ty (shp M).nr (shp M).k1 (shp M).k2 [(0, 255)] ps) (fun s => by
    by_cases c : (s : Int) < mG M 138 0
    · obtain ⟨_, _, z, ps, t1, t2, t3⟩ := b2 (s : Int) (by omega) c
      have r8 := rd_Mstories iM (a := 138) (i := 0) rfl
      refine ⟨ps, fun _ => ⟨?_, t1, ?_, ?_⟩⟩
      · have := tx_at iM (i := 0) (s := (s : Int)) (by decide) (by decide) (by omega) (by omega) z
        exact this.1
      · rw [show 9 * (0 : Int) + (s : Int) = (s : Int) by omega] at t2
        exact t2
      · refine ty.mono (Int.le_of_eq e134) (fun x x0 x1 => ?_) _ _ t3
        have := r.2.2 x x0 (by omega)
        rw [show 4 * (0 : Int) + x = x by omega]
        exact ⟨this.1.symm, this.2.symm⟩
    · exact ⟨[], fun w => absurd w c⟩)
  refine ⟨P, fun s hs => ?_, fun s hs => ?_⟩
  · have := hP s (by rw [← b1]; exact hs)
    exact ⟨this.1, this.2.1, this.2.2.2⟩
  · have := hP s hs
    exact ⟨this.2.2.1, this.2.1.1.1, this.2.2.2⟩
theorem vw_eq (iM : I n M) (h : SR 0 M) (h2 : S2 0 M) : tvb M = vwb M := by
  obtain ⟨_, ⟨b1, b2⟩, _⟩ := h2
  rw [sOf_0] at b1 b2
  obtain ⟨_, _, _, _, _, d1, d2, _⟩ := h
  rw [sOf_0] at d1 d2
  have r8 := rd_Mstories iM (a := 138) (i := 0) rfl
  unfold tvb vwb
  rw [d1, d2, b1]
  refine bitsOf_congr _ (fun s hs => ?_)
  obtain ⟨x, y, _⟩ := b2 (s : Int) (by omega) (by omega)
  unfold vwf
  rw [show 8 * (0 : Int) + (s : Int) = (s : Int) by omega] at x y
  replace x : mG M 15 (s : Int) = mG M 139 (s : Int) := x
  replace y : mG M 16 (s : Int) = mG M 140 (s : Int) := y
  rw [x, y]
end
/-! ===== what is known, on both sides ===== -/
def KO (i : Int) (M : Mem) : Prop := ∀ k : Int, 0 ≤ k → k < mG M 146 i → mG M 147 (40 * i + k) < 9 * mG M 134 i ∧ (mG M 136 (4 * i + mG M 147 (40 * i + k) / 9) = -1 → mG M 147 (40 * i + k) % 3 = 0)
section
variable {n : Nat} {M : Mem}
theorem kno_of (iM : I n M) (h : SR 0 M) (ko : KO 0 M) : KNO (shp M) M := by
  have r := shp_r h
  refine ⟨rd_Mknowns iM (a := 146) (i := 0) rfl, fun k hk => ⟨⟨(rd_MknownOf iM (a := 147) (i := (k : Int)) rfl).1, ?_⟩, ?_⟩⟩
  · have := (ko (k : Int) (by omega) hk).1
    rw [show 40 * (0 : Int) + (k : Int) = (k : Int) by omega, r.2.1] at this
    exact this
  · have := rd_MknownIs iM (a := 148) (i := (k : Int)) rfl
    omega
theorem kn_class (iM : I n M) (h : SR 0 M) (h2 : S2 0 M) (ko : KO 0 M) : ∀ r i j : Int, (0 ≤ r ∧ r < (shp M).nr) → (0 ≤ i ∧ i < (shp M).zv ((shp M).k1 r)) → (0 ≤ j ∧ j < (shp M).zv ((shp M).k2 r)) → ∀ m, FW 32 M m → K2 m → pw (mX6_knownOf 3 r i j m) (fun q => q.2 = m ∧ q.1 = knR (shp M) M ((shp M).at' r i j)) := by
  intro r i j hr hi hj m fr km
  have ok := shp_ok iM
  have n4 := ok.2.1
  have z1 := ok.zv (k := (shp M).k1 r) (by have := (ok.2.2 r hr.1 hr.2).1; omega)
  have z2 := ok.zv (k := (shp M).k2 r) (ok.2.2 r hr.1 hr.2).2
  have rs := shp_r h
  obtain ⟨_, _, _, _, _, d1, d2, d3⟩ := h
  rw [sOf_0] at d1 d2 d3
  obtain ⟨_, _, _, sd, _⟩ := h2
  have e18 : mG m 3 18 = mG M 3 18 := fr 3 18 (by decide) (by decide)
  have r40 := rd_Told_18 iM (a := 3) rfl
  refine p_mono (q_knownOf (r := r) (i := i) (j := j) km (by rw [e18]; exact r40) ⟨hr.1, by omega⟩ ⟨hi.1, by omega⟩ ⟨hj.1, by omega⟩) (fun q y => ⟨y.1, y.2.trans ?_⟩)
  unfold knR
  rw [e18, d3, show mG m 3 13 = mG M 131 0 from (fr 3 13 (by decide) (by decide)).trans d1, show mG m 3 14 = mG M 132 0 from (fr 3 14 (by decide) (by decide)).trans d2]
  have r146 := rd_Mknowns iM (a := 146) (i := 0) rfl
  refine knf_congr _ (fun k hk => ?_)
  obtain ⟨s1, s2, s3⟩ := sd (k : Int) (by omega) (by omega)
  rw [show 40 * (0 : Int) + (k : Int) = (k : Int) by omega, sOf_0] at s1 s2 s3
  have t1 : mG m 17 (k : Int) = mG M 147 (k : Int) := (fr 17 _ (by decide) (fun w => absurd w.1 (by decide))).trans s1
  have t2 : mG m 18 (k : Int) = mG M 148 (k : Int) := (fr 18 _ (by decide) (fun w => absurd w.1 (by decide))).trans s2
  have t3 : mG m 19 (k : Int) = mG M 149 (k : Int) := (fr 19 _ (by decide) (fun w => absurd w.1 (by decide))).trans s3
  refine ⟨?_, t2, t3⟩
  rw [t1]
  have cj : (shp M).col r j = j := col_in hj
  have hin : (shp M).inr r i j := ⟨hi, by rw [cj]; exact hj⟩
  obtain ⟨k1, k2⟩ := ko (k : Int) (by omega) (by omega)
  rw [show 40 * (0 : Int) + (k : Int) = (k : Int) by omega] at k1 k2
  rw [rs.2.1] at k1
  have x0 := (rd_MknownOf iM (a := 147) (i := (k : Int)) rfl).1
  have k3 : (shp M).k2 (mG M 147 (k : Int) / 9) = -1 → mG M 147 (k : Int) % 3 = 0 := fun e => k2 (by
    rw [show 4 * (0 : Int) + mG M 147 (k : Int) / 9 = mG M 147 (k : Int) / 9 by omega]
    exact ((rs.2.2 (mG M 147 (k : Int) / 9) (by omega) (by omega)).2).trans e)
  exact decide_eq_decide.mpr (pl_iff (x := mG M 147 (k : Int)) ok hr.1 hr.2 hin hj ⟨x0, k1⟩ k3).symm
end
/-! ===== the reference's side, whatever the class does ===== -/
def RFB (S : SH) (P : Nat → List Row) (M : Mem) : Prop := K9 M ∧ RST S M ∧ KNO S M ∧ (0 ≤ mG M 138 0 ∧ mG M 138 0 ≤ 8) ∧ RTP S P (mG M 138 0) M
def F9 (M M' : Mem) : Prop := ∀ c j : Int, 126 ≤ c → c ≤ 169 → mG M' c j = mG M c j
theorem FLK.f9 {M M' : Mem} (h : FLK M M') : F9 M M' := fun c j c0 _ => h c j (nq_0 (by omega))
theorem Keep.f9 {n : Nat} {W : Int → Int → Prop} {M M' : Mem} (h : Keep n W M M') (hn : 169 ≤ n) (w : ∀ b j, W b j → b ≤ 125) : F9 M M' := fun c j c0 c1 => h.2.2 c j (by omega) (fun z => by have := w c j z; omega)
section
variable {S : SH} {P : Nat → List Row} {M M' : Mem}
theorem RFB.f9 (h : RFB S P M) (g : F9 M M') : RFB S P M' ∧ tvb M' = tvb M ∧ knR S M' = knR S M ∧ mG M' 138 0 = mG M 138 0 := by
  obtain ⟨k9, rst, kn, h8, rt⟩ := h
  have e138 := g 138 0 (by decide) (by decide)
  refine ⟨⟨k9.kp (fun j hj => g 126 j (by decide) (by decide)), rst.kp (fun c j hc => g c j (by omega) (by omega)), ⟨by rw [g 146 0 (by decide) (by decide)]; exact kn.1, fun k hk => ?_⟩, by rw [e138]; exact h8, ?_⟩, ?_, ?_, e138⟩
  · rw [g 146 0 (by decide) (by decide)] at hk
    rw [g 147 _ (by decide) (by decide), g 148 _ (by decide) (by decide)]
    exact kn.2 k hk
  · rw [e138]
    exact fun s hs => ⟨⟨(g 141 _ (by decide) (by decide)).trans (rt s hs).1.1, fun i r hr => ((rt s hs).1.2 i r hr).kp (fun c c0 c1 => g c _ (by omega) (by omega))⟩, (rt s hs).2⟩
  · unfold tvb
    rw [g 131 0 (by decide) (by decide), g 132 0 (by decide) (by decide), e138, show mG M' 139 = mG M 139 from funext (fun j => g 139 j (by decide) (by decide)), show mG M' 140 = mG M 140 from funext (fun j => g 140 j (by decide) (by decide))]
  · funext p
    unfold knR
    rw [g 131 0 (by decide) (by decide), g 132 0 (by decide) (by decide), g 146 0 (by decide) (by decide), show mG M' 147 = mG M 147 from funext (fun j => g 147 j (by decide) (by decide)), show mG M' 148 = mG M 148 from funext (fun j => g 148 j (by decide) (by decide)), show mG M' 149 = mG M 149 from funext (fun j => g 149 j (by decide) (by decide))]
end
/-- both sides' worlds are the same -/
theorem wd_eq {S : SH} {P : Nat → List Row} {K vw n w : Nat} {F : Int → Int} (hn : S.nf = (n : Int)) (hv : vw < 2 ^ K) (hK : K ≤ 8) (hw : w < 2 ^ n) : WDw S P vw F w = WDr S P K vw F n w := by
  unfold WDw WDr PKq
  rw [hn, Int.toNat_natCast, decide_eq_true hw, Bool.true_and]
  congr 1
  have up : ∀ d : Nat, K + d ≤ 8 → allb (stw S P vw w) (K + d) = allb (stw S P vw w) K := by
    intro d
    induction d with
    | zero => intro _; rfl
    | succ d ih =>
      intro h
      show (allb (stw S P vw w) (K + d) && stw S P vw w (K + d)) = _
      have : vw.testBit (K + d) = false := Nat.testBit_lt_two_pow (Nat.lt_of_lt_of_le hv (Nat.pow_le_pow_right (n := 2) (by decide) (by omega)))
      unfold stw at *
      rw [this, ih (by omega)]
      exact Bool.and_true _
  have := up (8 - K) (by omega)
  rw [show K + (8 - K) = 8 by omega] at this
  exact this
theorem wd_out {S : SH} {P : Nat → List Row} {vw n w : Nat} {F : Int → Int} (hn : S.nf = (n : Int)) (hw : ¬ w < 2 ^ n) : WDw S P vw F w = false := by
  unfold WDw PKq
  rw [hn, Int.toNat_natCast, decide_eq_false hw]; rfl
theorem ctn_cut {f : Nat → Bool} {a : Nat} (h : ∀ w, ¬ w < a → f w = false) : ∀ d : Nat, ctn f (a + d) = ctn f a := by
  intro d
  induction d with
  | zero => rfl
  | succ d ih =>
    show ctn f (a + d) + (f (a + d)).toNat = _
    rw [ih, h _ (by omega)]; rfl
theorem ctn_uw {f : Nat → Bool} {n : Nat} (n12 : n ≤ 12) (h : ∀ w, ¬ w < 2 ^ n → f w = false) : ctn f (64 * uw (n : Int)) = ctn f (2 ^ n) := by
  have u := uw_1 n n12
  have := ctn_cut h (64 * uw (n : Int) - 2 ^ n)
  rw [show 2 ^ n + (64 * uw (n : Int) - 2 ^ n) = 64 * uw (n : Int) by omega] at this
  exact this
