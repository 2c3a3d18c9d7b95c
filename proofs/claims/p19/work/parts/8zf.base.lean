section
/-! ===== what both sides hold, as shapes and texts ===== -/
def shp (M : Mem) : SH := (mG M 5, mG M 4 6, mG M 6, mG M 7)
theorem st_shp (M : Mem) : ∀ r : Nat, stC 4 M r = (shp M).st r := by
  intro r
  induction r with
  | zero => rfl
  | succ r ih =>
    show stC 4 M r + szC 4 M (mG M (4 + 2) r) * szC 4 M (mG M (4 + 3) r) = (shp M).st r + (shp M).zv ((shp M).k1 r) * (shp M).zv ((shp M).k2 r)
    rw [ih]
    rfl
theorem sOf_0 : sOf 0 = 3 := rfl
section
variable {n : Nat} {M : Mem}
theorem shp_ok (iM : I n M) : (shp M).ok :=
  ⟨fun k k0 k1 => rd_Ssizes iM (a := 5) (i := k) rfl k0 k1, rd_Shape_6 iM (a := 4) rfl, fun r _ _ => ⟨rd_Sfirst iM (a := 6) (i := r) rfl, rd_Ssecond iM (a := 7) (i := r) rfl⟩⟩
theorem shp_c (iM : I n M) (h : SR 0 M) : SHC (shp M) 4 M := by
  obtain ⟨_, _, _, lo, _⟩ := h
  rw [sOf_0] at lo
  replace lo : LO 4 M := lo
  obtain ⟨l1, l2⟩ := lo
  refine ⟨⟨rd_Shape_0 iM (a := 4) rfl, rd_Shape_1 iM (a := 4) rfl, rd_Shape_2 iM (a := 4) rfl, rd_Shape_3 iM (a := 4) rfl, rd_Shape_4 iM (a := 4) rfl, rd_Shape_5 iM (a := 4) rfl, rfl, ?_⟩, fun k k0 k1 => rfl, fun r r0 r1 => ?_⟩
  · rw [l1, st_shp]; rfl
  · have n4 := rd_Shape_6 iM (a := 4) rfl
    obtain ⟨x, rfl⟩ := Int.eq_ofNat_of_zero_le r0
    obtain ⟨a, b, c⟩ := l2 x r1
    refine ⟨rfl, rfl, ?_, ?_, ?_⟩
    · show mG M (4 + 4) _ = _
      rw [a, st_shp, Int.toNat_natCast]
    · show mG M (4 + 5) _ = _
      rw [b]; rfl
    · show mG M (4 + 6) _ = _
      rw [c]; rfl
theorem shp_r (h : SR 0 M) : RST (shp M) M := by
  obtain ⟨s1, s2, s3, _⟩ := h
  rw [sOf_0] at s1 s2 s3
  replace s2 : mG M 4 6 = mG M 134 0 := s2
  refine ⟨fun k k0 k1 => ?_, s2.symm, fun r r0 r1 => ?_⟩
  · have := s1 k k0 k1
    rw [show 3 * (0 : Int) + k = k by omega] at this
    exact this.symm
  · have r1 : r < mG M 4 6 := r1
    have := s3 r r0 (by omega)
    rw [show 4 * (0 : Int) + r = r by omega] at this
    exact ⟨this.1.symm, this.2.symm⟩
theorem ex_fun {Q : Nat → List Row → Prop} (h : ∀ s, ∃ p, Q s p) : ∃ P : Nat → List Row, ∀ s, Q s (P s) := ⟨fun s => Classical.choose (h s), fun s => Classical.choose_spec (h s)⟩
/-- the stories' texts, on both sides -/
theorem told_P (iM : I n M) (h : SR 0 M) (h2 : S2 0 M) : ∃ P : Nat → List Row, TXP (shp M) P M ∧ RTP (shp M) P (mG M 138 0) M := by
  obtain ⟨_, ⟨b1, b2⟩, _⟩ := h2
  rw [sOf_0] at b1 b2
  have r := shp_r h
  have e134 : mG M 134 0 = (shp M).nr := r.2.1
  obtain ⟨P, hP⟩ := ex_fun (Q := fun s ps => (s : Int) < mG M 138 0 → 169 < mG M 14 (s : Int) ∧ TT ps (mG M 14 (s : Int)) M ∧ RT ps (s : Int) M ∧ ty (shp M).nr (shp M).k1 (shp M).k2 [(0, 255)] ps) (fun s => by
    by_cases c : (s : Int) < mG M 138 0
    · obtain ⟨_, _, z, ps, t1, t2, t3⟩ := b2 (s : Int) (by omega) c
      have r8 := rd_Mstories iM (a := 138) (i := 0) rfl
      refine ⟨ps, fun _ => ⟨?_, t1, ?_, ?_⟩⟩
      · have := tx_at iM (i := 0) (s := (s : Int)) (by decide) (by decide) (by omega) (by omega) z
        exact this.1
      · rw [show 9 * (0 : Int) + (s : Int) = (s : Int) by omega] at t2
        exact t2
      · refine ty.mono (Int.le_of_eq e134) (fun x x0 x1 => ?_) _ _ t3
        have := r.2.2 x x0 (by omega)
        rw [show 4 * (0 : Int) + x = x by omega]
        exact ⟨this.1.symm, this.2.symm⟩
    · exact ⟨[], fun w => absurd w c⟩)
  refine ⟨P, fun s hs => ?_, fun s hs => ?_⟩
  · have := hP s (by rw [← b1]; exact hs)
    exact ⟨this.1, this.2.1, this.2.2.2⟩
  · have := hP s hs
    exact ⟨this.2.2.1, this.2.1.1.1, this.2.2.2⟩
theorem vw_eq (iM : I n M) (h : SR 0 M) (h2 : S2 0 M) : tvb M = vwb M := by
  obtain ⟨_, ⟨b1, b2⟩, _⟩ := h2
  rw [sOf_0] at b1 b2
  obtain ⟨_, _, _, _, _, d1, d2, _⟩ := h
  rw [sOf_0] at d1 d2
  have r8 := rd_Mstories iM (a := 138) (i := 0) rfl
  unfold tvb vwb
  rw [d1, d2, b1]
  refine bitsOf_congr _ (fun s hs => ?_)
  obtain ⟨x, y, _⟩ := b2 (s : Int) (by omega) (by omega)
  unfold vwf
  rw [show 8 * (0 : Int) + (s : Int) = (s : Int) by omega] at x y
  replace x : mG M 15 (s : Int) = mG M 139 (s : Int) := x
  replace y : mG M 16 (s : Int) = mG M 140 (s : Int) := y
  rw [x, y]
end
/-! ===== what is known, on both sides ===== -/
def KO (i : Int) (M : Mem) : Prop := ∀ k : Int, 0 ≤ k → k < mG M 146 i → mG M 147 (40 * i + k) < 9 * mG M 134 i ∧ (mG M 136 (4 * i + mG M 147 (40 * i + k) / 9) = -1 → mG M 147 (40 * i + k) % 3 = 0)
section
variable {n : Nat} {M : Mem}
theorem kno_of (iM : I n M) (h : SR 0 M) (ko : KO 0 M) : KNO (shp M) M := by
  have r := shp_r h
  refine ⟨rd_Mknowns iM (a := 146) (i := 0) rfl, fun k hk => ⟨⟨(rd_MknownOf iM (a := 147) (i := (k : Int)) rfl).1, ?_⟩, ?_⟩⟩
  · have := (ko (k : Int) (by omega) hk).1
    rw [show 40 * (0 : Int) + (k : Int) = (k : Int) by omega, r.2.1] at this
    exact this
  · have := rd_MknownIs iM (a := 148) (i := (k : Int)) rfl
    omega
theorem kn_class (iM : I n M) (h : SR 0 M) (h2 : S2 0 M) (ko : KO 0 M) : ∀ r i j : Int, (0 ≤ r ∧ r < (shp M).nr) → (0 ≤ i ∧ i < (shp M).zv ((shp M).k1 r)) → (0 ≤ j ∧ j < (shp M).zv ((shp M).k2 r)) → ∀ m, FW 32 M m → K2 m → pw (mX6_knownOf 3 r i j m) (fun q => q.2 = m ∧ q.1 = knR (shp M) M ((shp M).at' r i j)) := by
  intro r i j hr hi hj m fr km
  have ok := shp_ok iM
  have n4 := ok.2.1
  have z1 := ok.zv (k := (shp M).k1 r) (by have := (ok.2.2 r hr.1 hr.2).1; omega)
  have z2 := ok.zv (k := (shp M).k2 r) (ok.2.2 r hr.1 hr.2).2
  have rs := shp_r h
  obtain ⟨_, _, _, _, _, d1, d2, d3⟩ := h
  rw [sOf_0] at d1 d2 d3
  obtain ⟨_, _, _, sd, _⟩ := h2
  have e18 : mG m 3 18 = mG M 3 18 := fr 3 18 (by decide) (by decide)
  have r40 := rd_Told_18 iM (a := 3) rfl
  refine p_mono (q_knownOf (r := r) (i := i) (j := j) km (by rw [e18]; exact r40) ⟨hr.1, by omega⟩ ⟨hi.1, by omega⟩ ⟨hj.1, by omega⟩) (fun q y => ⟨y.1, y.2.trans ?_⟩)
  unfold knR
  rw [e18, d3, show mG m 3 13 = mG M 131 0 from (fr 3 13 (by decide) (by decide)).trans d1, show mG m 3 14 = mG M 132 0 from (fr 3 14 (by decide) (by decide)).trans d2]
  have r146 := rd_Mknowns iM (a := 146) (i := 0) rfl
  refine knf_congr _ (fun k hk => ?_)
  obtain ⟨s1, s2, s3⟩ := sd (k : Int) (by omega) (by omega)
  rw [show 40 * (0 : Int) + (k : Int) = (k : Int) by omega, sOf_0] at s1 s2 s3
  have t1 : mG m 17 (k : Int) = mG M 147 (k : Int) := (fr 17 _ (by decide) (fun w => absurd w.1 (by decide))).trans s1
  have t2 : mG m 18 (k : Int) = mG M 148 (k : Int) := (fr 18 _ (by decide) (fun w => absurd w.1 (by decide))).trans s2
  have t3 : mG m 19 (k : Int) = mG M 149 (k : Int) := (fr 19 _ (by decide) (fun w => absurd w.1 (by decide))).trans s3
  refine ⟨?_, t2, t3⟩
  rw [t1]
  have cj : (shp M).col r j = j := col_in hj
  have hin : (shp M).inr r i j := ⟨hi, by rw [cj]; exact hj⟩
  obtain ⟨k1, k2⟩ := ko (k : Int) (by omega) (by omega)
  rw [show 40 * (0 : Int) + (k : Int) = (k : Int) by omega] at k1 k2
  rw [rs.2.1] at k1
  have x0 := (rd_MknownOf iM (a := 147) (i := (k : Int)) rfl).1
  have k3 : (shp M).k2 (mG M 147 (k : Int) / 9) = -1 → mG M 147 (k : Int) % 3 = 0 := fun e => k2 (by
    rw [show 4 * (0 : Int) + mG M 147 (k : Int) / 9 = mG M 147 (k : Int) / 9 by omega]
    exact ((rs.2.2 (mG M 147 (k : Int) / 9) (by omega) (by omega)).2).trans e)
  exact decide_eq_decide.mpr (pl_iff (x := mG M 147 (k : Int)) ok hr.1 hr.2 hin hj ⟨x0, k1⟩ k3).symm
end
/-! ===== the reference's side, whatever the class does ===== -/
def RFB (S : SH) (P : Nat → List Row) (M : Mem) : Prop := K9 M ∧ RST S M ∧ KNO S M ∧ (0 ≤ mG M 138 0 ∧ mG M 138 0 ≤ 8) ∧ RTP S P (mG M 138 0) M
def F9 (M M' : Mem) : Prop := ∀ c j : Int, 126 ≤ c → c ≤ 169 → mG M' c j = mG M c j
theorem FLK.f9 {M M' : Mem} (h : FLK M M') : F9 M M' := fun c j c0 _ => h c j (nq_0 (by omega))
theorem Keep.f9 {n : Nat} {W : Int → Int → Prop} {M M' : Mem} (h : Keep n W M M') (hn : 169 ≤ n) (w : ∀ b j, W b j → b ≤ 125) : F9 M M' := fun c j c0 c1 => h.2.2 c j (by omega) (fun z => by have := w c j z; omega)
section
variable {S : SH} {P : Nat → List Row} {M M' : Mem}
theorem RFB.f9 (h : RFB S P M) (g : F9 M M') : RFB S P M' ∧ tvb M' = tvb M ∧ knR S M' = knR S M ∧ mG M' 138 0 = mG M 138 0 := by
  obtain ⟨k9, rst, kn, h8, rt⟩ := h
  have e138 := g 138 0 (by decide) (by decide)
  refine ⟨⟨k9.kp (fun j hj => g 126 j (by decide) (by decide)), rst.kp (fun c j hc => g c j (by omega) (by omega)), ⟨by rw [g 146 0 (by decide) (by decide)]; exact kn.1, fun k hk => ?_⟩, by rw [e138]; exact h8, ?_⟩, ?_, ?_, e138⟩
  · rw [g 146 0 (by decide) (by decide)] at hk
    rw [g 147 _ (by decide) (by decide), g 148 _ (by decide) (by decide)]
    exact kn.2 k hk
  · rw [e138]
    exact fun s hs => ⟨⟨(g 141 _ (by decide) (by decide)).trans (rt s hs).1.1, fun i r hr => ((rt s hs).1.2 i r hr).kp (fun c c0 c1 => g c _ (by omega) (by omega))⟩, (rt s hs).2⟩
  · unfold tvb
    rw [g 131 0 (by decide) (by decide), g 132 0 (by decide) (by decide), e138, show mG M' 139 = mG M 139 from funext (fun j => g 139 j (by decide) (by decide)), show mG M' 140 = mG M 140 from funext (fun j => g 140 j (by decide) (by decide))]
  · funext p
    unfold knR
    rw [g 131 0 (by decide) (by decide), g 132 0 (by decide) (by decide), g 146 0 (by decide) (by decide), show mG M' 147 = mG M 147 from funext (fun j => g 147 j (by decide) (by decide)), show mG M' 148 = mG M 148 from funext (fun j => g 148 j (by decide) (by decide)), show mG M' 149 = mG M 149 from funext (fun j => g 149 j (by decide) (by decide))]
end
/-- both sides' worlds are the same -/
theorem wd_eq {S : SH} {P : Nat → List Row} {K vw n w : Nat} {F : Int → Int} (hn : S.nf = (n : Int)) (hv : vw < 2 ^ K) (hK : K ≤ 8) (hw : w < 2 ^ n) : WDw S P vw F w = WDr S P K vw F n w := by
  unfold WDw WDr PKq
  rw [hn, Int.toNat_natCast, decide_eq_true hw, Bool.true_and]
  congr 1
  have up : ∀ d : Nat, K + d ≤ 8 → allb (stw S P vw w) (K + d) = allb (stw S P vw w) K := by
    intro d
    induction d with
    | zero => intro _; rfl
    | succ d ih =>
      intro h
      show (allb (stw S P vw w) (K + d) && stw S P vw w (K + d)) = _
      have : vw.testBit (K + d) = false := Nat.testBit_lt_two_pow (Nat.lt_of_lt_of_le hv (Nat.pow_le_pow_right (n := 2) (by decide) (by omega)))
      unfold stw at *
      rw [this, ih (by omega)]
      exact Bool.and_true _
  have := up (8 - K) (by omega)
  rw [show K + (8 - K) = 8 by omega] at this
  exact this
theorem wd_out {S : SH} {P : Nat → List Row} {vw n w : Nat} {F : Int → Int} (hn : S.nf = (n : Int)) (hw : ¬ w < 2 ^ n) : WDw S P vw F w = false := by
  unfold WDw PKq
  rw [hn, Int.toNat_natCast, decide_eq_false hw]; rfl
theorem ctn_cut {f : Nat → Bool} {a : Nat} (h : ∀ w, ¬ w < a → f w = false) : ∀ d : Nat, ctn f (a + d) = ctn f a := by
  intro d
  induction d with
  | zero => rfl
  | succ d ih =>
    show ctn f (a + d) + (f (a + d)).toNat = _
    rw [ih, h _ (by omega)]; rfl
theorem ctn_uw {f : Nat → Bool} {n : Nat} (n12 : n ≤ 12) (h : ∀ w, ¬ w < 2 ^ n → f w = false) : ctn f (64 * uw (n : Int)) = ctn f (2 ^ n) := by
  have u := uw_1 n n12
  have := ctn_cut h (64 * uw (n : Int) - 2 ^ n)
  rw [show 2 ^ n + (64 * uw (n : Int) - 2 ^ n) = 64 * uw (n : Int) by omega] at this
  exact this
end
section
/-! ===== J3: what is judged is right, what is known stands where it belongs ===== -/
def Rel3 (M : Mem) : Prop := (∀ i : Int, 0 ≤ i → i < 4 → (i = 0 ∨ mG M 169 (i - 1) = 1) → KO i M) ∧ CA (shp M) M
def J3 (M : Mem) : Prop := J2 M ∧ Rel3 M
section
variable {M : Mem}
/-- the look-up, from what stands between two calls -/
theorem look (h : J3 M) : ∃ P : Nat → List Row, ∃ n : Nat, (shp M).ok ∧ (shp M).nf = (n : Int) ∧ K2 M ∧ SHC (shp M) 4 M ∧ TXP (shp M) P M ∧ RFB (shp M) P M ∧ tvb M = vwb M ∧ vwb M < 2 ^ (mG M 138 0).toNat ∧ (mG M 1 0 = 2 ∧ mG M 1 1 = 3) ∧ pw (mX4_lookUp 2 M) (fun q => (12 < n ∧ q.1 = 0 ∧ q.2 = M) ∨ (n ≤ 12 ∧ q.1 = 1 ∧ LK (shp M) P (vwb M) (knR (shp M) M) M q.2)) := by
  obtain ⟨⟨⟨iM, wf, rel⟩, rel2⟩, ko, ca⟩ := h
  have sr := rel.1 0 (by decide) (by decide) (Or.inl rfl)
  have s2 := rel2 0 (by decide) (by decide) (Or.inl rfl)
  have k0 := ko 0 (by decide) (by decide) (Or.inl rfl)
  have ok := shp_ok iM
  obtain ⟨P, tp, rt⟩ := told_P iM sr s2
  obtain ⟨n, hn⟩ := Int.eq_ofNat_of_zero_le ok.nf.1
  have sh := shp_c iM sr
  have ve := vw_eq iM sr s2
  refine ⟨P, n, ok, hn, K2.of iM, sh, tp, ⟨K9.of iM, shp_r sr, kno_of iM sr k0, rd_Mstories iM (a := 138) (i := 0) rfl, rt⟩, ve, ?_, ⟨rd_VS_0 iM (a := 1) rfl, rd_VS_1 iM (a := 1) rfl⟩, ?_⟩
  · rw [← ve]; exact bitsOf_lt _ _
  · refine p_mono (q_lookUp (kq := knR (shp M) M) ok (K2.of iM) sh ca (rd_Told_11 iM (a := 3) rfl) tp (fun p => knf_rg _ _ _ _ _ _) (kn_class iM sr s2 k0)) (fun q y => ?_)
    rw [hn] at y
    rcases y with ⟨a, b, c⟩ | ⟨a, b, c⟩
    · exact Or.inl ⟨by omega, b, c⟩
    · exact Or.inr ⟨by omega, b, c⟩
theorem q_worlds8 {n : Nat} {P : Nat → List Row} {vw : Nat} {F : Int → Int} (ok : (shp M).ok) (hn : (shp M).nf = (n : Int)) (k2 : K2 M) (h1 : mG M 1 0 = 2) (hl : pw (mX4_lookUp 2 M) (fun q => (12 < n ∧ q.1 = 0 ∧ q.2 = M) ∨ (n ≤ 12 ∧ q.1 = 1 ∧ LK (shp M) P vw F M q.2))) : pw (mX8_worlds 1 M) (fun q => FLK M q.2 ∧ ((12 < n ∧ q.1 = -1) ∨ (n ≤ 12 ∧ q.1 = ((ctn (WDw (shp M) P vw F) (2 ^ n) : Nat) : Int)))) := by
  unfold mX8_worlds
  refine p_gFc (ji := 0) rfl h1 (p_gK (p_call (P := fun q => FLK M q.2 ∧ ((12 < n ∧ q.1 = -1) ∨ (n ≤ 12 ∧ q.1 = ((ctn (WDw (shp M) P vw F) (2 ^ n) : Nat) : Int)))) ?_ (fun v m y => p_ret y)))
  unfold mX4_countWorlds
  refine p_gK (p_call hl (fun v m y => ?_))
  rcases y with ⟨a, b, c⟩ | ⟨a, b, c⟩
  · replace c : m = M := c
    subst c
    exact p_it1 b (p_ret ⟨FLK.rf, Or.inl ⟨a, rfl⟩⟩)
  · replace b : v = 1 := b
    obtain ⟨_, w34, _, _, fl⟩ := c
    have nf := ok.nf
    refine p_it0 (show ¬ v = 0 by omega) (p_gFc (ji := 6) rfl (k2.fl fl).c2_6 (p_gK (p_call (q_count (l := 34) ⟨nf.1, by omega⟩ w34) (fun r m1 y => p_ret ?_))))
    obtain ⟨y1, y2⟩ := y
    replace y1 : m1 = m := y1
    replace y2 : r = ((ctn (WDw (shp M) P vw F) (64 * uw (shp M).nf) : Nat) : Int) := y2
    subst y1
    rw [hn, ctn_uw a (fun w hw => wd_out hn hw)] at y2
    exact ⟨fl, Or.inr ⟨a, y2⟩⟩
theorem eq_worlds (h : J3 M) : pw (mX8_worlds 1 M) (fun q1 => pw (mX9_worlds 126 q1.2) (fun q2 => EQ q1 q2)) := by
  obtain ⟨P, n, ok, hn, k2, sh, tp, rf, ve, vlt, h1, hl⟩ := look h
  refine p_mono (q_worlds8 ok hn k2 h1.1 hl) (fun q1 y => ?_)
  obtain ⟨fl, y⟩ := y
  obtain ⟨⟨k9, rst, kn, h8, rt⟩, e1, e2, e3⟩ := rf.f9 fl.f9
  refine p_mono (v_worlds ok hn k9 rst kn h8 rt) (fun q2 z => ?_)
  rw [e1, e2, e3, ve] at z
  rw [e3] at h8
  show q1.1 = q2.1
  rcases y with ⟨a, b⟩ | ⟨a, b⟩
  · rcases z with ⟨c, d⟩ | ⟨c, d⟩
    · rw [b, d]
    · omega
  · rcases z with ⟨c, d⟩ | ⟨c, d⟩
    · omega
    · rw [b, d, ctn_congr _ (fun w hw => wd_eq hn vlt (by omega) hw)]
end
end
section
/-! ===== the class keeps what it has judged ===== -/
/-- cells that what is judged speaks of -/
def CC (b j : Int) : Prop := (b = 2 ∧ j = 4) ∨ (b = 3 ∧ (j = 11 ∨ j = 12)) ∨ (b = 4 ∧ j = 6) ∨ (5 ≤ b ∧ b ≤ 7) ∨ b = 14 ∨ (47 ≤ b ∧ b ≤ 64)
def NA (b j : Int) : Prop := b ≤ 169 ∧ ¬ CC b j
def NB (b j : Int) : Prop := b ≤ 125 ∧ ¬ CC b j ∧ ¬ (4 ≤ b ∧ b ≤ 10)
section
variable {n : Nat} {M M' : Mem}
theorem txs_n (iM : I n M) {s : Nat} (hs : s < 9) (h : 169 < txs M s) : txs M s + 5 ≤ (n : Int) := by
  unfold txs at h ⊢
  by_cases e : s = 8
  · rw [if_pos e] at h ⊢
    exact (tx_gu iM (i := 0) (by decide) (by decide) (show ¬ mG M 3 12 = 0 by omega)).2
  · rw [if_neg e] at h ⊢
    exact (tx_at iM (i := 0) (s := (s : Int)) (by decide) (by decide) (by omega) (by omega) (show ¬ mG M 14 (s : Int) = 0 by omega)).2
theorem CA.go2 (iM : I n M) (ca : CA (shp M) M) (h4 : mG M' 2 4 = mG M 2 4) (hs : shp M' = shp M) (hx : ∀ s : Nat, s < 9 → jb M s = true → txs M' s = txs M s ∧ (s < 8 → (s : Int) < mG M' 3 11)) (g : ∀ b j : Int, 47 ≤ b → b ≤ 64 → mG M' b j = mG M b j) (gt : ∀ b j : Int, 169 < b → b ≤ (n : Int) → mG M' b j = mG M b j) : CA (shp M') M' := by
  rw [hs]
  refine ⟨by rw [h4]; exact ca.1, fun s hs9 hj => ?_⟩
  have e : jb M' s = jb M s := by unfold jb; rw [h4]
  rw [e] at hj
  obtain ⟨a, b, c, d⟩ := ca.2 s hs9 hj
  obtain ⟨x1, x2⟩ := hx s hs9 hj
  have t5 := txs_n iM hs9 b
  rw [x1]
  exact ⟨a, b, x2, fun ps h1 h2 => (d ps (h1.of (fun b' j c0 c1 => (gt b' j (by omega) (by omega)).symm)) h2).kp (fun j => g _ j (by omega) (by omega)) (fun j => g _ j (by omega) (by omega))⟩
theorem shp_go (g : ∀ b j : Int, (b = 4 ∧ j = 6) ∨ (5 ≤ b ∧ b ≤ 7) → mG M' b j = mG M b j) : shp M' = shp M := by
  unfold shp
  rw [g 4 6 (by decide), show mG M' 5 = mG M 5 from funext (fun j => g 5 j (by omega)), show mG M' 6 = mG M 6 from funext (fun j => g 6 j (by omega)), show mG M' 7 = mG M 7 from funext (fun j => g 7 j (by omega))]
theorem CA.go (iM : I n M) (ca : CA (shp M) M) (g : ∀ b j : Int, b ≤ (n : Int) → CC b j ∨ 169 < b → mG M' b j = mG M b j) : CA (shp M') M' := by
  have hn : (169 : Int) ≤ (n : Int) := by have := iM.2.2.2.2.1; omega
  have g' : ∀ b j : Int, CC b j → mG M' b j = mG M b j := fun b j h => g b j (by unfold CC at h; omega) (Or.inl h)
  refine ca.go2 iM (g' 2 4 (by unfold CC; decide)) (shp_go (fun b j h => g' b j (by unfold CC; omega))) (fun s hs hj => ⟨?_, fun h8 => ?_⟩) (fun b j b0 b1 => g' b j (by unfold CC; omega)) (fun b j b0 b1 => g b j b1 (Or.inr b0))
  · unfold txs
    rw [g' 3 12 (by unfold CC; decide), g' 14 _ (by unfold CC; omega)]
  · rw [g' 3 11 (by unfold CC; decide)]
    exact (ca.2 s hs hj).2.2.1 h8
theorem CA.kp {W : Int → Int → Prop} (iM : I n M) (ca : CA (shp M) M) (k : Keep n W M M') (d : ∀ b j, W b j → NA b j) : CA (shp M') M' := ca.go iM (fun b j b0 h => k.2.2 b j b0 (fun z => by
  have := d b j z
  unfold NA at this
  rcases h with h | h
  · exact this.2 h
  · omega))
/-- nothing is judged -/
theorem CA.z {S : SH} (h : mG M 2 4 = 0) : CA S M := by
  refine ⟨by rw [h]; decide, fun s hs hj => ?_⟩
  unfold jb at hj
  rw [h] at hj
  simp at hj
/-! while a call runs -/
def GT (M : Mem) : Prop := mG M 3 12 = 0 ∨ (169 < mG M 3 12 ∧ ∃ ps : List Row, TT ps (mG M 3 12) M ∧ ty (shp M).nr (shp M).k1 (shp M).k2 [(0, 255)] ps)
def CI (n : Nat) (M : Mem) : Prop := I n M ∧ CA (shp M) M ∧ SHC (shp M) 4 M ∧ GT M
theorem GT.of (iM : I n M) (h : SR 0 M) (h2 : S2 0 M) : GT M := by
  obtain ⟨_, _, sc, _⟩ := h2
  unfold Sc at sc
  rw [sOf_0] at sc
  rcases sc with ⟨a, _⟩ | ⟨z, ps, t1, t2, t3⟩
  · exact Or.inl a
  · have r := shp_r h
    refine Or.inr ⟨(tx_gu iM (i := 0) (by decide) (by decide) z).1, ps, t1, ty.mono (Int.le_of_eq r.2.1) (fun x x0 x1 => ?_) _ _ t3⟩
    have := r.2.2 x x0 (by have := r.2.1; omega)
    rw [show 4 * (0 : Int) + x = x by omega]
    exact ⟨this.1.symm, this.2.symm⟩
theorem CI.of (h : J3 M) : CI (mN M) M := by
  obtain ⟨⟨⟨iM, wf, rel⟩, rel2⟩, ko, ca⟩ := h
  have sr := rel.1 0 (by decide) (by decide) (Or.inl rfl)
  have s2 := rel2 0 (by decide) (by decide) (Or.inl rfl)
  exact ⟨iM, ca, shp_c iM sr, GT.of iM sr s2⟩
/-- other cells than those are changed -/
theorem CI.kp0 (h : CI n M) (i2 : I n M') (ca : CA (shp M') M') (hs : ∀ b j : Int, 4 ≤ b → b ≤ 10 → mG M' b j = mG M b j) (h12 : mG M' 3 12 = mG M 3 12) (gt : ∀ b j : Int, 169 < b → b ≤ (n : Int) → mG M' b j = mG M b j) : CI n M' := by
  obtain ⟨iM, _, sh, g⟩ := h
  have e : shp M' = shp M := shp_go (fun b j x => hs b j (by omega) (by omega))
  refine ⟨i2, ca, ?_, ?_⟩
  · rw [e]
    exact sh.kp (fun c j c0 c1 => hs c j (by omega) (by omega))
  · unfold GT
    rw [h12, e]
    rcases g with g | ⟨g0, ps, g1, g2⟩
    · exact Or.inl g
    · have := (tx_gu iM (i := 0) (by decide) (by decide) (show ¬ mG M 3 12 = 0 by omega)).2
      replace this : mG M 3 12 + 5 ≤ (n : Int) := this
      exact Or.inr ⟨g0, ps, g1.of (fun b j b0 b1 => gt b j (by omega) (by omega)), g2⟩
theorem CI.kp {W : Int → Int → Prop} (h : CI n M) (i2 : I n M') (k : Keep n W M M') (d : ∀ b j, W b j → NB b j) : CI n M' := by
  have hn : (169 : Int) ≤ (n : Int) := by have := h.1.2.2.2.2.1; omega
  refine h.kp0 i2 (h.2.1.kp h.1 k (fun b j z => ⟨by have := (d b j z).1; omega, (d b j z).2.1⟩)) (fun b j b0 b1 => k.2.2 b j (by omega) (fun z => (d b j z).2.2 ⟨b0, b1⟩)) (k.2.2 3 12 (by omega) (fun z => (d 3 12 z).2.1 (by unfold CC; decide))) (fun b j b0 b1 => k.2.2 b j b1 (fun z => by have := (d b j z).1; omega))
theorem ci_call {β : Type} {Q : β → Prop} {x : Option (Int × Mem)} {f : Int × Mem → Option β} {W : Int → Int → Prop} {P : Int × Mem → Prop} (h : CI n M) (hx : I n M → wp x (fun q => I n q.2 ∧ Keep n W M q.2 ∧ P q)) (d : ∀ b j, W b j → NB b j) (k : ∀ r m, CI n m → P (r, m) → pw (f (r, m)) Q) : pw (x.bind f) Q :=
  p_call (p_wp (hx h.1)) (fun r m y => k r m (h.kp y.1 y.2.1 d) y.2.2)
theorem ci_look {β : Type} {Q : β → Prop} {f : Int × Mem → Option β} (h : J3 M) (hf : ∀ m, FLK M m → CI (mN M) m → pw (f (0, m)) Q) (ht : ∀ m, FLK M m → (shp m).nf ≤ 12 → CI (mN M) m → pw (f (1, m)) Q) : pw ((mX4_lookUp 2 M).bind f) Q := by
  obtain ⟨P, n, ok, hn, k2, sh, tp, rf, ve, vlt, h1, hl⟩ := look h
  have ci := CI.of h
  refine p_call (p_and hl (p_wp (s_X4_lookUp ci.1))) (fun r m y => ?_)
  obtain ⟨y1, y2, y3, _⟩ := y
  rcases y1 with ⟨a, b, c⟩ | ⟨a, b, c⟩
  · replace c : m = M := c
    replace b : r = 0 := b
    subst c; subst b
    exact hf m FLK.rf ci
  · replace b : r = 1 := b
    subst b
    obtain ⟨_, _, ca, _, fl⟩ := c
    replace fl : FLK M m := fl
    replace ca : CA (shp M) m := ca
    have e : shp m = shp M := shp_go (fun b j x => fl b j (nq_0 (by omega)))
    refine ht m fl (by rw [e, hn]; omega) (ci.kp0 y2 (by rw [e]; exact ca) (fun b j b0 b1 => fl b j (nq_0 (by omega))) (fl 3 12 (nq_0 (by omega))) (fun b j b0 b1 => fl b j (nq_0 (by omega))))
/-- the guess's truth -/
theorem ci_truth8 {β : Type} {Q : β → Prop} {f : Int × Mem → Option β} (h : CI n M) (n12 : (shp M).nf ≤ 12) (hg : ¬ mG M 3 12 = 0) (k : ∀ m, CI n m → pw (f (63, m)) Q) : pw ((mX4_truth 2 8 (mG M 3 12) M).bind f) Q := by
  obtain ⟨iM, ca, sh, g⟩ := id h
  rcases g with g | ⟨g0, ps, g1, g2⟩
  · exact absurd g hg
  have hn : (169 : Int) ≤ (n : Int) := by have := iM.2.2.2.2.1; omega
  refine p_call (p_and (q_truth (s := 8) (t := mG M 3 12) (shp_ok iM) n12 (K2.of iM) sh ca (by decide) (by unfold txs; rw [if_pos rfl]) g0 (fun x => absurd x (by decide)) g1 g2) (p_wp (s_X4_truth (l1 := 8) (by decide) (iM.2.2.1.2.1 3 (Or.inl rfl)) iM))) (fun r m y => ?_)
  obtain ⟨⟨y1, y2, _, _, y5⟩, y6, _⟩ := y
  replace y1 : r = 63 := y1
  subst y1
  replace y5 : FTs (47 + 2 * ((8 : Nat) : Int)) M m := y5
  have fl : FLK M m := y5.fl (by decide)
  have e : shp m = shp M := shp_go (fun b j x => fl b j (nq_0 (by omega)))
  exact k m (h.kp0 y6 (by rw [e]; exact y2) (fun b j b0 b1 => fl b j (nq_0 (by omega))) (fl 3 12 (nq_0 (by omega))) (fun b j b0 b1 => fl b j (nq_0 (by omega))))
end
end
section
/-! ===== every call of the class keeps what it has judged ===== -/
section
variable {M : Mem}
theorem vs_0 (h : J3 M) : mG M 1 0 = 2 ∧ mG M 1 1 = 3 := ⟨rd_VS_0 h.1.1.1 (a := 1) rfl, rd_VS_1 h.1.1.1 (a := 1) rfl⟩
theorem z_1 : ¬ (1 : Int) = 0 := by decide
theorem ca_worlds (h : J3 M) : pw (mX8_worlds 1 M) (fun q => CA (shp q.2) q.2) := by
  unfold mX8_worlds
  refine p_gFc (ji := 0) rfl (vs_0 h).1 (p_gK (p_call (P := fun q => CI (mN M) q.2) ?_ (fun v m y => p_ret y.2.1)))
  unfold mX4_countWorlds
  refine p_gK (ci_look h (fun m _ ci => p_it1 rfl (p_ret ci)) (fun m _ _ ci => p_it0 z_1 ?_))
  exact p_gFc (ji := 6) rfl (K2.of ci.1).c2_6 (p_gK (ci_call ci (fun i => s_X7_count (by unfold isWS; decide) i) (fun b j z => False.elim z) (fun r m c2 _ => p_ret c2)))
theorem nb_pick : ∀ b j, W_X4_pickForms b j → NB b j := fun b j z => by
  unfold W_X4_pickForms at z
  unfold NB CC
  omega
theorem nb_37 : ∀ b j : Int, b = 37 ∨ (b = 36 ∧ j = 1) ∨ (b = 36 ∧ j = 2) → NB b j := fun b j z => by
  unfold NB CC
  omega
theorem ca_forms (h : J3 M) : pw (mX8_forms 1 M) (fun q => CA (shp q.2) q.2) := by
  unfold mX8_forms
  refine p_gFc (ji := 0) rfl (vs_0 h).1 (p_gK (p_call (P := fun q => CI (mN M) q.2) ?_ (fun v m y => p_ret y.2.1)))
  unfold mX4_countForms
  refine p_gK (ci_look h (fun m _ ci => p_it1 rfl (p_ret ci)) (fun m _ _ ci => p_it0 z_1 (p_gK (ci_call ci (fun i => s_X4_pickForms i) nb_pick (fun _ m2 ci2 _ => ?_)))))
  exact p_gFc (ji := 7) rfl (K2.of ci2.1).c2_7 (p_gK (ci_call ci2 (fun i => s_X7_count (by unfold isWS; decide) i) (fun b j z => False.elim z) (fun r m c2 _ => p_ret c2)))
theorem ca_becomes {n : Nat} {v : Int} {m : Mem} (ci : CI n m) : pw (mX8_becomes 1 v m) (fun q => CA (shp q.2) q.2) := by
  have h1 : mG m 1 1 = 3 := rd_VS_1 ci.1 (a := 1) rfl
  unfold mX8_becomes
  refine p_if (fun c => p_ret ci.2.1) (fun c => p_gFc (ji := 1) rfl h1 (p_pF (ji := 1) rfl (fun m2 h2 => p_ret ?_)))
  exact ci.2.1.go ci.1 (fun b j _ hc => st_ne h2 (fun w => by unfold CC at hc; omega))
theorem ca_form {l : Int} (r1 : (-2147483648) ≤ l ∧ l ≤ 2147483647) (h : J3 M) : pw (mX8_form 1 l M) (fun q => CA (shp q.2) q.2) := by
  unfold mX8_form
  refine p_gFc (ji := 0) rfl (vs_0 h).1 (p_gK (p_call (P := fun q => CI (mN M) q.2) ?_ (fun v m y => p_gK (p_call (ca_becomes y) (fun v m y => p_zR (fun _ => p_ret y))))))
  unfold mX4_nthForm
  refine p_gK (ci_look h (fun m _ ci => p_it1 rfl (p_ret ci)) (fun m _ _ ci => p_it0 z_1 (p_gK (ci_call ci (fun i => s_X4_pickForms i) nb_pick (fun _ m2 ci2 _ => ?_)))))
  exact p_gFc (ji := 7) rfl (K2.of ci2.1).c2_7 (p_gK (ci_call ci2 (fun i => s_X7_nth (by unfold isWS; decide) r1 i) (fun b j z => False.elim z) (fun r m c2 _ => p_ret c2)))
theorem ca_core {l : Int} (r1 : (-2147483648) ≤ l ∧ l ≤ 2147483647) (h : J3 M) : pw (mX8_core 1 l M) (fun q => CA (shp q.2) q.2) := by
  unfold mX8_core
  refine p_gFc (ji := 0) rfl (vs_0 h).1 (p_gK (p_call (P := fun q => CI (mN M) q.2 ∧ 0 ≤ q.1 ∧ q.1 ≤ 255) ?_ (fun v m y => ci_call y.1 (fun i => s_X8_nthBit y.2 r1 i) (fun b j z => False.elim z) (fun r m c2 _ => p_ret c2.2.1))))
  unfold mX4_coreStories
  refine p_gK (ci_look h (fun m _ ci => p_it1 rfl (p_ret ⟨ci, (by dsimp only; decide), (by dsimp only; decide)⟩)) (fun m _ _ ci => p_it0 z_1 (p_gFc (ji := 6) rfl (K2.of ci.1).c2_6 (p_gK (ci_call ci (fun i => s_X7_isNothing (by unfold isWS; decide) i) (fun b j z => False.elim z) (fun r m2 c2 _ => ?_))))))
  refine p_if (fun _ => p_ret ⟨c2, (by dsimp only; decide), (by dsimp only; decide)⟩) (fun _ => p_gFc (ji := 5) rfl (K2.of c2.1).c2_5 (p_gK (ci_call c2 (fun i => s_X4_fewestAgainst (by unfold isWS; decide) i) (fun b j z => False.elim z) (fun r m3 c3 y => p_ret ⟨c3, y.1⟩))))
theorem pl_same {a b c : Int} (r2 : (-2147483648) ≤ b ∧ b ≤ 2147483647) (r3 : (-2147483648) ≤ c ∧ c ≤ 2147483647) (h : J3 M) : pw (mX3_place 4 a b c M) (fun q => q.2 = M ∧ (-1) ≤ q.1 ∧ q.1 ≤ 35) := by
  have ci := CI.of h
  exact p_mono (p_and (q_place (shp_ok ci.1) ci.2.2.1) (p_wp (s_X3_place (l1 := a) (Or.inl rfl) r2 r3 ci.1))) (fun q y => ⟨y.1.1, y.2.2.2.1⟩)
theorem ca_sureness {p : Int} (hp : (-1) ≤ p ∧ p ≤ 35) (h : J3 M) : pw (mX4_sureness 2 p M) (fun q => CI (mN M) q.2 ∧ (-1) ≤ q.1 ∧ q.1 ≤ 1) := by
  unfold mX4_sureness
  refine p_if (fun _ => p_ret ⟨CI.of h, (by dsimp only; decide), (by dsimp only; decide)⟩) (fun _ => p_gK (ci_look h (fun m _ ci => p_it1 rfl (p_ret ⟨ci, (by dsimp only; decide), (by dsimp only; decide)⟩)) (fun m _ _ ci => p_it0 z_1 (p_gFc (ji := 6) rfl (K2.of ci.1).c2_6 (p_gK (ci_call ci (fun i => s_X7_isNothing (by unfold isWS; decide) i) (fun b j z => False.elim z) (fun r m2 c2 _ => ?_)))))))
  refine p_if (fun _ => ?_) (fun _ => p_ret ⟨c2, (by dsimp only; decide), (by dsimp only; decide)⟩)
  have k2 := K2.of c2.1
  refine p_gFc (ji := 6) rfl k2.c2_6 (p_gFc (ji := 0) rfl k2.c2_0 (p_gFc (ji := 0) rfl k2.c3_0 (p_gK (ci_call c2 (fun i => s_X3_bit (l0 := 4) (Or.inl rfl) hp i) (fun b j z => False.elim z) (fun r m3 c3 y => p_gK (ci_call c3 (fun i => s_X7_countWhere (by unfold isWS; decide) y.1 i) (fun b j z => False.elim z) (fun r m4 c4 _ => ?_)))))))
  refine p_if (fun _ => p_ret ⟨c4, (by dsimp only; decide), (by dsimp only; decide)⟩) (fun _ => p_gFc (ji := 6) rfl (K2.of c4.1).c2_6 (p_gK (ci_call c4 (fun i => s_X7_count (by unfold isWS; decide) i) (fun b j z => False.elim z) (fun r m5 c5 _ => p_if (fun _ => p_ret ⟨c5, (by dsimp only; decide), (by dsimp only; decide)⟩) (fun _ => p_ret ⟨c5, (by dsimp only; decide), (by dsimp only; decide)⟩)))))
theorem ca_sure {a b c : Int} (r2 : (-2147483648) ≤ b ∧ b ≤ 2147483647) (r3 : (-2147483648) ≤ c ∧ c ≤ 2147483647) (h : J3 M) : pw (mX8_sure 1 a b c M) (fun q => CA (shp q.2) q.2) := by
  have k2 := K2.of h.1.1.1
  unfold mX8_sure
  refine p_gFc (ji := 0) rfl (vs_0 h).1 (p_gFc (ji := 1) rfl (vs_0 h).2 (p_gFc (ji := 0) rfl k2.c3_0 (p_gK (p_call (pl_same r2 r3 h) (fun v m y => ?_)))))
  obtain ⟨y1, y2⟩ := y
  replace y1 : m = M := y1
  subst y1
  exact p_gK (p_call (ca_sureness y2 h) (fun v m y => p_ret y.1.2.1))
theorem ca_cause {a b c d : Int} (r2 : (-2147483648) ≤ b ∧ b ≤ 2147483647) (r3 : (-2147483648) ≤ c ∧ c ≤ 2147483647) (r4 : (-2147483648) ≤ d ∧ d ≤ 2147483647) (h : J3 M) : pw (mX8_cause 1 a b c d M) (fun q => CA (shp q.2) q.2) := by
  have k2 := K2.of h.1.1.1
  unfold mX8_cause
  refine p_gFc (ji := 1) rfl (vs_0 h).2 (p_gFc (ji := 0) rfl k2.c3_0 (p_gK (p_call (pl_same r2 r3 h) (fun p m y => ?_))))
  obtain ⟨y1, y2⟩ := y
  replace y1 : m = M := y1
  replace y2 : (-1) ≤ p ∧ p ≤ 35 := y2
  subst y1
  refine p_gFc (ji := 0) rfl (vs_0 h).1 (p_gK (p_call (ca_sureness y2 h) (fun v m2 y => ?_)))
  obtain ⟨ci, z1, z2⟩ := y
  replace ci : CI (mN m) m2 := ci
  refine p_if (fun _ => p_ret ci.2.1) (fun c1 => ?_)
  replace c1 : ¬ v = -1 := c1
  replace z1 : (-1) ≤ v := z1
  replace z2 : v ≤ 1 := z2
  have h1 : mG m2 1 0 = 2 := rd_VS_0 ci.1 (a := 1) rfl
  exact p_gFc (ji := 0) rfl h1 (p_gK (ci_call ci (fun i => s_X4_causeStories y2 (by omega) i) (fun b j z => nb_37 b j z) (fun r m3 c3 y => ci_call c3 (fun i => s_X8_nthBit y.1 r4 i) (fun b j z => False.elim z) (fun r m4 c4 _ => p_ret c4.2.1))))
theorem hs_same {l : Int} : pw (mX6_hasStory 3 l M) (fun q => q.2 = M) := by
  unfold mX6_hasStory
  exact p_if (fun _ => p_ret rfl) (fun _ => p_gF (ji := 11) rfl (fun _ _ => p_if (fun _ => p_ret rfl) (fun _ => p_ret rfl)))
theorem ca_without {l : Int} (h : J3 M) : pw (mX8_without 1 l M) (fun q => CA (shp q.2) q.2) := by
  have k2 := K2.of h.1.1.1
  have ci0 := CI.of h
  unfold mX8_without
  refine p_gFc (ji := 0) rfl (vs_0 h).1 (p_gK (p_call (P := fun q => CI (mN M) q.2) ?_ (fun v m y => p_ret y.2.1)))
  have loop : ∀ (fu k : Nat) (vw : Int) (m : Mem), k ≤ 8 → CI (mN M) m → pw (mX4_countWithout_60 fu 2 l vw (k : Int) m) (fun q => CI (mN M) q.2) := by
    intro fu
    induction fu with
    | zero => intro k vw m _ _; exact p_none
    | succ fu ih =>
      intro k vw m hk ci
      show pw (bX4_countWithout_60 (mX4_countWithout_60 fu) 2 l vw (k : Int) m) _
      have km := K2.of ci.1
      unfold bX4_countWithout_60
      have go : ∀ m2, CI (mN M) m2 → k < 8 → pw (mX4_countWithout_96 (mX4_countWithout_60 fu) 2 l vw (k : Int) m2) (fun q => CI (mN M) q.2) := fun m2 c2 k8 => by
        unfold mX4_countWithout_96
        rw [wI_s (p := k) (by omega)]
        exact ih (k + 1) vw m2 (by omega) c2
      refine p_if (fun c => p_gFc (ji := 7) rfl km.c2_7 (p_gK (ci_call ci (fun i => s_X7_count (by unfold isWS; decide) i) (fun b j z => False.elim z) (fun r m2 c2 _ => p_ret c2)))) (fun c => p_if (fun _ => go m ci (by omega)) (fun _ => p_if (fun _ => go m ci (by omega)) (fun _ => ?_)))
      have k8 : k < 8 := by omega
      refine p_gFc (ji := 7) rfl km.c2_7 (p_gFc (ji := 3) rfl km.c2_3 (p_aGc (km.ws (s := k) (by omega)).1 (p_gK (ci_call ci (fun i => s_X7_keepOnly (by unfold isWS; decide) (by unfold isWS; omega) i) (fun b j z => nb_37 b j (Or.inl z)) (fun r m2 c2 _ => go m2 c2 k8)))))
  have s32 : ∀ (s vw : Int), pw (mX4_countWithout_32 2 l vw s M) (fun q => CI (mN M) q.2) := fun s vw => by
    unfold mX4_countWithout_32
    refine p_if (fun _ => p_ret ci0) (fun _ => p_gK (ci_look h (fun m _ ci => p_it1 rfl (p_ret ci)) (fun m _ _ ci => p_it0 z_1 ?_)))
    have km := K2.of ci.1
    exact p_gFc (ji := 7) rfl km.c2_7 (p_gFc (ji := 5) rfl km.c2_5 (p_gK (ci_call ci (fun i => s_X7_copy (l0 := 36) (l1 := 32) (by unfold isWS; decide) (by unfold isWS; decide) i) (fun b j z => nb_37 b j z) (fun r m2 c2 _ => loop FU 0 vw m2 (by omega) c2))))
  unfold mX4_countWithout
  refine p_gFc (ji := 0) rfl k2.c2_0 (p_gK (p_call (q_viewed k2 (rd_Told_11 h.1.1.1 (a := 3) rfl)) (fun v m y => ?_)))
  obtain ⟨y1, y2⟩ := y
  replace y1 : m = M := y1
  subst y1
  refine p_gFc (ji := 0) rfl k2.c2_0 (p_gK (p_call (hs_same (l := l)) (fun r m2 y => ?_)))
  replace y : m2 = m := y
  subst y
  unfold mX4_countWithout_31
  exact p_if (fun _ => s32 _ _) (fun _ => p_if (fun _ => s32 _ _) (fun _ => s32 _ _))
theorem ca_questions (h : J3 M) : pw (mX8_questions 1 M) (fun q => CA (shp q.2) q.2) := by
  unfold mX8_questions
  refine p_gFc (ji := 0) rfl (vs_0 h).1 (p_gK (p_call (P := fun q => CI (mN M) q.2) ?_ (fun v m y => p_ret y.2.1)))
  have loop : ∀ (fu k : Nat) (a : Int) (m : Mem), ((-2147483648) ≤ a ∧ a ≤ 2147483647) → k ≤ 5 → CI (mN M) m → pw (mX4_fewestQuestions_38 fu 2 a (k : Int) m) (fun q => CI (mN M) q.2) := by
    intro fu
    induction fu with
    | zero => intro k a m _ _ _; exact p_none
    | succ fu ih =>
      intro k a m ha hk ci
      show pw (bX4_fewestQuestions_38 (mX4_fewestQuestions_38 fu) 2 a (k : Int) m) _
      have km := K2.of ci.1
      unfold bX4_fewestQuestions_38
      refine p_if (fun c => p_ret ci) (fun c => p_gFc (ji := 11) rfl km.c2_11 (ci_call ci (fun i => s_gX4_suffice ha (by omega) (by omega) i) (fun b j z => False.elim z) (fun r m2 c2 _ => p_if (fun _ => ?_) (fun _ => p_ret c2))))
      rw [wI_s (p := k) (by omega)]
      exact ih (k + 1) a m2 ha (by omega) c2
  unfold mX4_fewestQuestions
  refine p_gK (ci_look h (fun m _ ci => p_it1 rfl (p_ret ci)) (fun m _ _ ci => p_it0 z_1 (p_gFc (ji := 6) rfl (K2.of ci.1).c2_6 (p_gK (ci_call ci (fun i => s_X7_isNothing (by unfold isWS; decide) i) (fun b j z => False.elim z) (fun r m2 c2 _ => ?_))))))
  refine p_if (fun _ => ?_) (fun _ => p_ret c2)
  refine p_gFc (ji := 6) rfl (K2.of c2.1).c2_6 (p_gK (ci_call c2 (fun i => s_X7_count (by unfold isWS; decide) i) (fun b j z => False.elim z) (fun r m3 c3 _ => p_if (fun _ => ?_) (fun _ => p_ret c3))))
  exact p_gK (ci_call c3 (fun i => s_X4_takeAsked i) (fun b j z => by unfold W_X4_takeAsked at z; unfold NB CC; omega) (fun r m4 c4 y => loop FU 0 r m4 y.1 (by omega) c4))
theorem ca_settle {l : Int} (h : J3 M) : pw (mX8_settle 1 l M) (fun q => CA (shp q.2) q.2) := by
  unfold mX8_settle
  refine p_gFc (ji := 0) rfl (vs_0 h).1 (p_gK (p_call (P := fun q => CI (mN M) q.2 ∧ (-1) ≤ q.1 ∧ q.1 ≤ 35) ?_ (fun v m y => ?_)))
  · have loop : ∀ (fu k : Nat) (a : Int) (m : Mem), ((-1) ≤ a ∧ a ≤ 35) → k ≤ 36 → CI (mN M) m → pw (mX4_settlingPlace_23 fu 2 a (k : Int) m) (fun q => CI (mN M) q.2 ∧ (-1) ≤ q.1 ∧ q.1 ≤ 35) := by
      intro fu
      induction fu with
      | zero => intro k a m _ _ _; exact p_none
      | succ fu ih =>
        intro k a m ha hk ci
        show pw (bX4_settlingPlace_23 (mX4_settlingPlace_23 fu) 2 a (k : Int) m) _
        have km := K2.of ci.1
        have n36 := rd_Shape_7 ci.1 (a := 4) rfl
        unfold bX4_settlingPlace_23
        refine p_gFc (ji := 0) rfl km.c2_0 (p_gFc (ji := 0) rfl km.c3_0 (p_gF (ji := 7) rfl (fun f hf => p_if (fun c => p_ret ⟨ci, ha⟩) (fun c => ?_))))
        have k35 : k < 36 := by omega
        have go : ∀ (v : Int) (m2 : Mem), ((-1) ≤ v ∧ v ≤ 35) → CI (mN M) m2 → pw (mX4_settlingPlace_57 (mX4_settlingPlace_23 fu) 2 v (k : Int) m2) (fun q => CI (mN M) q.2 ∧ (-1) ≤ q.1 ∧ q.1 ≤ 35) := fun v m2 hv c2 => by
          unfold mX4_settlingPlace_57
          rw [wI_s (p := k) (by omega)]
          exact ih (k + 1) v m2 hv (by omega) c2
        refine p_if (fun c1 => ?_) (fun c1 => p_gK (ci_call ci (fun i => s_X4_greaterAt (l1 := (k : Int)) (by omega) i) (fun b j z => False.elim z) (fun r m2 c2 _ => p_gK (ci_call c2 (fun i => s_X4_greaterAt (l1 := a) (by omega) i) (fun b j z => False.elim z) (fun r m3 c3 _ => p_if (fun _ => go a m3 ha c3) (fun _ => ?_))))))
        · unfold mX4_settlingPlace_55
          exact go (k : Int) m (by omega) ci
        · unfold mX4_settlingPlace_55
          exact go (k : Int) m3 (by omega) c3
    unfold mX4_settlingPlace
    refine p_gK (ci_look h (fun m _ ci => p_it1 rfl (p_ret ⟨ci, (by dsimp only; decide), (by dsimp only; decide)⟩)) (fun m _ _ ci => p_it0 z_1 (p_gFc (ji := 6) rfl (K2.of ci.1).c2_6 (p_gK (ci_call ci (fun i => s_X7_isNothing (by unfold isWS; decide) i) (fun b j z => False.elim z) (fun r m2 c2 _ => ?_))))))
    exact p_if (fun _ => loop FU 0 (-1) m2 (by decide) (by omega) c2) (fun _ => p_ret ⟨c2, (by dsimp only; decide), (by dsimp only; decide)⟩)
  · obtain ⟨ci, y1, y2⟩ := y
    replace ci : CI (mN M) m := ci
    replace y1 : (-1) ≤ v := y1
    replace y2 : v ≤ 35 := y2
    refine p_if (fun _ => p_ret ci.2.1) (fun c => ?_)
    replace c : ¬ v = -1 := c
    have h1 : ∀ m, CI (mN M) m → mG m 1 0 = 2 ∧ mG m 1 1 = 3 := fun m c => ⟨rd_VS_0 c.1 (a := 1) rfl, rd_VS_1 c.1 (a := 1) rfl⟩
    refine p_gFc (ji := 1) rfl (h1 m ci).2 (p_gFc (ji := 0) rfl (K2.of ci.1).c3_0 (p_gK (ci_call ci (fun i => s_X3_relationAt (l0 := 4) (l1 := v) (Or.inl rfl) (by omega) i) (fun b j z => False.elim z) (fun r m2 c2 y => ?_))))
    refine p_if (fun _ => p_ret c2.2.1) (fun _ => p_if (fun _ => ?_) (fun _ => p_if (fun _ => ?_) (fun _ => p_if (fun _ => ?_) (fun _ => p_ret c2.2.1))))
    · exact p_gFc (ji := 1) rfl (h1 m2 c2).2 (p_gFc (ji := 0) rfl (K2.of c2.1).c3_0 (p_gK (ci_call c2 (fun i => s_X3_firstAt (l0 := 4) (Or.inl rfl) y.1 (by omega) i) (fun b j z => False.elim z) (fun r m3 c3 _ => p_ret c3.2.1))))
    · exact p_gFc (ji := 1) rfl (h1 m2 c2).2 (p_gFc (ji := 0) rfl (K2.of c2.1).c3_0 (p_gK (ci_call c2 (fun i => s_X3_secondAt (l0 := 4) (Or.inl rfl) y.1 (by omega) i) (fun b j z => False.elim z) (fun r m3 c3 _ => p_ret c3.2.1))))
    · exact p_gFc (ji := 0) rfl (h1 m2 c2).1 (p_gK (ci_call c2 (fun i => s_X4_greaterAt (l1 := v) (by omega) i) (fun b j z => False.elim z) (fun r m3 c3 _ => p_ret c3.2.1)))
theorem ca_near (h : J3 M) : pw (mX8_near 1 M) (fun q => CA (shp q.2) q.2) := by
  unfold mX8_near
  refine p_gFc (ji := 0) rfl (vs_0 h).1 (p_gK (p_call (P := fun q => CI (mN M) q.2) ?_ (fun v m y => ?_)))
  · have loop : ∀ (fu k : Nat) (a b : Int) (m : Mem), k ≤ 4096 → CI (mN M) m → pw (mX4_nearestWorld_16 fu 2 a b (k : Int) m) (fun q => CI (mN M) q.2) := by
      intro fu
      induction fu with
      | zero => intro k a b m _ _; exact p_none
      | succ fu ih =>
        intro k a b m hk ci
        show pw (bX4_nearestWorld_16 (mX4_nearestWorld_16 fu) 2 a b (k : Int) m) _
        have km := K2.of ci.1
        unfold bX4_nearestWorld_16
        refine p_gFc (ji := 6) rfl km.c2_6 (p_gK (ci_call ci (fun i => s_X7_most (by unfold isWS; decide) i) (fun b j z => False.elim z) (fun r m2 c2 y => p_if (fun c => p_ret c2) (fun c => ?_))))
        have y1 : r ≤ 4096 := y.1.2
        have c : ¬ r ≤ (k : Int) := c
        have k2 := K2.of c2.1
        have go : ∀ (a b : Int) (m3 : Mem), CI (mN M) m3 → pw (mX4_nearestWorld_64 (mX4_nearestWorld_16 fu) 2 a b (k : Int) m3) (fun q => CI (mN M) q.2) := fun a b m3 c3 => by
          unfold mX4_nearestWorld_64
          rw [wI_s (p := k) (by omega)]
          exact ih (k + 1) a b m3 (by omega) c3
        refine p_gFc (ji := 0) rfl k2.c2_0 (p_gF (ji := 1) rfl (fun w hw => p_call (q_bitCount _ m2) (fun r2 m3 y => ?_)))
        obtain ⟨y3, _⟩ := y
        replace y3 : m3 = m2 := y3
        subst y3
        refine p_if (fun _ => go a b m3 c2) (fun _ => p_gFc (ji := 6) rfl k2.c2_6 (p_gK (ci_call c2 (fun i => s_X7_has (l1 := (k : Int)) (by unfold isWS; decide) (by omega) i) (fun b j z => False.elim z) (fun r4 m4 c4 _ => p_if (fun _ => go a b m4 c4) (fun _ => go _ _ m4 c4)))))
    unfold mX4_nearestWorld
    exact p_gK (ci_look h (fun m _ ci => p_it1 rfl (p_ret ci)) (fun m _ _ ci => p_it0 z_1 (loop FU 0 (-1) 13 m (by omega) ci)))
  · replace y : CI (mN M) m := y
    have h1 : mG m 1 1 = 3 := rd_VS_1 y.1 (a := 1) rfl
    refine p_if (fun _ => p_ret y.2.1) (fun _ => p_gFc (ji := 1) rfl h1 (p_gF (ji := 1) rfl (fun w hw => p_call (q_bitCount _ m) (fun r2 m3 z => ?_))))
    obtain ⟨z1, _⟩ := z
    replace z1 : m3 = m := z1
    subst z1
    refine p_gFc (ji := 1) rfl h1 (p_pF (ji := 1) rfl (fun m4 h4 => p_ret ?_))
    exact y.2.1.go y.1 (fun b j _ hc => st_ne h4 (fun w => by unfold CC at hc; omega))
theorem ca_holds {l : Int} (h : J3 M) : pw (mX8_holds 1 l M) (fun q => CA (shp q.2) q.2) := by
  have k2 := K2.of h.1.1.1
  have ci0 := CI.of h
  unfold mX8_holds
  refine p_if (fun _ => ?_) (fun _ => p_if (fun _ => ?_) (fun _ => p_ret ci0.2.1))
  · refine p_gFc (ji := 0) rfl (vs_0 h).1 (p_gK (p_call (P := fun q => CI (mN M) q.2) ?_ (fun v m y => p_ret y.2.1)))
    unfold mX4_countGuessWorlds
    refine p_gFc (ji := 0) rfl k2.c2_0 (p_gF (ji := 12) rfl (fun g hg => p_if (fun _ => p_ret ci0) (fun g0 => p_gK (ci_look h (fun m _ ci => p_it1 rfl (p_ret ci)) (fun m fl n12 ci => p_it0 z_1 ?_)))))
    have km := K2.of ci.1
    have e12 : mG m 3 12 = mG M 3 12 := fl 3 12 (nq_0 (by omega))
    refine p_gFc (ji := 6) rfl km.c2_6 (p_gFc (ji := 0) rfl km.c2_0 (p_gFc (ji := 12) rfl rfl (p_gK (ci_truth8 ci n12 (by rw [e12, hg]; exact g0) (fun m2 c2 => p_gK (ci_call c2 (fun i => s_X7_keepOnly (l1 := 63) (by unfold isWS; decide) (by unfold isWS; decide) i) (fun b j z => by unfold W_X7_keepOnly at z; unfold NB CC; omega) (fun r m3 c3 _ => ?_)))))))
    exact p_gFc (ji := 6) rfl (K2.of c3.1).c2_6 (p_gK (ci_call c3 (fun i => s_X7_count (by unfold isWS; decide) i) (fun b j z => False.elim z) (fun r m c2 _ => p_ret c2)))
  · refine p_gFc (ji := 0) rfl (vs_0 h).1 (p_gK (p_call (P := fun q => CI (mN M) q.2) ?_ (fun v m y => p_ret y.2.1)))
    unfold mX4_countGuessForms
    refine p_gFc (ji := 0) rfl k2.c2_0 (p_gF (ji := 12) rfl (fun g hg => p_if (fun _ => p_ret ci0) (fun g0 => p_gK (ci_look h (fun m _ ci => p_it1 rfl (p_ret ci)) (fun m fl n12 ci => p_it0 z_1 (p_gK (p_call (p_wp (s_X4_pickForms ci.1)) (fun _ m2 y => ?_))))))))
    obtain ⟨i2, kp, _⟩ := y
    replace kp : Keep (mN M) W_X4_pickForms m m2 := kp
    have hn : (169 : Int) ≤ ((mN M : Nat) : Int) := by have := ci.1.2.2.2.2.1; omega
    have c2 := ci.kp i2 kp nb_pick
    have km := K2.of c2.1
    have g2 : ∀ b j : Int, 3 ≤ b → b ≤ 10 → mG m2 b j = mG M b j := fun b j b0 b1 => (kp.2.2 b j (by omega) (fun z => by unfold W_X4_pickForms at z; omega)).trans (fl b j (nq_0 (by omega)))
    have e12 : mG m2 3 12 = mG M 3 12 := g2 3 12 (by decide) (by decide)
    have es : shp m2 = shp m := shp_go (fun b j x => (g2 b j (by omega) (by omega)).trans (fl b j (nq_0 (by omega))).symm)
    refine p_gFc (ji := 7) rfl km.c2_7 (p_gFc (ji := 0) rfl km.c2_0 (p_gFc (ji := 12) rfl rfl (p_gK (ci_truth8 c2 (by rw [es]; exact n12) (by rw [e12, hg]; exact g0) (fun m2 c2 => p_gK (ci_call c2 (fun i => s_X7_keepOnly (l1 := 63) (by unfold isWS; decide) (by unfold isWS; decide) i) (fun b j z => nb_37 b j (Or.inl z)) (fun r m3 c3 _ => ?_)))))))
    exact p_gFc (ji := 7) rfl (K2.of c3.1).c2_7 (p_gK (ci_call c3 (fun i => s_X7_count (by unfold isWS; decide) i) (fun b j z => False.elim z) (fun r m c2 _ => p_ret c2)))
theorem ca_against (h : J3 M) : pw (mX8_against 1 M) (fun q => CA (shp q.2) q.2) := by
  have k2 := K2.of h.1.1.1
  have ci0 := CI.of h
  unfold mX8_against
  refine p_gFc (ji := 0) rfl (vs_0 h).1 (p_gK (p_call (P := fun q => CI (mN M) q.2) ?_ (fun v m y => p_gK (p_call (ca_becomes y) (fun v m y => p_zR (fun _ => p_ret y))))))
  unfold mX4_formAgainst
  refine p_gFc (ji := 0) rfl k2.c2_0 (p_gF (ji := 12) rfl (fun g hg => p_if (fun _ => p_ret ci0) (fun g0 => p_gK (ci_look h (fun m _ ci => p_it1 rfl (p_ret ci)) (fun m fl n12 ci => p_it0 z_1 (p_gK (p_call (p_wp (s_X4_pickForms ci.1)) (fun _ m2 y => ?_))))))))
  obtain ⟨i2, kp, _⟩ := y
  replace kp : Keep (mN M) W_X4_pickForms m m2 := kp
  have hn : (169 : Int) ≤ ((mN M : Nat) : Int) := by have := ci.1.2.2.2.2.1; omega
  have c2 := ci.kp i2 kp nb_pick
  have km := K2.of c2.1
  have g2 : ∀ b j : Int, 3 ≤ b → b ≤ 10 → mG m2 b j = mG M b j := fun b j b0 b1 => (kp.2.2 b j (by omega) (fun z => by unfold W_X4_pickForms at z; omega)).trans (fl b j (nq_0 (by omega)))
  have e12 : mG m2 3 12 = mG M 3 12 := g2 3 12 (by decide) (by decide)
  have es : shp m2 = shp m := shp_go (fun b j x => (g2 b j (by omega) (by omega)).trans (fl b j (nq_0 (by omega))).symm)
  refine p_gFc (ji := 7) rfl km.c2_7 (p_gFc (ji := 0) rfl km.c2_0 (p_gFc (ji := 12) rfl rfl (p_gK (ci_truth8 c2 (by rw [es]; exact n12) (by rw [e12, hg]; exact g0) (fun m2 c2 => p_gK (ci_call c2 (fun i => s_X7_drop (l1 := 63) (by unfold isWS; decide) (by unfold isWS; decide) i) (fun b j z => nb_37 b j (Or.inl z)) (fun r m3 c3 _ => ?_)))))))
  exact p_gFc (ji := 7) rfl (K2.of c3.1).c2_7 (p_gK (ci_call c3 (fun i => s_X7_nth (by unfold isWS; decide) (by decide) i) (fun b j z => False.elim z) (fun r m c2 _ => p_ret c2)))
end
end
