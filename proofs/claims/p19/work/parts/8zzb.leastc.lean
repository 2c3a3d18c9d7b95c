section
/-! ===== the class's least sizes ===== -/
def FLS (M M' : Mem) : Prop := ∀ c j : Int, ¬ WFT c j → ¬ c = 45 → ¬ (38 ≤ c ∧ c ≤ 44) → mG M' c j = mG M c j
def INL (n : Nat) (S : SH) (M m : Mem) : Prop := I n m ∧ TRI S m ∧ FLS M m
theorem TXP.ls {S : SH} {P : Nat → List Row} {M m : Mem} (tp : TXP S P M) (f : FLS M m) : TXP S P m := fun s hs => by
  have e11 : mG m 3 11 = mG M 3 11 := f 3 11 (by unfold WFT; omega) (by decide) (by decide)
  rw [e11] at hs
  obtain ⟨t1, t2, t3⟩ := tp s hs
  have e14 : mG m 14 (s : Int) = mG M 14 (s : Int) := f 14 _ (by unfold WFT; omega) (by decide) (by decide)
  rw [e14]
  exact ⟨t1, t2.of (fun b' j b0 b1 => f b' j (by unfold WFT; omega) (by omega) (by omega)), t3⟩
theorem q_findLeastSizes {n : Nat} {M : Mem} {S : SH} {P : Nat → List Row} {vw : Nat} (ok : S.ok) (iM : I n M) (sh : SHC S 4 M) (tp : TXP S P M) (hvw : ∀ s : Nat, vw.testBit s = true → (s : Int) < mG M 3 11) (v8 : vw < 256) : pw (mX4_findLeastSizes 2 (vw : Int) M) (fun q => LST S P vw (mG q.2 45 0) (mG q.2 45 1) (mG q.2 45 2) ∧ FLS M q.2) := by
  have n4 := ok.2.1
  obtain ⟨Q, hQ⟩ : ∃ Q : Int × Mem → Prop, Q = fun q => LST S P vw (mG q.2 45 0) (mG q.2 45 1) (mG q.2 45 2) ∧ FLS M q.2 := ⟨_, rfl⟩
  rw [← hQ]
  have l93 : ∀ (fu k : Nat) (m : Mem), k ≤ 3 → mG m 2 9 = 45 → FLS M m → NFT S P vw 200 → (∀ x : Nat, x < k → mG m 45 (x : Int) = -1) → pw (mX4_findLeastSizes_93 fu 2 (k : Int) m) Q := by
    intro fu
    induction fu with
    | zero => intro k m _ _ _ _ _; exact p_none
    | succ fu ih =>
      intro k m hk e9 f nf hz
      show pw (bX4_findLeastSizes_93 (mX4_findLeastSizes_93 fu) 2 (k : Int) m) Q
      unfold bX4_findLeastSizes_93
      refine p_if (fun c => p_ret ?_) (fun c => p_gFc (ji := 9) rfl e9 (p_aS (fun m2 h2 => ?_)))
      · rw [hQ]
        exact ⟨Or.inr ⟨nf, hz 0 (by omega), hz 1 (by omega), hz 2 (by omega)⟩, f⟩
      · rw [wI_s (p := k) (by omega)]
        refine ih (k + 1) m2 (by omega) ((st_ne h2 (fun w => absurd w.1 (by decide))).trans e9) (fun c j x y z => (st_ne h2 (fun u => y u.1)).trans (f c j x y z)) nf (fun x hx => ?_)
        by_cases e : x = k
        · rw [e]; exact st_eq h2
        · rw [st_ne h2 (fun w => e (by have := w.2; omega))]
          exact hz x (by omega)
  have l16 : ∀ (fu : Nat) (s : Int) (m1 : Mem), (3 ≤ s ∧ s ≤ 10) → INL n S M m1 → NFT S P vw (ky s 1 1) → pw (mX4_findLeastSizes_16 fu 2 (vw : Int) s m1) Q := by
    intro fu
    induction fu with
    | zero => intro s m1 _ _ _; exact p_none
    | succ fu ih =>
      intro s m1 hs il nf
      show pw (bX4_findLeastSizes_16 (mX4_findLeastSizes_16 fu) 2 (vw : Int) s m1) Q
      unfold bX4_findLeastSizes_16
      refine p_if (fun c9 => ?_) (fun c9 => ?_)
      · rw [show s = 10 by omega] at nf
        exact l93 FU 0 m1 (by omega) (K2.of il.1).c2_9 il.2.2 nf.fin (fun x hx => absurd hx (by omega))
      have l24 : ∀ (fu2 : Nat) (a : Int) (m2 : Mem), (1 ≤ a ∧ a ≤ 4) → INL n S M m2 → NFT S P vw (ky s a 1) → pw (mX4_findLeastSizes_24 (mX4_findLeastSizes_16 fu) fu2 2 (vw : Int) s a m2) Q := by
        intro fu2
        induction fu2 with
        | zero => intro a m2 _ _ _; exact p_none
        | succ fu2 ih2 =>
          intro a m2 ha il2 nf2
          show pw (bX4_findLeastSizes_24 (mX4_findLeastSizes_16 fu) (mX4_findLeastSizes_24 (mX4_findLeastSizes_16 fu) fu2) 2 (vw : Int) s a m2) Q
          unfold bX4_findLeastSizes_24
          refine p_if (fun c3 => ?_) (fun c3 => ?_)
          · rw [wI_id (x := s + 1) (by omega) (by omega)]
            rw [show a = 4 by omega] at nf2
            exact ih (s + 1) m2 (by omega) il2 nf2.sum
          have l32 : ∀ (fu3 : Nat) (b : Int) (m3 : Mem), (1 ≤ b ∧ b ≤ 4) → INL n S M m3 → NFT S P vw (ky s a b) → pw (mX4_findLeastSizes_32 (mX4_findLeastSizes_16 fu) (mX4_findLeastSizes_24 (mX4_findLeastSizes_16 fu) fu2) fu3 2 (vw : Int) s a b m3) Q := by
            intro fu3
            induction fu3 with
            | zero => intro b m3 _ _ _; exact p_none
            | succ fu3 ih3 =>
              intro b m3 hb il3 nf3
              show pw (bX4_findLeastSizes_32 (mX4_findLeastSizes_16 fu) (mX4_findLeastSizes_24 (mX4_findLeastSizes_16 fu) fu2) (mX4_findLeastSizes_32 (mX4_findLeastSizes_16 fu) (mX4_findLeastSizes_24 (mX4_findLeastSizes_16 fu) fu2) fu3) 2 (vw : Int) s a b m3) Q
              unfold bX4_findLeastSizes_32
              refine p_if (fun c4 => ?_) (fun c4 => ?_)
              · rw [wI_id (x := a + 1) (by omega) (by omega)]
                rw [show b = 4 by omega] at nf3
                exact ih2 (a + 1) m3 (by omega) il3 nf3.row
              obtain ⟨i3, t3, f3⟩ := il3
              rw [wI_id (x := s - a) (by omega) (by omega), wI_id (x := s - a - b) (by omega) (by omega)]
              refine p_gK (p_call (q_fits (a := a) (b := b) (c := s - a - b) ok i3 t3 (tp.ls f3) (fun x hx => by
                rw [f3 3 11 (by unfold WFT; omega) (by decide) (by decide)]
                exact hvw x hx) v8 (by omega) (by omega) (by omega)) (fun v m4 y => ?_))
              obtain ⟨⟨i4, t4, f4⟩, y⟩ := y
              replace i4 : I n m4 := i4
              replace t4 : TRI S m4 := t4
              replace f4 : FFT m3 m4 := f4
              have f4' : FLS M m4 := fun c j x y z => (f4 c j x).trans (f3 c j x y z)
              rcases y with ⟨y1, y2, y3, y4, y5⟩ | ⟨y1, y2⟩
              · replace y2 : v = 1 := y2
                have k4 := K2.of i4
                refine p_it0 (show ¬ v = 0 by omega) (p_gFc (ji := 8) rfl k4.c2_8 (p_gFc (ji := 0) rfl k4.c38_0 (p_gFc (ji := 9) rfl k4.c2_9 (p_aC (fun m5 h5 => p_ret ?_)))))
                rw [hQ]
                have e : ∀ j : Int, 0 ≤ j → j < 3 → mG m5 45 j = mG m4 39 j := fun j j0 j1 => by
                  rw [cp_g h5, if_pos ⟨rfl, j0, by omega⟩, show (0 : Int) + (j - 0) = j by omega]
                refine ⟨Or.inl ⟨s, a, b, ⟨by omega, by omega, by omega⟩, y1, nf3, (e 0 (by decide) (by decide)).trans y3, (e 1 (by decide) (by decide)).trans y4, (e 2 (by decide) (by decide)).trans y5⟩, fun c j x y z => (cp_ne h5 y).trans (f4' c j x y z)⟩
              · refine p_it1 y2 ?_
                rw [wI_id (x := b + 1) (by omega) (by omega)]
                exact ih3 (b + 1) m4 (by omega) ⟨i4, t4, f4'⟩ (nf3.step ⟨by omega, by omega, by omega⟩ y1)
          exact l32 FU 1 m2 (by omega) il2 nf2
      exact l24 FU 1 m1 (by omega) il nf
  have k2 := K2.of iM
  unfold mX4_findLeastSizes
  refine p_gFc (ji := 8) rfl k2.c2_8 (p_gFc (ji := 0) rfl k2.c2_0 (p_gFc (ji := 0) rfl k2.c3_0 (p_gK (p_call (p_and (pl_scopy (a := 38) (b := 4) (iM.sg is38) (iM.sg (Or.inl rfl)) (Or.inr (by decide))) (p_wp (s_X3_copy (l0 := 38) (l1 := 4) is38 (Or.inl rfl) iM))) (fun _ m1 y => ?_)))))
  obtain ⟨⟨y1, y2, y3, y4, y5⟩, y6, _⟩ := y
  replace y1 : LO 38 m1 := y1
  replace y3 : ∀ j : Int, 0 ≤ j → j < 4 → mG m1 40 j = mG M 6 j ∧ mG m1 41 j = mG M 7 j := y3
  replace y4 : mG m1 38 6 = mG M 4 6 := y4
  replace y5 : ∀ c j : Int, ¬ (38 ≤ c ∧ c ≤ 38 + 6) → mG m1 c j = mG M c j := y5
  replace y6 : I n m1 := y6
  refine l16 FU 3 m1 (by omega) ⟨y6, ⟨y1, y4.trans sh.1.2.2.2.2.2.2.1, fun r r0 r1 => ?_⟩, fun c j x y z => y5 c j (fun u => z ⟨u.1, by omega⟩)⟩ NFT.ini
  obtain ⟨a1, a2⟩ := y3 r r0 (by omega)
  obtain ⟨b1, b2, _⟩ := sh.2.2 r r0 r1
  exact ⟨a1.trans b1, a2.trans b2⟩
/-- what the class holds of least sizes is right -/
def CL (S : SH) (M : Mem) : Prop := mG M 2 10 = -1 ∨ ∃ vw : Nat, mG M 2 10 = (vw : Int) ∧ (∀ s : Nat, vw.testBit s = true → (s : Int) < mG M 3 11) ∧ ∀ P, TXP S P M → LST S P vw (mG M 45 0) (mG M 45 1) (mG M 45 2)
theorem q_leastSize {n : Nat} {M : Mem} {S : SH} {P : Nat → List Row} {k : Int} (ok : S.ok) (iM : I n M) (sh : SHC S 4 M) (tp : TXP S P M) (cl : CL S M) (hk : 0 ≤ k ∧ k ≤ 2) : pw (mX4_leastSize 2 k M) (fun q => (∃ y0 y1 y2 : Int, LST S P (vwb M) y0 y1 y2 ∧ q.1 = (if k = 0 then y0 else if k = 1 then y1 else y2)) ∧ CL S q.2 ∧ ∀ c j : Int, ¬ (c = 2 ∧ j = 10) → ¬ WFT c j → ¬ c = 45 → ¬ (38 ≤ c ∧ c ≤ 44) → mG q.2 c j = mG M c j) := by
  have k2 := K2.of iM
  have h11 := rd_Told_11 iM (a := 3) rfl
  obtain ⟨v8, hvw⟩ := vw_in (M := M) rfl h11
  obtain ⟨Q, hQ⟩ : ∃ Q : Int × Mem → Prop, Q = fun q => (∃ y0 y1 y2 : Int, LST S P (vwb M) y0 y1 y2 ∧ q.1 = (if k = 0 then y0 else if k = 1 then y1 else y2)) ∧ CL S q.2 ∧ ∀ c j : Int, ¬ (c = 2 ∧ j = 10) → ¬ WFT c j → ¬ c = 45 → ¬ (38 ≤ c ∧ c ≤ 44) → mG q.2 c j = mG M c j := ⟨_, rfl⟩
  rw [← hQ]
  have last : ∀ m : Mem, mG m 2 9 = 45 → LST S P (vwb M) (mG m 45 0) (mG m 45 1) (mG m 45 2) → CL S m → (∀ c j : Int, ¬ (c = 2 ∧ j = 10) → ¬ WFT c j → ¬ c = 45 → ¬ (38 ≤ c ∧ c ≤ 44) → mG m c j = mG M c j) → pw (mX4_leastSize_26 2 k m) Q := fun m e9 l c g => by
    unfold mX4_leastSize_26
    refine p_gFc (ji := 9) rfl e9 (p_aG (fun v hv => p_ret ?_))
    rw [hQ]
    refine ⟨⟨_, _, _, l, ?_⟩, c, g⟩
    show v = _
    rw [← hv]
    by_cases e0 : k = 0
    · rw [if_pos e0, e0]
    · rw [if_neg e0]
      by_cases e1 : k = 1
      · rw [if_pos e1, e1]
      · rw [if_neg e1, show k = 2 by omega]
  unfold mX4_leastSize
  refine p_gFc (ji := 0) rfl k2.c2_0 (p_gK (p_call (q_viewed k2 h11) (fun v m y => ?_)))
  obtain ⟨y1, y2⟩ := y
  replace y1 : m = M := y1
  replace y2 : v = ((vwb M : Nat) : Int) := y2
  subst y1; subst y2
  refine p_gF (ji := 10) rfl (fun a ha => p_if (fun c => ?_) (fun c => ?_))
  · have c : a = ((vwb m : Nat) : Int) := c
    have ha : mG m 2 10 = a := ha
    rcases id cl with z | ⟨vw, z1, z2, z3⟩
    · omega
    · have e : vw = vwb m := by omega
      rw [e] at z3
      exact last m k2.c2_9 (z3 P tp) cl (fun _ _ _ _ _ _ => rfl)
  · refine p_gK (p_call (P := fun q => I n q.2 ∧ FLS m q.2 ∧ ∀ P', TXP S P' m → LST S P' (vwb m) (mG q.2 45 0) (mG q.2 45 1) (mG q.2 45 2)) (fun q e => ⟨(p_wp (s_X4_findLeastSizes (l1 := ((vwb m : Nat) : Int)) (by omega) iM) q e).1, (q_findLeastSizes ok iM sh tp hvw v8 q e).2, fun P' tp' => (q_findLeastSizes ok iM sh tp' hvw v8 q e).1⟩) (fun _ m1 y => ?_))
    obtain ⟨i1, f1, l1⟩ := y
    replace i1 : I n m1 := i1
    replace f1 : FLS m m1 := f1
    replace l1 : ∀ P', TXP S P' m → LST S P' (vwb m) (mG m1 45 0) (mG m1 45 1) (mG m1 45 2) := l1
    refine p_pF (ji := 10) rfl (fun m2 h2 => ?_)
    have g2 : ∀ c j : Int, ¬ (c = 2 ∧ j = 10) → mG m2 c j = mG m1 c j := fun c j w => st_ne h2 w
    have s45 : ∀ j, mG m2 45 j = mG m1 45 j := fun j => g2 45 j (fun w => absurd w.1 (by decide))
    have gg : ∀ c j : Int, ¬ (c = 2 ∧ j = 10) → ¬ WFT c j → ¬ c = 45 → ¬ (38 ≤ c ∧ c ≤ 44) → mG m2 c j = mG m c j := fun c j x y z w => (g2 c j x).trans (f1 c j y z w)
    have e11 : mG m2 3 11 = mG m 3 11 := gg 3 11 (by decide) (by unfold WFT; omega) (by decide) (by decide)
    refine last m2 ((g2 2 9 (by decide)).trans (K2.of i1).c2_9) (by rw [s45, s45, s45]; exact l1 P tp) (Or.inr ⟨vwb m, st_eq h2, fun s hs => by rw [e11]; exact hvw s hs, fun P' tp' => ?_⟩) gg
    rw [s45, s45, s45]
    refine l1 P' (fun s hs => ?_)
    have e14 : mG m2 14 (s : Int) = mG m 14 (s : Int) := gg 14 _ (by omega) (by unfold WFT; omega) (by decide) (by decide)
    obtain ⟨t1, t2, t3⟩ := tp' s (by rw [e11]; exact hs)
    rw [e14] at t1 t2
    exact ⟨t1, t2.of (fun b j b0 b1 => (gg b j (by omega) (by unfold WFT; omega) (by omega) (by omega)).symm), t3⟩
end
section
/-! ===== the reference's least sizes ===== -/
theorem d_m1 : decide ((-1 : Int) = -1) = true := by decide
theorem kb_m1 (n : Nat) : kbs (fun _ => -1) n = 0 ∧ kss (fun _ => -1) n = 0 := by
  constructor
  · refine Nat.eq_of_testBit_eq (fun i => ?_)
    unfold kbs
    rw [bitsOf_b, Nat.zero_testBit]
    show (decide (i < n) && !decide ((-1 : Int) = -1)) = false
    rw [d_m1]
    exact Bool.and_false _
  · refine Nat.eq_of_testBit_eq (fun i => ?_)
    unfold kss
    rw [bitsOf_b, Nat.zero_testBit]
    show (decide (i < n) && decide ((-1 : Int) = 1)) = false
    rw [decide_eq_false (show ¬ (-1 : Int) = 1 by decide)]
    exact Bool.and_false _
theorem okp_m1 (n : Int) (w k : Nat) : allb (okp n (fun _ => -1) w) k = true := (allb_t k).mpr (fun i _ => by
  show (decide ((-1 : Int) = -1) || _) = true
  rw [d_m1]; rfl)
theorem stw_K {S : SH} {P : Nat → List Row} {vw K w : Nat} (hv : vw < 2 ^ K) (hK : K ≤ 8) : allb (stw S P vw w) 8 = true ↔ allb (stw S P vw w) K = true := by
  rw [allb_t, allb_t]
  constructor
  · exact fun h i hi => h i (by omega)
  · intro h i hi
    by_cases c : i < K
    · exact h i c
    · unfold stw
      rw [Nat.testBit_lt_two_pow (Nat.lt_of_lt_of_le hv (Nat.pow_le_pow_right (n := 2) (by decide) (show K ≤ i by omega)))]
      rfl
def LRI (S : SH) (P : Nat → List Row) (K vw : Nat) (m : Mem) : Prop := K9 m ∧ (mG m 134 0 = S.nr ∧ ∀ r : Int, 0 ≤ r → r < S.nr → mG m 135 r = S.k1 r ∧ mG m 136 r = S.k2 r) ∧ (mG m 138 0 = (K : Int) ∧ mG m 126 48 = (vw : Int) ∧ mG m 126 49 = 0 ∧ mG m 126 50 = 0) ∧ RTP S P (K : Int) m
def FLR (M m : Mem) : Prop := ∀ c j : Int, ¬ (c = 126 ∧ (j = 46 ∨ (52 ≤ j ∧ j ≤ 54))) → ¬ c = 152 → ¬ c = 153 → ¬ c = 154 → ¬ c = 160 → ¬ c = 161 → mG m c j = mG M c j
section
variable {S : SH} {P : Nat → List Row} {K vw : Nat} {Q : Int × Mem → Prop}
theorem LRI.go {M m : Mem} (h : LRI S P K vw M) (g : FLR M m) : LRI S P K vw m := by
  obtain ⟨k9, ⟨e1, e2⟩, ⟨e3, e4, e5, e6⟩, rt⟩ := h
  have g6 : ∀ c j : Int, 127 ≤ c → c ≤ 151 → mG m c j = mG M c j := fun c j c0 c1 => g c j (by omega) (by omega) (by omega) (by omega) (by omega) (by omega)
  have g5 : ∀ j : Int, ¬ j = 46 → ¬ (52 ≤ j ∧ j ≤ 54) → mG m 126 j = mG M 126 j := fun j a b => g 126 j (by omega) (by decide) (by decide) (by decide) (by decide) (by decide)
  exact ⟨k9.kp (fun j hj => g5 j (by omega) (by omega)), ⟨(g6 134 0 (by decide) (by decide)).trans e1, fun r r0 r1 => ⟨(g6 135 r (by decide) (by decide)).trans (e2 r r0 r1).1, (g6 136 r (by decide) (by decide)).trans (e2 r r0 r1).2⟩⟩, ⟨(g6 138 0 (by decide) (by decide)).trans e3, (g5 48 (by decide) (by decide)).trans e4, (g5 49 (by decide) (by decide)).trans e5, (g5 50 (by decide) (by decide)).trans e6⟩, fun s hs => ⟨⟨(g6 141 _ (by decide) (by decide)).trans (rt s hs).1.1, fun i r hr => ((rt s hs).1.2 i r hr).kp (fun c c0 c1 => g6 c _ (by omega) (by omega))⟩, (rt s hs).2⟩⟩
/-- the answer is found -/
def FLQ (S : SH) (P : Nat → List Row) (vw : Nat) (q : Int × Mem) : Prop := K9 q.2 ∧ ((q.1 = 1 ∧ LST S P vw (mG q.2 126 52) (mG q.2 126 53) (mG q.2 126 54)) ∨ (q.1 = 0 ∧ LST S P vw (-1) (-1) (-1)))
theorem v_fl89 {k20 : Int → Int → Mem → Option (Int × Mem)} {k28 : Int → Int → Int → Mem → Option (Int × Mem)} {k35 : Int → Int → Int → Int → Mem → Option (Int × Mem)} {s a b : Int} (ok : S.ok) (hK : K ≤ 8) (hv : vw < 2 ^ K) (r3 : rg3 s a b) (hc : 1 ≤ s - a - b ∧ s - a - b ≤ 3) (nf : NFT S P vw (ky s a b)) (k : ∀ m, LRI S P K vw m → NFT S P vw (ky s a (b + 1)) → pw (k35 126 s a (b + 1) m) (FLQ S P vw)) : ∀ (fu w : Nat) (m : Mem), ((S.rs a b (s - a - b)).nf ≤ 12 → w ≤ 2 ^ (S.rs a b (s - a - b)).nf.toNat) → LRI S P K vw m → RSH (S.rs a b (s - a - b)) m → (∀ u, u < w → ¬ allb (stw (S.rs a b (s - a - b)) P vw u) 8 = true) → pw (mX9_findLeast_89 k20 k28 k35 fu 126 s a b (w : Int) m) (FLQ S P vw) := by
  have oks : (S.rs a b (s - a - b)).ok := rs_ok ok r3.2.1 r3.2.2 hc
  have nn := oks.nf
  intro fu
  induction fu with
  | zero => intro w m _ _ _ _; exact p_none
  | succ fu ih =>
    intro w m hw li rs hz
    show pw (bX9_findLeast_89 k20 k28 k35 (mX9_findLeast_89 k20 k28 k35 fu) 126 s a b (w : Int) m) _
    have r3' := r3
    unfold rg3 at r3'
    have no : ¬ FITS S P vw a b (s - a - b) → ∀ m', m' = m → pw (mX9_findLeast_145 k20 k28 k35 126 s a b m') (FLQ S P vw) := fun h m' e => by
      unfold mX9_findLeast_145
      rw [wI_id (x := b + 1) (by omega) (by omega), e]
      exact k m li (nf.step r3 h)
    unfold bX9_findLeast_89
    refine p_gK (p_call (v_manyFacts oks li.1 rs) (fun v m1 y => ?_))
    obtain ⟨y1, y2⟩ := y
    replace y1 : m1 = m := y1
    replace y2 : v = (S.rs a b (s - a - b)).nf := y2
    subst y1; subst y2
    refine p_if (fun c12 => no (fun w => by have := w.2.1; have c12 : 12 < (S.rs a b (s - a - b)).nf := c12; omega) m1 rfl) (fun c12 => ?_)
    replace c12 : ¬ 12 < (S.rs a b (s - a - b)).nf := c12
    refine p_gK (p_call (v_manyFacts oks li.1 rs) (fun v m2 y => ?_))
    obtain ⟨y1, y2⟩ := y
    replace y1 : m2 = m1 := y1
    replace y2 : v = (S.rs a b (s - a - b)).nf := y2
    subst y1
    obtain ⟨n, hn⟩ := Int.eq_ofNat_of_zero_le nn.1
    rw [hn] at y2
    subst y2
    have n12 : n ≤ 12 := by omega
    have en : (S.rs a b (s - a - b)).nf.toNat = n := by omega
    rw [en] at hw
    have p12 : 2 ^ n ≤ 2 ^ 12 := Nat.pow_le_pow_right (n := 2) (by decide) n12
    have hw' := hw (by omega)
    rw [ishl1 n (by omega), show (2 : Int) ^ n = ((2 ^ n : Nat) : Int) by simp]
    refine p_if (fun c => no (fun f => ?_) m2 rfl) (fun c => ?_)
    · obtain ⟨_, _, u, u1, u2⟩ := f
      rw [en] at u1
      exact hz u (by omega) u2
    have w1 : w < 2 ^ n := by omega
    obtain ⟨k0, k1⟩ := kb_m1 n
    have rw' : RWd (S.rs a b (s - a - b)) P (K : Int) vw (fun _ => -1) n m2 := ⟨⟨li.1, rs⟩, ⟨li.2.2.1.1, li.2.2.1.2.1, by rw [k0]; exact li.2.2.1.2.2.1, by rw [k1]; exact li.2.2.1.2.2.2⟩, li.2.2.2⟩
    have v8 : vw < 256 := Nat.lt_of_lt_of_le hv (Nat.pow_le_pow_right (n := 2) (by decide) hK)
    refine p_gK (p_call (v_isWorld (w := w) oks hn n12 w1 (fun _ => Or.inl rfl) hK v8 rw') (fun v m3 y => ?_))
    obtain ⟨y3, y4, _⟩ := y
    replace y3 : FI m2 m3 := y3
    replace y4 : v = b2i (WDr (S.rs a b (s - a - b)) P K vw (fun _ => -1) n w) := y4
    have fl : FLR m2 m3 := fun c j x _ _ z u w => y3 c j (fun e => x ⟨e.1, Or.inl e.2⟩) z u w
    have li3 := li.go fl
    unfold WDr at y4
    rw [okp_m1, Bool.true_and] at y4
    refine p_if (fun c2 => ?_) (fun c2 => ?_)
    · replace c2 : v = 0 := c2
      have wf := b2i_0.mp (y4.symm.trans c2)
      rw [wI_s (p := w) (by omega)]
      refine ih (w + 1) m3 (fun _ => by rw [en]; omega) li3 (rs.fi y3) (fun u hu hu2 => ?_)
      by_cases e : u = w
      · rw [e] at hu2
        rw [(stw_K hv hK).mp hu2] at wf
        cases wf
      · exact hz u (by omega) hu2
    · have wt : allb (stw (S.rs a b (s - a - b)) P vw w) K = true := by
        cases e : allb (stw (S.rs a b (s - a - b)) P vw w) K with
        | true => rfl
        | false => rw [e] at y4; exact absurd y4 c2
      have k3 := li3.1
      refine p_pF (ji := 52) rfl (fun m4 h4 => p_pF (ji := 53) rfl (fun m5 h5 => p_pF (ji := 54) rfl (fun m6 h6 => p_ret ⟨?_, Or.inl ⟨rfl, ?_⟩⟩)))
      · exact k3.kp (fun j hj => (st_ne h6 (fun w => by omega)).trans ((st_ne h5 (fun w => by omega)).trans (st_ne h4 (fun w => by omega))))
      · rw [wI_id (x := s - a) (by omega) (by omega), wI_id (x := s - a - b) (by omega) (by omega)] at h6
        refine Or.inl ⟨s, a, b, r3, ⟨hc, by omega, w, by rw [en]; exact w1, (stw_K hv hK).mpr wt⟩, nf, ?_, ?_, ?_⟩
        · exact (st_ne h6 (fun w => absurd w.2 (by decide))).trans ((st_ne h5 (fun w => absurd w.2 (by decide))).trans (st_eq h4))
        · exact (st_ne h6 (fun w => absurd w.2 (by decide))).trans (st_eq h5)
        · exact st_eq h6
theorem v_fl35 {k20 : Int → Int → Mem → Option (Int × Mem)} {k28 : Int → Int → Int → Mem → Option (Int × Mem)} {s a : Int} (ok : S.ok) (hK : K ≤ 8) (hv : vw < 2 ^ K) (hs : 3 ≤ s ∧ s ≤ 9) (ha : 1 ≤ a ∧ a ≤ 3) (k : ∀ m, LRI S P K vw m → NFT S P vw (ky s (a + 1) 1) → pw (k28 126 s (a + 1) m) (FLQ S P vw)) : ∀ (fu : Nat) (b : Int) (m : Mem), (1 ≤ b ∧ b ≤ 4) → LRI S P K vw m → NFT S P vw (ky s a b) → pw (mX9_findLeast_35 k20 k28 fu 126 s a b m) (FLQ S P vw) := by
  intro fu
  induction fu with
  | zero => intro b m _ _ _; exact p_none
  | succ fu ih =>
    intro b m hb li nf
    show pw (bX9_findLeast_35 k20 k28 (mX9_findLeast_35 k20 k28 fu) 126 s a b m) _
    unfold bX9_findLeast_35
    refine p_if (fun c => ?_) (fun c => ?_)
    · rw [wI_id (x := a + 1) (by omega) (by omega)]
      rw [show b = 4 by omega] at nf
      exact k m li nf.row
    have r3 : rg3 s a b := ⟨hs, ha, by omega, by omega⟩
    have kx : ∀ m', (∀ j, mG m' 126 j = mG m 126 j) → mG m' 126 26 = 152 := fun m' g => (g 26).trans li.1.c26
    rw [wI_id (x := s - a) (by omega) (by omega), wI_id (x := s - a - b) (by omega) (by omega)]
    refine p_gFc (ji := 26) rfl li.1.c26 (p_aS (fun m4 h4 => ?_))
    have g4 : ∀ c j : Int, ¬ c = 152 → mG m4 c j = mG m c j := fun c j x => st_ne h4 (fun w => x w.1)
    refine p_gFc (ji := 26) rfl (kx m4 (fun j => g4 126 j (by decide))) (p_aS (fun m5 h5 => ?_))
    have g5 : ∀ c j : Int, ¬ c = 152 → mG m5 c j = mG m c j := fun c j x => (st_ne h5 (fun w => x w.1)).trans (g4 c j x)
    refine p_gFc (ji := 26) rfl (kx m5 (fun j => g5 126 j (by decide))) (p_aS (fun m6 h6 => ?_))
    have g6 : ∀ c j : Int, ¬ c = 152 → mG m6 c j = mG m c j := fun c j x => (st_ne h6 (fun w => x w.1)).trans (g5 c j x)
    have e0 : mG m6 152 0 = a := (st_ne h6 (fun w => absurd w.2 (by decide))).trans ((st_ne h5 (fun w => absurd w.2 (by decide))).trans (st_eq h4))
    have e1 : mG m6 152 1 = b := (st_ne h6 (fun w => absurd w.2 (by decide))).trans (st_eq h5)
    have e2 : mG m6 152 2 = s - a - b := st_eq h6
    have li6 : LRI S P K vw m6 := li.go (fun c j _ y _ _ _ _ => g6 c j y)
    refine p_gFc (ji := 26) rfl li6.1.c26 (p_aGc e2 (p_call w_in (fun v m7 y => ?_)))
    obtain ⟨e, y⟩ := y
    replace e : m7 = m6 := e
    subst e
    rcases y with ⟨hc, e⟩ | ⟨hc, e⟩
    · replace e : v = 1 := e
      have oks : (S.rs a b (s - a - b)).ok := rs_ok ok ha ⟨by omega, by omega⟩ hc
      have sz : ∀ k : Int, 0 ≤ k → k < 3 → mG m7 152 k = (S.rs a b (s - a - b)).sz k := fun k k0 k1 => by
        show mG m7 152 k = (if k = 0 then a else if k = 1 then b else s - a - b)
        by_cases z0 : k = 0
        · rw [if_pos z0, z0, e0]
        · rw [if_neg z0]
          by_cases z1 : k = 1
          · rw [if_pos z1, z1, e1]
          · rw [if_neg z1, show k = 2 by omega, e2]
      refine p_it0 (show ¬ v = 0 by omega) (p_gK (p_call (v_findStarts (S := S.rs a b (s - a - b)) oks li6.1 sz li6.2.1) (fun _ m8 y => ?_)))
      obtain ⟨rs, g8⟩ := y
      replace g8 : ∀ c j : Int, ¬ c = 153 → mG m8 c j = mG m7 c j := g8
      exact v_fl89 ok hK hv r3 hc nf (fun m' l' n' => ih (b + 1) m' (by omega) l' n') FU 0 m8 (fun _ => Nat.zero_le _) (li6.go (fun c j _ _ y _ _ _ => g8 c j y)) rs (fun u hu => absurd hu (by omega))
    · refine p_it1 e ?_
      unfold mX9_findLeast_145
      rw [wI_id (x := b + 1) (by omega) (by omega)]
      exact ih (b + 1) m7 (by omega) li6 (nf.step r3 (fun f => hc f.1))
theorem v_fl20 (ok : S.ok) (hK : K ≤ 8) (hv : vw < 2 ^ K) : ∀ (fu : Nat) (s : Int) (m : Mem), (3 ≤ s ∧ s ≤ 10) → LRI S P K vw m → NFT S P vw (ky s 1 1) → pw (mX9_findLeast_20 fu 126 s m) (FLQ S P vw) := by
  intro fu
  induction fu with
  | zero => intro s m _ _ _; exact p_none
  | succ fu ih =>
    intro s m hs li nf
    show pw (bX9_findLeast_20 (mX9_findLeast_20 fu) 126 s m) _
    unfold bX9_findLeast_20
    refine p_if (fun c => p_ret ⟨li.1, Or.inr ⟨rfl, Or.inr ⟨?_, rfl, rfl, rfl⟩⟩⟩) (fun c => ?_)
    · rw [show s = 10 by omega] at nf
      exact nf.fin
    have l28 : ∀ (fu2 : Nat) (a : Int) (m2 : Mem), (1 ≤ a ∧ a ≤ 4) → LRI S P K vw m2 → NFT S P vw (ky s a 1) → pw (mX9_findLeast_28 (mX9_findLeast_20 fu) fu2 126 s a m2) (FLQ S P vw) := by
      intro fu2
      induction fu2 with
      | zero => intro a m2 _ _ _; exact p_none
      | succ fu2 ih2 =>
        intro a m2 ha l2 n2
        show pw (bX9_findLeast_28 (mX9_findLeast_20 fu) (mX9_findLeast_28 (mX9_findLeast_20 fu) fu2) 126 s a m2) _
        unfold bX9_findLeast_28
        refine p_if (fun c3 => ?_) (fun c3 => ?_)
        · rw [wI_id (x := s + 1) (by omega) (by omega)]
          rw [show a = 4 by omega] at n2
          exact ih (s + 1) m2 (by omega) l2 n2.sum
        · exact v_fl35 ok hK hv (by omega) (by omega) (fun m' l' n' => ih2 (a + 1) m' (by omega) l' n') FU 1 m2 (by omega) l2 n2
    exact l28 FU 1 m (by omega) li nf
end
theorem v_least {S : SH} {P : Nat → List Row} {M : Mem} {k : Int} (ok : S.ok) (rf : RFB S P M) : pw (mX9_least 126 k M) (fun q => (¬ (0 ≤ k ∧ k ≤ 2) ∧ q.1 = -1) ∨ ((0 ≤ k ∧ k ≤ 2) ∧ ∃ y0 y1 y2 : Int, LST S P (tvb M) y0 y1 y2 ∧ q.1 = (if k = 0 then y0 else if k = 1 then y1 else y2))) := by
  obtain ⟨K, hK⟩ := Int.eq_ofNat_of_zero_le rf.2.2.2.1.1
  have h8 := rf.2.2.2.1
  have vl := tvb_lt hK
  unfold mX9_least
  refine p_pF (ji := 0) rfl (fun m1 h1 => ?_)
  have g1 : ∀ c j : Int, ¬ (c = 126 ∧ j = 0) → mG m1 c j = mG M c j := fun c j x => st_ne h1 x
  have k1 : K9 m1 := rf.1.kp (fun j hj => g1 126 j (by omega))
  refine p_call w_in (fun v m2 y => ?_)
  obtain ⟨e, y⟩ := y
  replace e : m2 = m1 := e
  subst e
  rcases y with ⟨c1, e⟩ | ⟨c1, e⟩
  · replace e : v = 1 := e
    refine p_it0 (show ¬ v = 0 by omega) (p_gK (p_call (P := FLQ S P (tvb M)) ?_ (fun v m3 y => ?_)))
    · unfold mX9_findLeast
      have t1 : tvb m2 = tvb M := by
        unfold tvb
        rw [g1 131 0 (by decide), g1 132 0 (by decide), g1 138 0 (by decide), show mG m2 139 = mG M 139 from funext (fun j => g1 139 j (fun w => absurd w.1 (by decide))), show mG m2 140 = mG M 140 from funext (fun j => g1 140 j (fun w => absurd w.1 (by decide)))]
      refine p_gK (p_call (v_told k1 (by rw [g1 138 0 (by decide)]; exact h8)) (fun v m4 y => ?_))
      obtain ⟨y1, y2⟩ := y
      replace y1 : m4 = m2 := y1
      replace y2 : v = ((tvb m2 : Nat) : Int) := y2
      subst y1
      rw [t1] at y2
      subst y2
      refine p_pF (ji := 48) rfl (fun m5 h5 => p_pF (ji := 49) rfl (fun m6 h6 => p_pF (ji := 50) rfl (fun m7 h7 => ?_)))
      have g7 : ∀ c j : Int, ¬ (c = 126 ∧ (j = 0 ∨ j = 48 ∨ j = 49 ∨ j = 50)) → mG m7 c j = mG M c j := fun c j x => (st_ne h7 (fun w => x (by omega))).trans ((st_ne h6 (fun w => x (by omega))).trans ((st_ne h5 (fun w => x (by omega))).trans (g1 c j (fun w => x (by omega)))))
      have g8 : ∀ c j : Int, ¬ c = 126 → mG m7 c j = mG M c j := fun c j x => g7 c j (fun w => x w.1)
      have li : LRI S P K (tvb M) m7 := by
        refine ⟨rf.1.kp (fun j hj => g7 126 j (by omega)), ⟨(g8 134 0 (by decide)).trans rf.2.1.2.1, fun r r0 r1 => ⟨(g8 135 r (by decide)).trans (rf.2.1.2.2 r r0 r1).1, (g8 136 r (by decide)).trans (rf.2.1.2.2 r r0 r1).2⟩⟩, ⟨(g8 138 0 (by decide)).trans hK, ?_, ?_, st_eq h7⟩, fun s hs => ?_⟩
        · exact (st_ne h7 (fun w => absurd w.2 (by decide))).trans ((st_ne h6 (fun w => absurd w.2 (by decide))).trans (st_eq h5))
        · exact (st_ne h7 (fun w => absurd w.2 (by decide))).trans (st_eq h6)
        · have rt := rf.2.2.2.2 s (by rw [hK]; exact hs)
          exact ⟨⟨(g8 141 _ (by decide)).trans rt.1.1, fun i r hr => (rt.1.2 i r hr).kp (fun c c0 c1 => g8 c _ (by omega))⟩, rt.2⟩
      exact v_fl20 ok (by omega) vl FU 3 m7 (by omega) li NFT.ini
    · obtain ⟨k9, y⟩ := y
      replace k9 : K9 m3 := k9
      rcases y with ⟨e, l⟩ | ⟨e, l⟩
      · replace e : v = 1 := e
        replace l : LST S P (tvb M) (mG m3 126 52) (mG m3 126 53) (mG m3 126 54) := l
        refine p_it0 (show ¬ v = 0 by omega) (p_if (fun z0 => p_gFc (ji := 52) rfl rfl (p_ret (Or.inr ⟨c1, _, _, _, l, ?_⟩))) (fun z0 => p_if (fun z1 => p_gFc (ji := 53) rfl rfl (p_ret (Or.inr ⟨c1, _, _, _, l, ?_⟩))) (fun z1 => p_gFc (ji := 54) rfl rfl (p_ret (Or.inr ⟨c1, _, _, _, l, ?_⟩)))))
        · rw [if_pos z0]
        · rw [if_neg z0, if_pos z1]
        · rw [if_neg z0, if_neg z1]
      · refine p_it1 e (p_ret (Or.inr ⟨c1, _, _, _, l, ?_⟩))
        show (-1 : Int) = _
        by_cases z0 : k = 0
        · rw [if_pos z0]
        · rw [if_neg z0]
          by_cases z1 : k = 1
          · rw [if_pos z1]
          · rw [if_neg z1]
  · replace e : v = 0 := e
    exact p_it1 e (p_ret (Or.inl ⟨c1, rfl⟩))
end
section
/-! ===== what the class holds of least sizes is kept; least alike ===== -/
def CLC (b j : Int) : Prop := (b = 2 ∧ j = 10) ∨ (b = 3 ∧ j = 11) ∨ (b = 4 ∧ j = 6) ∨ (5 ≤ b ∧ b ≤ 7) ∨ b = 14 ∨ b = 45
def NLC (b j : Int) : Prop := b ≤ 169 ∧ ¬ CLC b j
section
variable {n : Nat} {M M' : Mem}
theorem CL.go2 (iM : I n M) (cl : CL (shp M) M) (h10 : mG M' 2 10 = mG M 2 10) (h45 : ∀ j : Int, mG M' 45 j = mG M 45 j) (hs : shp M' = shp M) (h11 : mG M 3 11 ≤ mG M' 3 11) (h14 : ∀ s : Int, s < mG M 3 11 → mG M' 14 s = mG M 14 s) (gt : ∀ b j : Int, 169 < b → b ≤ (n : Int) → mG M' b j = mG M b j) : CL (shp M') M' := by
  rw [hs]
  rcases cl with z | ⟨vw, z1, z2, z3⟩
  · exact Or.inl (h10.trans z)
  refine Or.inr ⟨vw, h10.trans z1, fun s hs => by have := z2 s hs; omega, fun P tp => ?_⟩
  rw [h45, h45, h45]
  refine z3 P (fun s hs => ?_)
  obtain ⟨t1, t2, t3⟩ := tp s (by omega)
  rw [h14 _ hs] at t1 t2
  have r11 := rd_Told_11 iM (a := 3) rfl
  have t5 := (tx_at iM (i := 0) (s := (s : Int)) (by decide) (by decide) (by omega) (by omega) (show ¬ mG M 14 (s : Int) = 0 by omega)).2
  replace t5 : mG M 14 (s : Int) + 5 ≤ (n : Int) := t5
  exact ⟨t1, t2.of (fun b j b0 b1 => (gt b j (by omega) (by omega)).symm), t3⟩
theorem CL.go (iM : I n M) (cl : CL (shp M) M) (g : ∀ b j : Int, b ≤ (n : Int) → CLC b j ∨ 169 < b → mG M' b j = mG M b j) : CL (shp M') M' := by
  have hn : (169 : Int) ≤ (n : Int) := by have := iM.2.2.2.2.1; omega
  have g' : ∀ b j : Int, CLC b j → mG M' b j = mG M b j := fun b j h => g b j (by unfold CLC at h; omega) (Or.inl h)
  exact cl.go2 iM (g' 2 10 (by unfold CLC; decide)) (fun j => g' 45 j (by unfold CLC; omega)) (shp_go (fun b j h => g' b j (by unfold CLC; omega))) (Int.le_of_eq (g' 3 11 (by unfold CLC; decide)).symm) (fun s _ => g' 14 s (by unfold CLC; omega)) (fun b j b0 b1 => g b j b1 (Or.inr b0))
theorem CL.kp {W : Int → Int → Prop} (iM : I n M) (cl : CL (shp M) M) (k : Keep n W M M') (d : ∀ b j, W b j → NLC b j) : CL (shp M') M' := cl.go iM (fun b j b0 h => k.2.2 b j b0 (fun z => by
  have := d b j z
  unfold NLC at this
  rcases h with h | h
  · exact this.2 h
  · omega))
theorem CL.f9 (iM : I n M) (cl : CL (shp M) M) (g : ∀ b j : Int, b ≤ (n : Int) → ¬ (126 ≤ b ∧ b ≤ 169) → mG M' b j = mG M b j) : CL (shp M') M' := cl.go iM (fun b j b0 h => g b j b0 (fun z => by
  unfold CLC at h
  omega))
def JL (M : Mem) : Prop := J3 M ∧ CL (shp M) M
/-- one property more of the class's side -/
theorem J3.ux {X : Mem → Prop} {x : Option (Int × Mem)} {y : Mem → Option (Int × Mem)} {W9 : Int → Int → Prop} {P9 : Int × Mem → Prop} (h : J3 M) (hX : ∀ (n : Nat) (M1 M2 : Mem), I n M1 → X M1 → (∀ b j : Int, b ≤ (n : Int) → ¬ (126 ≤ b ∧ b ≤ 169) → mG M2 b j = mG M1 b j) → X M2) (hj : wp x (fun q1 => wp (y q1.2) (fun q2 => J3 q2.2))) (hx : pw x (fun q => (∃ n, I n q.2) ∧ F9 M q.2)) (c8 : pw x (fun q => X q.2)) (hy : ∀ n M1, WF M1 → I n M1 → wp (y M1) (fun q => I n q.2 ∧ Keep n W9 M1 q.2 ∧ P9 q)) (d9 : ∀ b j, W9 b j → 126 ≤ b ∧ b ≤ 169) : wp x (fun q1 => wp (y q1.2) (fun q2 => J3 q2.2 ∧ X q2.2)) := by
  have wf := h.1.1.2.1
  have k : pw x (fun q1 => pw (y q1.2) (fun q2 => X q2.2)) := by
    refine p_mono (p_and hx c8) ?_
    rintro q1 ⟨⟨⟨n, i1⟩, f9⟩, cx⟩
    have wf1 : WF q1.2 := WF_of wf (fun j => f9 _ j (by decide) (by decide)) (fun j => f9 _ j (by decide) (by decide)) (fun j => f9 _ j (by decide) (by decide)) (fun j => f9 _ j (by decide) (by decide)) (fun j => f9 _ j (by decide) (by decide))
    refine p_mono (p_wp (hy n q1.2 wf1 i1)) ?_
    rintro q2 ⟨i2, k2, -⟩
    exact hX n q1.2 q2.2 i1 cx (fun b j b0 hb => k2.2.2 b j b0 (fun z => hb (d9 b j z)))
  exact w_and3 (M := M) hj k
theorem cl_of {x : Option (Int × Mem)} {W : Int → Int → Prop} {P : Int × Mem → Prop} (h : JL M) (hx : wp x (fun q => I (mN M) q.2 ∧ Keep (mN M) W M q.2 ∧ P q)) (d : ∀ b j, W b j → NLC b j) : pw x (fun q => CL (shp q.2) q.2) :=
  p_mono (p_wp hx) (fun q y => h.2.kp h.1.1.1.1 y.2.1 d)
theorem q_forget10 : pw (mX4_forget 2 M) (fun q => mG q.2 2 10 = -1) := by
  unfold mX4_forget
  refine p_pF (ji := 4) rfl (fun m1 h1 => p_pF (ji := 10) rfl (fun m2 h2 => p_gF (ji := 2) rfl (fun a _ => p_gK ?_)))
  unfold mX1_forget
  refine p_bindg (fun Q1 hQ1 => p_pZ (ji := 6) rfl (fun m3 h3 => p_pZ (ji := 7) rfl (fun m4 h4 => p_ret (hQ1 _ (p_ret ?_)))))
  show mG m4 2 10 = -1
  rw [st_ne h4 (fun w => absurd w.2 (by decide)), st_ne h3 (fun w => absurd w.2 (by decide)), st_eq h2]
theorem l_size {a b : Int} (r1 : (-2147483648) ≤ a ∧ a ≤ 2147483647) (r2 : (-2147483648) ≤ b ∧ b ≤ 2147483647) (iM : I n M) : pw (mX8_size 1 a b M) (fun q => q.1 = 0 ∨ mG q.2 2 10 = -1) := by
  unfold mX8_size
  refine p_gFc (ji := 1) rfl (rd_VS_1 iM (a := 1) rfl) (p_gFc (ji := 0) rfl (K2.of iM).c3_0 (p_gK (p_call (p_wp (s_X3_resize (l0 := 4) (Or.inl rfl) r1 r2 iM)) (fun v m y => p_if (fun _ => p_ret (Or.inl rfl)) (fun _ => ?_)))))
  have i1 := y.1
  refine p_gFc (ji := 1) rfl (rd_VS_1 i1 (a := 1) rfl) (p_gK (p_call (p_wp (s_X6_clearWorlds i1)) (fun v m2 y => ?_)))
  exact p_gFc (ji := 0) rfl (rd_VS_0 y.1 (a := 1) rfl) (p_gK (p_call q_forget10 (fun v m3 y => p_ret (Or.inr y))))
theorem l_relation {a b : Int} (r1 : (-2147483648) ≤ a ∧ a ≤ 2147483647) (r2 : (-2147483648) ≤ b ∧ b ≤ 2147483647) (iM : I n M) : pw (mX8_relation 1 a b M) (fun q => q.1 = -1 ∨ mG q.2 2 10 = -1) := by
  unfold mX8_relation
  refine p_gFc (ji := 1) rfl (rd_VS_1 iM (a := 1) rfl) (p_gFc (ji := 0) rfl (K2.of iM).c3_0 (p_gK (p_call (p_wp (s_X3_addRelation (l0 := 4) (Or.inl rfl) r1 r2 iM)) (fun v m y => ?_))))
  have i1 := y.1
  unfold mX8_relation_32
  refine p_if (fun c => p_ret (Or.inl c)) (fun _ => ?_)
  refine p_gFc (ji := 1) rfl (rd_VS_1 i1 (a := 1) rfl) (p_gK (p_call (p_wp (s_X6_clearWorlds i1)) (fun v2 m2 y => ?_)))
  exact p_gFc (ji := 0) rfl (rd_VS_0 y.1 (a := 1) rfl) (p_gK (p_call q_forget10 (fun v m3 y => p_ret (Or.inr y))))
theorem l_again {a : Int} (iM : I n M) : pw (mX8_again 1 a M) (fun q => q.1 = 0 ∨ mG q.2 2 10 = -1) := by
  unfold mX8_again
  refine p_if (fun _ => p_ret (Or.inl rfl)) (fun c1 => p_if (fun _ => p_ret (Or.inl rfl)) (fun c2 => p_gF (ji := 4) rfl (fun _ _ => p_aG (fun _ _ => p_if (fun _ => p_ret (Or.inl rfl)) (fun _ => ?_)))))
  refine p_gFc (ji := 1) rfl (rd_VS_1 iM (a := 1) rfl) (p_gFc (ji := 3) rfl (rd_VS_3 iM (a := 1) rfl) (p_aGc (rd_Vimages iM (a := 73) (i := a) rfl (by omega) (by omega)) (p_gK (p_call (p_wp (s_X6_copy (l0 := 3) (l1 := 75 + 17 * a) (Or.inl rfl) (by unfold isTold; omega) iM)) (fun v m y => ?_)))))
  exact p_gFc (ji := 0) rfl (rd_VS_0 y.1 (a := 1) rfl) (p_gK (p_call q_forget10 (fun v m3 y => p_ret (Or.inr y))))
theorem cl_size {a b : Int} (r1 : (-2147483648) ≤ a ∧ a ≤ 2147483647) (r2 : (-2147483648) ≤ b ∧ b ≤ 2147483647) (h : JL M) : pw (mX8_size 1 a b M) (fun q => CL (shp q.2) q.2) :=
  p_mono (p_and (pl_size h.1.1.1.1) (l_size r1 r2 h.1.1.1.1)) (fun q y => by
    rcases y.1 with ⟨_, _, z⟩ | ⟨z, _⟩
    · rw [z]; exact h.2
    · rcases y.2 with w | w
      · omega
      · exact Or.inl w)
theorem cl_relation {a b : Int} (r1 : (-2147483648) ≤ a ∧ a ≤ 2147483647) (r2 : (-2147483648) ≤ b ∧ b ≤ 2147483647) (h : JL M) : pw (mX8_relation 1 a b M) (fun q => CL (shp q.2) q.2) :=
  p_mono (p_and (pl_relation h.1.1.1.1) (l_relation r1 r2 h.1.1.1.1)) (fun q y => by
    have r6 := rd_Shape_6 h.1.1.1.1 (a := 4) rfl
    rcases y.1 with ⟨_, _, z⟩ | ⟨z, _⟩
    · rw [z]; exact h.2
    · rcases y.2 with w | w
      · omega
      · exact Or.inl w)
theorem cl_again {a : Int} (h : JL M) : pw (mX8_again 1 a M) (fun q => CL (shp q.2) q.2) :=
  p_mono (p_and (pl_again h.1.1.1.1) (l_again h.1.1.1.1)) (fun q y => by
    rcases y.1 with ⟨_, _, z⟩ | ⟨z, _⟩
    · rw [z]; exact h.2
    · rcases y.2 with w | w
      · omega
      · exact Or.inl w)
theorem cl_story (h : JL M) : pw (mX8_story 1 M) (fun q => CL (shp q.2) q.2) := by
  have iM := h.1.1.1.1
  have hn : (169 : Int) ≤ ((mN M : Nat) : Int) := by have := iM.2.2.2.2.1; omega
  refine p_mono (p2_story iM) (fun q y => ?_)
  rcases y with ⟨_, _, g⟩ | ⟨_, _, _, g⟩ | ⟨lt, _, ps, _, _, _, _, _, e11, g⟩
  · exact h.2.go iM (fun b j b0 hb => g b j (by unfold CLC at hb; unfold CR; omega))
  · exact h.2.go iM (fun b j b0 hb => g b j b0 (by unfold CLC at hb; unfold CR; omega))
  · have g' : ∀ b j : Int, b ≤ ((mN M : Nat) : Int) → ¬ CR b j → ¬ (14 ≤ b ∧ b ≤ 16 ∧ j = mG M 3 11) → ¬ (b = 3 ∧ j = 11) → mG q.2 b j = mG M b j := g
    exact h.2.go2 iM (g' 2 10 (by omega) (by unfold CR; omega) (by omega) (by omega)) (fun j => g' 45 j (by omega) (by unfold CR; omega) (by omega) (by omega)) (shp_go (fun b j x => g' b j (by omega) (by unfold CR; omega) (by omega) (by omega))) (by omega) (fun s hs => g' 14 s (by omega) (by unfold CR; omega) (by omega) (by omega)) (fun b j b0 b1 => g' b j b1 (by unfold CR; omega) (by omega) (by omega))
theorem cl_guess (h : JL M) : pw (mX8_guess 1 M) (fun q => CL (shp q.2) q.2) := by
  have iM := h.1.1.1.1
  refine p_mono (p_wp (s_X8_guess iM)) (fun q y => ?_)
  obtain ⟨⟨n, hn, i2, k2, _⟩, _⟩ := y
  exact h.2.go iM (fun b j b0 hb => k2.2.2 b j b0 (fun z => by unfold W_X8_guess at z; unfold CLC at hb; omega))
theorem cl_image {a : Int} (h : JL M) : pw (mX8_image 1 a M) (fun q => CL (shp q.2) q.2) := by
  refine p_mono (pl_image h.1.1.1.1) (fun q y => ?_)
  rcases y with ⟨_, _, z⟩ | ⟨_, c, M1, ⟨_, _, _, _, g⟩, e⟩
  · rw [z]; exact h.2
  · exact h.2.go h.1.1.1.1 (fun b j b0 hb => (st_ne e (fun w => by unfold CLC at hb; omega)).trans (g b j (fun w => by unfold CLC at hb; omega)))
theorem q_least8 {k : Int} (h : JL M) : pw (mX8_least 1 k M) (fun q => (CL (shp q.2) q.2 ∧ ∀ c j : Int, 65 ≤ c → mG q.2 c j = mG M c j) ∧ ((¬ (0 ≤ k ∧ k ≤ 2) ∧ q.1 = -1) ∨ ((0 ≤ k ∧ k ≤ 2) ∧ ∀ P, TXP (shp M) P M → ∃ y0 y1 y2 : Int, LST (shp M) P (vwb M) y0 y1 y2 ∧ q.1 = (if k = 0 then y0 else if k = 1 then y1 else y2)))) := by
  obtain ⟨P0, n, ok, hn, k2, sh, tp0, rf, ve, vlt, h1, hl⟩ := look h.1
  have iM := h.1.1.1.1
  unfold mX8_least
  refine p_call pl_isKind (fun r m y => ?_)
  obtain ⟨y1, y2⟩ := y
  replace y1 : m = M := y1
  subst y1
  rcases y2 with ⟨e, c⟩ | ⟨e, c⟩
  · replace e : r = 1 := e
    refine p_it0 (show ¬ r = 0 by omega) (p_gFc (ji := 0) rfl h1.1 (p_gK (p_call (P := fun q => (∀ P, TXP (shp m) P m → ∃ y0 y1 y2 : Int, LST (shp m) P (vwb m) y0 y1 y2 ∧ q.1 = (if k = 0 then y0 else if k = 1 then y1 else y2)) ∧ CL (shp m) q.2 ∧ ∀ c j : Int, ¬ (c = 2 ∧ j = 10) → ¬ WFT c j → ¬ c = 45 → ¬ (38 ≤ c ∧ c ≤ 44) → mG q.2 c j = mG m c j) (fun q e => ⟨fun P tp => (q_leastSize ok iM sh tp h.2 c q e).1, (q_leastSize ok iM sh tp0 h.2 c q e).2⟩) (fun v m2 y => p_ret ?_))))
    obtain ⟨z1, z2, z3⟩ := y
    replace z2 : CL (shp m) m2 := z2
    replace z3 : ∀ c j : Int, ¬ (c = 2 ∧ j = 10) → ¬ WFT c j → ¬ c = 45 → ¬ (38 ≤ c ∧ c ≤ 44) → mG m2 c j = mG m c j := z3
    have es : shp m2 = shp m := shp_go (fun b j x => z3 b j (by omega) (by unfold WFT; omega) (by omega) (by omega))
    exact ⟨⟨by rw [es]; exact z2, fun c j c0 => z3 c j (by omega) (by unfold WFT; omega) (by omega) (by omega)⟩, Or.inr ⟨c, z1⟩⟩
  · replace e : r = 0 := e
    exact p_it1 e (p_ret ⟨⟨h.2, fun _ _ _ => rfl⟩, Or.inl ⟨fun w => c w, rfl⟩⟩)
theorem cl_least {k : Int} (h : JL M) : pw (mX8_least 1 k M) (fun q => CL (shp q.2) q.2) := p_mono (q_least8 h) (fun q y => y.1.1)
theorem eq_least {k : Int} (h : JL M) : pw (mX8_least 1 k M) (fun q1 => pw (mX9_least 126 k q1.2) (fun q2 => EQ q1 q2)) := by
  obtain ⟨P, n, ok, hn, k2, sh, tp, rf, ve, vlt, h1, hl⟩ := look h.1
  refine p_mono (q_least8 (k := k) h) (fun q1 y => ?_)
  obtain ⟨⟨_, g⟩, y⟩ := y
  obtain ⟨rf2, e1, e2, e3⟩ := rf.f9 (M' := q1.2) (fun c j c0 _ => g c j (by omega))
  refine p_mono (v_least (k := k) ok rf2) (fun q2 z => ?_)
  rw [e1, ve] at z
  show q1.1 = q2.1
  rcases y with ⟨a, b⟩ | ⟨a, b⟩
  · rcases z with ⟨c, d⟩ | ⟨c, d⟩
    · rw [b, d]
    · exact absurd c a
  · rcases z with ⟨c, d⟩ | ⟨c, d⟩
    · exact absurd a c
    · obtain ⟨y0, y1, y2, l, e⟩ := b P tp
      obtain ⟨x0, x1, x2, l', e'⟩ := d
      obtain ⟨q0, q1', q2'⟩ := l.eq l'
      rw [e, e', q0, q1', q2']
end
theorem init_JL {M : Mem} (r : RepL 197 169 M) : JL M := by
  have t := TR.of r (X := 0) (lo := 1) (hi := 169)
  exact ⟨init_J3 r, Or.inl (t.v (show tvo 0 [] 2 10 = some (-1) by decide) ⟨by decide, by decide⟩)⟩
end
