/-! ===== the class's least sizes ===== -/
def FLS (M M' : Mem) : Prop := ∀ c j : Int, ¬ WFT c j → ¬ c = 45 → ¬ (38 ≤ c ∧ c ≤ 44) → mG M' c j = mG M c j
def INL (n : Nat) (S : SH) (M m : Mem) : Prop := I n m ∧ TRI S m ∧ FLS M m
theorem TXP.ls {S : SH} {P : Nat → List Row} {M m : Mem} (tp : TXP S P M) (f : FLS M m) : TXP S P m := fun s hs => by
  have e11 : mG m 3 11 = mG M 3 11 := f 3 11 (by unfold WFT; omega) (by decide) (by decide)
  rw [e11] at hs
  obtain ⟨t1, t2, t3⟩ := tp s hs
  have e14 : mG m 14 (s : Int) = mG M 14 (s : Int) := f 14 _ (by unfold WFT; omega) (by decide) (by decide)
  rw [e14]
  exact ⟨t1, t2.of (fun b' j b0 b1 => f b' j (by unfold WFT; omega) (by omega) (by omega)), t3⟩
theorem q_findLeastSizes {n : Nat} {M : Mem} {S : SH} {P : Nat → List Row} {vw : Nat} (ok : S.ok) (iM : I n M) (sh : SHC S 4 M) (tp : TXP S P M) (hvw : ∀ s : Nat, vw.testBit s = true → (s : Int) < mG M 3 11) (v8 : vw < 256) : pw (mX4_findLeastSizes 2 (vw : Int) M) (fun q => LST S P vw (mG q.2 45 0) (mG q.2 45 1) (mG q.2 45 2) ∧ FLS M q.2) := by
  have n4 := ok.2.1
  obtain ⟨Q, hQ⟩ : ∃ Q : Int × Mem → Prop, Q = fun q => LST S P vw (mG q.2 45 0) (mG q.2 45 1) (mG q.2 45 2) ∧ FLS M q.2 := ⟨_, rfl⟩
  rw [← hQ]
  have l93 : ∀ (fu k : Nat) (m : Mem), k ≤ 3 → mG m 2 9 = 45 → FLS M m → NFT S P vw 200 → (∀ x : Nat, x < k → mG m 45 (x : Int) = -1) → pw (mX4_findLeastSizes_93 fu 2 (k : Int) m) Q := by
    intro fu
    induction fu with
    | zero => intro k m _ _ _ _ _; exact p_none
    | succ fu ih =>
      intro k m hk e9 f nf hz
      show pw (bX4_findLeastSizes_93 (mX4_findLeastSizes_93 fu) 2 (k : Int) m) Q
      unfold bX4_findLeastSizes_93
      refine p_if (fun c => p_ret ?_) (fun c => p_gFc (ji := 9) rfl e9 (p_aS (fun m2 h2 => ?_)))
      · rw [hQ]
        exact ⟨Or.inr ⟨nf, hz 0 (by omega), hz 1 (by omega), hz 2 (by omega)⟩, f⟩
      · rw [wI_s (p := k) (by omega)]
        refine ih (k + 1) m2 (by omega) ((st_ne h2 (fun w => absurd w.1 (by decide))).trans e9) (fun c j x y z => (st_ne h2 (fun u => y u.1)).trans (f c j x y z)) nf (fun x hx => ?_)
        by_cases e : x = k
        · rw [e]; exact st_eq h2
        · rw [st_ne h2 (fun w => e (by have := w.2; omega))]
          exact hz x (by omega)
  have l16 : ∀ (fu : Nat) (s : Int) (m1 : Mem), (3 ≤ s ∧ s ≤ 10) → INL n S M m1 → NFT S P vw (ky s 1 1) → pw (mX4_findLeastSizes_16 fu 2 (vw : Int) s m1) Q := by
    intro fu
    induction fu with
    | zero => intro s m1 _ _ _; exact p_none
    | succ fu ih =>
      intro s m1 hs il nf
      show pw (bX4_findLeastSizes_16 (mX4_findLeastSizes_16 fu) 2 (vw : Int) s m1) Q
      unfold bX4_findLeastSizes_16
      refine p_if (fun c9 => ?_) (fun c9 => ?_)
      · rw [show s = 10 by omega] at nf
        exact l93 FU 0 m1 (by omega) (K2.of il.1).c2_9 il.2.2 nf.fin (fun x hx => absurd hx (by omega))
      have l24 : ∀ (fu2 : Nat) (a : Int) (m2 : Mem), (1 ≤ a ∧ a ≤ 4) → INL n S M m2 → NFT S P vw (ky s a 1) → pw (mX4_findLeastSizes_24 (mX4_findLeastSizes_16 fu) fu2 2 (vw : Int) s a m2) Q := by
        intro fu2
        induction fu2 with
        | zero => intro a m2 _ _ _; exact p_none
        | succ fu2 ih2 =>
          intro a m2 ha il2 nf2
          show pw (bX4_findLeastSizes_24 (mX4_findLeastSizes_16 fu) (mX4_findLeastSizes_24 (mX4_findLeastSizes_16 fu) fu2) 2 (vw : Int) s a m2) Q
          unfold bX4_findLeastSizes_24
          refine p_if (fun c3 => ?_) (fun c3 => ?_)
          · rw [wI_id (x := s + 1) (by omega) (by omega)]
            rw [show a = 4 by omega] at nf2
            exact ih (s + 1) m2 (by omega) il2 nf2.sum
          have l32 : ∀ (fu3 : Nat) (b : Int) (m3 : Mem), (1 ≤ b ∧ b ≤ 4) → INL n S M m3 → NFT S P vw (ky s a b) → pw (mX4_findLeastSizes_32 (mX4_findLeastSizes_16 fu) (mX4_findLeastSizes_24 (mX4_findLeastSizes_16 fu) fu2) fu3 2 (vw : Int) s a b m3) Q := by
            intro fu3
            induction fu3 with
            | zero => intro b m3 _ _ _; exact p_none
            | succ fu3 ih3 =>
              intro b m3 hb il3 nf3
              show pw (bX4_findLeastSizes_32 (mX4_findLeastSizes_16 fu) (mX4_findLeastSizes_24 (mX4_findLeastSizes_16 fu) fu2) (mX4_findLeastSizes_32 (mX4_findLeastSizes_16 fu) (mX4_findLeastSizes_24 (mX4_findLeastSizes_16 fu) fu2) fu3) 2 (vw : Int) s a b m3) Q
              unfold bX4_findLeastSizes_32
              refine p_if (fun c4 => ?_) (fun c4 => ?_)
              · rw [wI_id (x := a + 1) (by omega) (by omega)]
                rw [show b = 4 by omega] at nf3
                exact ih2 (a + 1) m3 (by omega) il3 nf3.row
              obtain ⟨i3, t3, f3⟩ := il3
              rw [wI_id (x := s - a) (by omega) (by omega), wI_id (x := s - a - b) (by omega) (by omega)]
              refine p_gK (p_call (q_fits (a := a) (b := b) (c := s - a - b) ok i3 t3 (tp.ls f3) (fun x hx => by
                rw [f3 3 11 (by unfold WFT; omega) (by decide) (by decide)]
                exact hvw x hx) v8 (by omega) (by omega) (by omega)) (fun v m4 y => ?_))
              obtain ⟨⟨i4, t4, f4⟩, y⟩ := y
              replace i4 : I n m4 := i4
              replace t4 : TRI S m4 := t4
              replace f4 : FFT m3 m4 := f4
              have f4' : FLS M m4 := fun c j x y z => (f4 c j x).trans (f3 c j x y z)
              rcases y with ⟨y1, y2, y3, y4, y5⟩ | ⟨y1, y2⟩
              · replace y2 : v = 1 := y2
                have k4 := K2.of i4
                refine p_it0 (show ¬ v = 0 by omega) (p_gFc (ji := 8) rfl k4.c2_8 (p_gFc (ji := 0) rfl k4.c38_0 (p_gFc (ji := 9) rfl k4.c2_9 (p_aC (fun m5 h5 => p_ret ?_)))))
                rw [hQ]
                have e : ∀ j : Int, 0 ≤ j → j < 3 → mG m5 45 j = mG m4 39 j := fun j j0 j1 => by
                  rw [cp_g h5, if_pos ⟨rfl, j0, by omega⟩, show (0 : Int) + (j - 0) = j by omega]
                refine ⟨Or.inl ⟨s, a, b, ⟨by omega, by omega, by omega⟩, y1, nf3, (e 0 (by decide) (by decide)).trans y3, (e 1 (by decide) (by decide)).trans y4, (e 2 (by decide) (by decide)).trans y5⟩, fun c j x y z => (cp_ne h5 y).trans (f4' c j x y z)⟩
              · refine p_it1 y2 ?_
                rw [wI_id (x := b + 1) (by omega) (by omega)]
                exact ih3 (b + 1) m4 (by omega) ⟨i4, t4, f4'⟩ (nf3.step ⟨by omega, by omega, by omega⟩ y1)
          exact l32 FU 1 m2 (by omega) il2 nf2
      exact l24 FU 1 m1 (by omega) il nf
  have k2 := K2.of iM
  unfold mX4_findLeastSizes
  refine p_gFc (ji := 8) rfl k2.c2_8 (p_gFc (ji := 0) rfl k2.c2_0 (p_gFc (ji := 0) rfl k2.c3_0 (p_gK (p_call (p_and (pl_scopy (a := 38) (b := 4) (iM.sg is38) (iM.sg (Or.inl rfl)) (Or.inr (by decide))) (p_wp (s_X3_copy (l0 := 38) (l1 := 4) is38 (Or.inl rfl) iM))) (fun _ m1 y => ?_)))))
  obtain ⟨⟨y1, y2, y3, y4, y5⟩, y6, _⟩ := y
  replace y1 : LO 38 m1 := y1
  replace y3 : ∀ j : Int, 0 ≤ j → j < 4 → mG m1 40 j = mG M 6 j ∧ mG m1 41 j = mG M 7 j := y3
  replace y4 : mG m1 38 6 = mG M 4 6 := y4
  replace y5 : ∀ c j : Int, ¬ (38 ≤ c ∧ c ≤ 38 + 6) → mG m1 c j = mG M c j := y5
  replace y6 : I n m1 := y6
  refine l16 FU 3 m1 (by omega) ⟨y6, ⟨y1, y4.trans sh.1.2.2.2.2.2.2.1, fun r r0 r1 => ?_⟩, fun c j x y z => y5 c j (fun u => z ⟨u.1, by omega⟩)⟩ NFT.ini
  obtain ⟨a1, a2⟩ := y3 r r0 (by omega)
  obtain ⟨b1, b2, _⟩ := sh.2.2 r r0 r1
  exact ⟨a1.trans b1, a2.trans b2⟩
/-- what the class holds of least sizes is right -/
def CL (S : SH) (M : Mem) : Prop := mG M 2 10 = -1 ∨ ∃ vw : Nat, mG M 2 10 = (vw : Int) ∧ (∀ s : Nat, vw.testBit s = true → (s : Int) < mG M 3 11) ∧ ∀ P, TXP S P M → LST S P vw (mG M 45 0) (mG M 45 1) (mG M 45 2)
theorem q_leastSize {n : Nat} {M : Mem} {S : SH} {P : Nat → List Row} {k : Int} (ok : S.ok) (iM : I n M) (sh : SHC S 4 M) (tp : TXP S P M) (cl : CL S M) (hk : 0 ≤ k ∧ k ≤ 2) : pw (mX4_leastSize 2 k M) (fun q => (∃ y0 y1 y2 : Int, LST S P (vwb M) y0 y1 y2 ∧ q.1 = (if k = 0 then y0 else if k = 1 then y1 else y2)) ∧ CL S q.2 ∧ ∀ c j : Int, ¬ (c = 2 ∧ j = 10) → ¬ WFT c j → ¬ c = 45 → ¬ (38 ≤ c ∧ c ≤ 44) → mG q.2 c j = mG M c j) := by
  have k2 := K2.of iM
  have h11 := rd_Told_11 iM (a := 3) rfl
  obtain ⟨v8, hvw⟩ := vw_in (M := M) rfl h11
  obtain ⟨Q, hQ⟩ : ∃ Q : Int × Mem → Prop, Q = fun q => (∃ y0 y1 y2 : Int, LST S P (vwb M) y0 y1 y2 ∧ q.1 = (if k = 0 then y0 else if k = 1 then y1 else y2)) ∧ CL S q.2 ∧ ∀ c j : Int, ¬ (c = 2 ∧ j = 10) → ¬ WFT c j → ¬ c = 45 → ¬ (38 ≤ c ∧ c ≤ 44) → mG q.2 c j = mG M c j := ⟨_, rfl⟩
  rw [← hQ]
  have last : ∀ m : Mem, mG m 2 9 = 45 → LST S P (vwb M) (mG m 45 0) (mG m 45 1) (mG m 45 2) → CL S m → (∀ c j : Int, ¬ (c = 2 ∧ j = 10) → ¬ WFT c j → ¬ c = 45 → ¬ (38 ≤ c ∧ c ≤ 44) → mG m c j = mG M c j) → pw (mX4_leastSize_26 2 k m) Q := fun m e9 l c g => by
    unfold mX4_leastSize_26
    refine p_gFc (ji := 9) rfl e9 (p_aG (fun v hv => p_ret ?_))
    rw [hQ]
    refine ⟨⟨_, _, _, l, ?_⟩, c, g⟩
    show v = _
    rw [← hv]
    by_cases e0 : k = 0
    · rw [if_pos e0, e0]
    · rw [if_neg e0]
      by_cases e1 : k = 1
      · rw [if_pos e1, e1]
      · rw [if_neg e1, show k = 2 by omega]
  unfold mX4_leastSize
  refine p_gFc (ji := 0) rfl k2.c2_0 (p_gK (p_call (q_viewed k2 h11) (fun v m y => ?_)))
  obtain ⟨y1, y2⟩ := y
  replace y1 : m = M := y1
  replace y2 : v = ((vwb M : Nat) : Int) := y2
  subst y1; subst y2
  refine p_gF (ji := 10) rfl (fun a ha => p_if (fun c => ?_) (fun c => ?_))
  · have c : a = ((vwb m : Nat) : Int) := c
    have ha : mG m 2 10 = a := ha
    rcases id cl with z | ⟨vw, z1, z2, z3⟩
    · omega
    · have e : vw = vwb m := by omega
      rw [e] at z3
      exact last m k2.c2_9 (z3 P tp) cl (fun _ _ _ _ _ _ => rfl)
  · refine p_gK (p_call (P := fun q => I n q.2 ∧ FLS m q.2 ∧ ∀ P', TXP S P' m → LST S P' (vwb m) (mG q.2 45 0) (mG q.2 45 1) (mG q.2 45 2)) (fun q e => ⟨(p_wp (s_X4_findLeastSizes (l1 := ((vwb m : Nat) : Int)) (by omega) iM) q e).1, (q_findLeastSizes ok iM sh tp hvw v8 q e).2, fun P' tp' => (q_findLeastSizes ok iM sh tp' hvw v8 q e).1⟩) (fun _ m1 y => ?_))
    obtain ⟨i1, f1, l1⟩ := y
    replace i1 : I n m1 := i1
    replace f1 : FLS m m1 := f1
    replace l1 : ∀ P', TXP S P' m → LST S P' (vwb m) (mG m1 45 0) (mG m1 45 1) (mG m1 45 2) := l1
    refine p_pF (ji := 10) rfl (fun m2 h2 => ?_)
    have g2 : ∀ c j : Int, ¬ (c = 2 ∧ j = 10) → mG m2 c j = mG m1 c j := fun c j w => st_ne h2 w
    have s45 : ∀ j, mG m2 45 j = mG m1 45 j := fun j => g2 45 j (fun w => absurd w.1 (by decide))
    have gg : ∀ c j : Int, ¬ (c = 2 ∧ j = 10) → ¬ WFT c j → ¬ c = 45 → ¬ (38 ≤ c ∧ c ≤ 44) → mG m2 c j = mG m c j := fun c j x y z w => (g2 c j x).trans (f1 c j y z w)
    have e11 : mG m2 3 11 = mG m 3 11 := gg 3 11 (by decide) (by unfold WFT; omega) (by decide) (by decide)
    refine last m2 ((g2 2 9 (by decide)).trans (K2.of i1).c2_9) (by rw [s45, s45, s45]; exact l1 P tp) (Or.inr ⟨vwb m, st_eq h2, fun s hs => by rw [e11]; exact hvw s hs, fun P' tp' => ?_⟩) gg
    rw [s45, s45, s45]
    refine l1 P' (fun s hs => ?_)
    have e14 : mG m2 14 (s : Int) = mG m 14 (s : Int) := gg 14 _ (by omega) (by unfold WFT; omega) (by decide) (by decide)
    obtain ⟨t1, t2, t3⟩ := tp' s (by rw [e11]; exact hs)
    rw [e14] at t1 t2
    exact ⟨t1, t2.of (fun b j b0 b1 => (gg b j (by omega) (by unfold WFT; omega) (by omega) (by omega)).symm), t3⟩
