/-! ===== the reference's least sizes ===== -/
theorem d_m1 : decide ((-1 : Int) = -1) = true := by decide
theorem kb_m1 (n : Nat) : kbs (fun _ => -1) n = 0 ∧ kss (fun _ => -1) n = 0 := by
  constructor
  · refine Nat.eq_of_testBit_eq (fun i => ?_)
    unfold kbs
    rw [bitsOf_b, Nat.zero_testBit]
    show (decide (i < n) && !decide ((-1 : Int) = -1)) = false
    rw [d_m1]
    exact Bool.and_false _
  · refine Nat.eq_of_testBit_eq (fun i => ?_)
    unfold kss
    rw [bitsOf_b, Nat.zero_testBit]
    show (decide (i < n) && decide ((-1 : Int) = 1)) = false
    rw [decide_eq_false (show ¬ (-1 : Int) = 1 by decide)]
    exact Bool.and_false _
theorem okp_m1 (n : Int) (w k : Nat) : allb (okp n (fun _ => -1) w) k = true := (allb_t k).mpr (fun i _ => by
  show (decide ((-1 : Int) = -1) || _) = true
  rw [d_m1]; rfl)
theorem stw_K {S : SH} {P : Nat → List Row} {vw K w : Nat} (hv : vw < 2 ^ K) (hK : K ≤ 8) : allb (stw S P vw w) 8 = true ↔ allb (stw S P vw w) K = true := by
  rw [allb_t, allb_t]
  constructor
  · exact fun h i hi => h i (by omega)
  · intro h i hi
    by_cases c : i < K
    · exact h i c
    · unfold stw
      rw [Nat.testBit_lt_two_pow (Nat.lt_of_lt_of_le hv (Nat.pow_le_pow_right (n := 2) (by decide) (show K ≤ i by omega)))]
      rfl
def LRI (S : SH) (P : Nat → List Row) (K vw : Nat) (m : Mem) : Prop := K9 m ∧ (mG m 134 0 = S.nr ∧ ∀ r : Int, 0 ≤ r → r < S.nr → mG m 135 r = S.k1 r ∧ mG m 136 r = S.k2 r) ∧ (mG m 138 0 = (K : Int) ∧ mG m 126 48 = (vw : Int) ∧ mG m 126 49 = 0 ∧ mG m 126 50 = 0) ∧ RTP S P (K : Int) m
def FLR (M m : Mem) : Prop := ∀ c j : Int, ¬ (c = 126 ∧ (j = 46 ∨ (52 ≤ j ∧ j ≤ 54))) → ¬ c = 152 → ¬ c = 153 → ¬ c = 154 → ¬ c = 160 → ¬ c = 161 → mG m c j = mG M c j
section
variable {S : SH} {P : Nat → List Row} {K vw : Nat} {Q : Int × Mem → Prop}
theorem LRI.go {M m : Mem} (h : LRI S P K vw M) (g : FLR M m) : LRI S P K vw m := by
  obtain ⟨k9, ⟨e1, e2⟩, ⟨e3, e4, e5, e6⟩, rt⟩ := h
  have g6 : ∀ c j : Int, 127 ≤ c → c ≤ 151 → mG m c j = mG M c j := fun c j c0 c1 => g c j (by omega) (by omega) (by omega) (by omega) (by omega) (by omega)
  have g5 : ∀ j : Int, ¬ j = 46 → ¬ (52 ≤ j ∧ j ≤ 54) → mG m 126 j = mG M 126 j := fun j a b => g 126 j (by omega) (by decide) (by decide) (by decide) (by decide) (by decide)
  exact ⟨k9.kp (fun j hj => g5 j (by omega) (by omega)), ⟨(g6 134 0 (by decide) (by decide)).trans e1, fun r r0 r1 => ⟨(g6 135 r (by decide) (by decide)).trans (e2 r r0 r1).1, (g6 136 r (by decide) (by decide)).trans (e2 r r0 r1).2⟩⟩, ⟨(g6 138 0 (by decide) (by decide)).trans e3, (g5 48 (by decide) (by decide)).trans e4, (g5 49 (by decide) (by decide)).trans e5, (g5 50 (by decide) (by decide)).trans e6⟩, fun s hs => ⟨⟨(g6 141 _ (by decide) (by decide)).trans (rt s hs).1.1, fun i r hr => ((rt s hs).1.2 i r hr).kp (fun c c0 c1 => g6 c _ (by omega) (by omega))⟩, (rt s hs).2⟩⟩
/-- the answer is found -/
def FLQ (S : SH) (P : Nat → List Row) (vw : Nat) (q : Int × Mem) : Prop := K9 q.2 ∧ ((q.1 = 1 ∧ LST S P vw (mG q.2 126 52) (mG q.2 126 53) (mG q.2 126 54)) ∨ (q.1 = 0 ∧ LST S P vw (-1) (-1) (-1)))
theorem v_fl89 {k20 : Int → Int → Mem → Option (Int × Mem)} {k28 : Int → Int → Int → Mem → Option (Int × Mem)} {k35 : Int → Int → Int → Int → Mem → Option (Int × Mem)} {s a b : Int} (ok : S.ok) (hK : K ≤ 8) (hv : vw < 2 ^ K) (r3 : rg3 s a b) (hc : 1 ≤ s - a - b ∧ s - a - b ≤ 3) (nf : NFT S P vw (ky s a b)) (k : ∀ m, LRI S P K vw m → NFT S P vw (ky s a (b + 1)) → pw (k35 126 s a (b + 1) m) (FLQ S P vw)) : ∀ (fu w : Nat) (m : Mem), ((S.rs a b (s - a - b)).nf ≤ 12 → w ≤ 2 ^ (S.rs a b (s - a - b)).nf.toNat) → LRI S P K vw m → RSH (S.rs a b (s - a - b)) m → (∀ u, u < w → ¬ allb (stw (S.rs a b (s - a - b)) P vw u) 8 = true) → pw (mX9_findLeast_89 k20 k28 k35 fu 126 s a b (w : Int) m) (FLQ S P vw) := by
  have oks : (S.rs a b (s - a - b)).ok := rs_ok ok r3.2.1 r3.2.2 hc
  have nn := oks.nf
  intro fu
  induction fu with
  | zero => intro w m _ _ _ _; exact p_none
  | succ fu ih =>
    intro w m hw li rs hz
    show pw (bX9_findLeast_89 k20 k28 k35 (mX9_findLeast_89 k20 k28 k35 fu) 126 s a b (w : Int) m) _
    have r3' := r3
    unfold rg3 at r3'
    have no : ¬ FITS S P vw a b (s - a - b) → ∀ m', m' = m → pw (mX9_findLeast_145 k20 k28 k35 126 s a b m') (FLQ S P vw) := fun h m' e => by
      unfold mX9_findLeast_145
      rw [wI_id (x := b + 1) (by omega) (by omega), e]
      exact k m li (nf.step r3 h)
    unfold bX9_findLeast_89
    refine p_gK (p_call (v_manyFacts oks li.1 rs) (fun v m1 y => ?_))
    obtain ⟨y1, y2⟩ := y
    replace y1 : m1 = m := y1
    replace y2 : v = (S.rs a b (s - a - b)).nf := y2
    subst y1; subst y2
    refine p_if (fun c12 => no (fun w => by have := w.2.1; have c12 : 12 < (S.rs a b (s - a - b)).nf := c12; omega) m1 rfl) (fun c12 => ?_)
    replace c12 : ¬ 12 < (S.rs a b (s - a - b)).nf := c12
    refine p_gK (p_call (v_manyFacts oks li.1 rs) (fun v m2 y => ?_))
    obtain ⟨y1, y2⟩ := y
    replace y1 : m2 = m1 := y1
    replace y2 : v = (S.rs a b (s - a - b)).nf := y2
    subst y1
    obtain ⟨n, hn⟩ := Int.eq_ofNat_of_zero_le nn.1
    rw [hn] at y2
    subst y2
    have n12 : n ≤ 12 := by omega
    have en : (S.rs a b (s - a - b)).nf.toNat = n := by omega
    rw [en] at hw
    have p12 : 2 ^ n ≤ 2 ^ 12 := Nat.pow_le_pow_right (n := 2) (by decide) n12
    have hw' := hw (by omega)
    rw [ishl1 n (by omega), show (2 : Int) ^ n = ((2 ^ n : Nat) : Int) by simp]
    refine p_if (fun c => no (fun f => ?_) m2 rfl) (fun c => ?_)
    · obtain ⟨_, _, u, u1, u2⟩ := f
      rw [en] at u1
      exact hz u (by omega) u2
    have w1 : w < 2 ^ n := by omega
    obtain ⟨k0, k1⟩ := kb_m1 n
    have rw' : RWd (S.rs a b (s - a - b)) P (K : Int) vw (fun _ => -1) n m2 := ⟨⟨li.1, rs⟩, ⟨li.2.2.1.1, li.2.2.1.2.1, by rw [k0]; exact li.2.2.1.2.2.1, by rw [k1]; exact li.2.2.1.2.2.2⟩, li.2.2.2⟩
    have v8 : vw < 256 := Nat.lt_of_lt_of_le hv (Nat.pow_le_pow_right (n := 2) (by decide) hK)
    refine p_gK (p_call (v_isWorld (w := w) oks hn n12 w1 (fun _ => Or.inl rfl) hK v8 rw') (fun v m3 y => ?_))
    obtain ⟨y3, y4, _⟩ := y
    replace y3 : FI m2 m3 := y3
    replace y4 : v = b2i (WDr (S.rs a b (s - a - b)) P K vw (fun _ => -1) n w) := y4
    have fl : FLR m2 m3 := fun c j x _ _ z u w => y3 c j (fun e => x ⟨e.1, Or.inl e.2⟩) z u w
    have li3 := li.go fl
    unfold WDr at y4
    rw [okp_m1, Bool.true_and] at y4
    refine p_if (fun c2 => ?_) (fun c2 => ?_)
    · replace c2 : v = 0 := c2
      have wf := b2i_0.mp (y4.symm.trans c2)
      rw [wI_s (p := w) (by omega)]
      refine ih (w + 1) m3 (fun _ => by rw [en]; omega) li3 (rs.fi y3) (fun u hu hu2 => ?_)
      by_cases e : u = w
      · rw [e] at hu2
        rw [(stw_K hv hK).mp hu2] at wf
        cases wf
      · exact hz u (by omega) hu2
    · have wt : allb (stw (S.rs a b (s - a - b)) P vw w) K = true := by
        cases e : allb (stw (S.rs a b (s - a - b)) P vw w) K with
        | true => rfl
        | false => rw [e] at y4; exact absurd y4 c2
      have k3 := li3.1
      refine p_pF (ji := 52) rfl (fun m4 h4 => p_pF (ji := 53) rfl (fun m5 h5 => p_pF (ji := 54) rfl (fun m6 h6 => p_ret ⟨?_, Or.inl ⟨rfl, ?_⟩⟩)))
      · exact k3.kp (fun j hj => (st_ne h6 (fun w => by omega)).trans ((st_ne h5 (fun w => by omega)).trans (st_ne h4 (fun w => by omega))))
      · rw [wI_id (x := s - a) (by omega) (by omega), wI_id (x := s - a - b) (by omega) (by omega)] at h6
        refine Or.inl ⟨s, a, b, r3, ⟨hc, by omega, w, by rw [en]; exact w1, (stw_K hv hK).mpr wt⟩, nf, ?_, ?_, ?_⟩
        · exact (st_ne h6 (fun w => absurd w.2 (by decide))).trans ((st_ne h5 (fun w => absurd w.2 (by decide))).trans (st_eq h4))
        · exact (st_ne h6 (fun w => absurd w.2 (by decide))).trans (st_eq h5)
        · exact st_eq h6
theorem v_fl35 {k20 : Int → Int → Mem → Option (Int × Mem)} {k28 : Int → Int → Int → Mem → Option (Int × Mem)} {s a : Int} (ok : S.ok) (hK : K ≤ 8) (hv : vw < 2 ^ K) (hs : 3 ≤ s ∧ s ≤ 9) (ha : 1 ≤ a ∧ a ≤ 3) (k : ∀ m, LRI S P K vw m → NFT S P vw (ky s (a + 1) 1) → pw (k28 126 s (a + 1) m) (FLQ S P vw)) : ∀ (fu : Nat) (b : Int) (m : Mem), (1 ≤ b ∧ b ≤ 4) → LRI S P K vw m → NFT S P vw (ky s a b) → pw (mX9_findLeast_35 k20 k28 fu 126 s a b m) (FLQ S P vw) := by
  intro fu
  induction fu with
  | zero => intro b m _ _ _; exact p_none
  | succ fu ih =>
    intro b m hb li nf
    show pw (bX9_findLeast_35 k20 k28 (mX9_findLeast_35 k20 k28 fu) 126 s a b m) _
    unfold bX9_findLeast_35
    refine p_if (fun c => ?_) (fun c => ?_)
    · rw [wI_id (x := a + 1) (by omega) (by omega)]
      rw [show b = 4 by omega] at nf
      exact k m li nf.row
    have r3 : rg3 s a b := ⟨hs, ha, by omega, by omega⟩
    have kx : ∀ m', (∀ j, mG m' 126 j = mG m 126 j) → mG m' 126 26 = 152 := fun m' g => (g 26).trans li.1.c26
    rw [wI_id (x := s - a) (by omega) (by omega), wI_id (x := s - a - b) (by omega) (by omega)]
    refine p_gFc (ji := 26) rfl li.1.c26 (p_aS (fun m4 h4 => ?_))
    have g4 : ∀ c j : Int, ¬ c = 152 → mG m4 c j = mG m c j := fun c j x => st_ne h4 (fun w => x w.1)
    refine p_gFc (ji := 26) rfl (kx m4 (fun j => g4 126 j (by decide))) (p_aS (fun m5 h5 => ?_))
    have g5 : ∀ c j : Int, ¬ c = 152 → mG m5 c j = mG m c j := fun c j x => (st_ne h5 (fun w => x w.1)).trans (g4 c j x)
    refine p_gFc (ji := 26) rfl (kx m5 (fun j => g5 126 j (by decide))) (p_aS (fun m6 h6 => ?_))
    have g6 : ∀ c j : Int, ¬ c = 152 → mG m6 c j = mG m c j := fun c j x => (st_ne h6 (fun w => x w.1)).trans (g5 c j x)
    have e0 : mG m6 152 0 = a := (st_ne h6 (fun w => absurd w.2 (by decide))).trans ((st_ne h5 (fun w => absurd w.2 (by decide))).trans (st_eq h4))
    have e1 : mG m6 152 1 = b := (st_ne h6 (fun w => absurd w.2 (by decide))).trans (st_eq h5)
    have e2 : mG m6 152 2 = s - a - b := st_eq h6
    have li6 : LRI S P K vw m6 := li.go (fun c j _ y _ _ _ _ => g6 c j y)
    refine p_gFc (ji := 26) rfl li6.1.c26 (p_aGc e2 (p_call w_in (fun v m7 y => ?_)))
    obtain ⟨e, y⟩ := y
    replace e : m7 = m6 := e
    subst e
    rcases y with ⟨hc, e⟩ | ⟨hc, e⟩
    · replace e : v = 1 := e
      have oks : (S.rs a b (s - a - b)).ok := rs_ok ok ha ⟨by omega, by omega⟩ hc
      have sz : ∀ k : Int, 0 ≤ k → k < 3 → mG m7 152 k = (S.rs a b (s - a - b)).sz k := fun k k0 k1 => by
        show mG m7 152 k = (if k = 0 then a else if k = 1 then b else s - a - b)
        by_cases z0 : k = 0
        · rw [if_pos z0, z0, e0]
        · rw [if_neg z0]
          by_cases z1 : k = 1
          · rw [if_pos z1, z1, e1]
          · rw [if_neg z1, show k = 2 by omega, e2]
      refine p_it0 (show ¬ v = 0 by omega) (p_gK (p_call (v_findStarts (S := S.rs a b (s - a - b)) oks li6.1 sz li6.2.1) (fun _ m8 y => ?_)))
      obtain ⟨rs, g8⟩ := y
      replace g8 : ∀ c j : Int, ¬ c = 153 → mG m8 c j = mG m7 c j := g8
      exact v_fl89 ok hK hv r3 hc nf (fun m' l' n' => ih (b + 1) m' (by omega) l' n') FU 0 m8 (fun _ => Nat.zero_le _) (li6.go (fun c j _ _ y _ _ _ => g8 c j y)) rs (fun u hu => absurd hu (by omega))
    · refine p_it1 e ?_
      unfold mX9_findLeast_145
      rw [wI_id (x := b + 1) (by omega) (by omega)]
      exact ih (b + 1) m7 (by omega) li6 (nf.step r3 (fun f => hc f.1))
theorem v_fl20 (ok : S.ok) (hK : K ≤ 8) (hv : vw < 2 ^ K) : ∀ (fu : Nat) (s : Int) (m : Mem), (3 ≤ s ∧ s ≤ 10) → LRI S P K vw m → NFT S P vw (ky s 1 1) → pw (mX9_findLeast_20 fu 126 s m) (FLQ S P vw) := by
  intro fu
  induction fu with
  | zero => intro s m _ _ _; exact p_none
  | succ fu ih =>
    intro s m hs li nf
    show pw (bX9_findLeast_20 (mX9_findLeast_20 fu) 126 s m) _
    unfold bX9_findLeast_20
    refine p_if (fun c => p_ret ⟨li.1, Or.inr ⟨rfl, Or.inr ⟨?_, rfl, rfl, rfl⟩⟩⟩) (fun c => ?_)
    · rw [show s = 10 by omega] at nf
      exact nf.fin
    have l28 : ∀ (fu2 : Nat) (a : Int) (m2 : Mem), (1 ≤ a ∧ a ≤ 4) → LRI S P K vw m2 → NFT S P vw (ky s a 1) → pw (mX9_findLeast_28 (mX9_findLeast_20 fu) fu2 126 s a m2) (FLQ S P vw) := by
      intro fu2
      induction fu2 with
      | zero => intro a m2 _ _ _; exact p_none
      | succ fu2 ih2 =>
        intro a m2 ha l2 n2
        show pw (bX9_findLeast_28 (mX9_findLeast_20 fu) (mX9_findLeast_28 (mX9_findLeast_20 fu) fu2) 126 s a m2) _
        unfold bX9_findLeast_28
        refine p_if (fun c3 => ?_) (fun c3 => ?_)
        · rw [wI_id (x := s + 1) (by omega) (by omega)]
          rw [show a = 4 by omega] at n2
          exact ih (s + 1) m2 (by omega) l2 n2.sum
        · exact v_fl35 ok hK hv (by omega) (by omega) (fun m' l' n' => ih2 (a + 1) m' (by omega) l' n') FU 1 m2 (by omega) l2 n2
    exact l28 FU 1 m (by omega) li nf
end
theorem v_least {S : SH} {P : Nat → List Row} {M : Mem} {k : Int} (ok : S.ok) (rf : RFB S P M) : pw (mX9_least 126 k M) (fun q => (¬ (0 ≤ k ∧ k ≤ 2) ∧ q.1 = -1) ∨ ((0 ≤ k ∧ k ≤ 2) ∧ ∃ y0 y1 y2 : Int, LST S P (tvb M) y0 y1 y2 ∧ q.1 = (if k = 0 then y0 else if k = 1 then y1 else y2))) := by
  obtain ⟨K, hK⟩ := Int.eq_ofNat_of_zero_le rf.2.2.2.1.1
  have h8 := rf.2.2.2.1
  have vl := tvb_lt hK
  unfold mX9_least
  refine p_pF (ji := 0) rfl (fun m1 h1 => ?_)
  have g1 : ∀ c j : Int, ¬ (c = 126 ∧ j = 0) → mG m1 c j = mG M c j := fun c j x => st_ne h1 x
  have k1 : K9 m1 := rf.1.kp (fun j hj => g1 126 j (by omega))
  refine p_call w_in (fun v m2 y => ?_)
  obtain ⟨e, y⟩ := y
  replace e : m2 = m1 := e
  subst e
  rcases y with ⟨c1, e⟩ | ⟨c1, e⟩
  · replace e : v = 1 := e
    refine p_it0 (show ¬ v = 0 by omega) (p_gK (p_call (P := FLQ S P (tvb M)) ?_ (fun v m3 y => ?_)))
    · unfold mX9_findLeast
      have t1 : tvb m2 = tvb M := by
        unfold tvb
        rw [g1 131 0 (by decide), g1 132 0 (by decide), g1 138 0 (by decide), show mG m2 139 = mG M 139 from funext (fun j => g1 139 j (fun w => absurd w.1 (by decide))), show mG m2 140 = mG M 140 from funext (fun j => g1 140 j (fun w => absurd w.1 (by decide)))]
      refine p_gK (p_call (v_told k1 (by rw [g1 138 0 (by decide)]; exact h8)) (fun v m4 y => ?_))
      obtain ⟨y1, y2⟩ := y
      replace y1 : m4 = m2 := y1
      replace y2 : v = ((tvb m2 : Nat) : Int) := y2
      subst y1
      rw [t1] at y2
      subst y2
      refine p_pF (ji := 48) rfl (fun m5 h5 => p_pF (ji := 49) rfl (fun m6 h6 => p_pF (ji := 50) rfl (fun m7 h7 => ?_)))
      have g7 : ∀ c j : Int, ¬ (c = 126 ∧ (j = 0 ∨ j = 48 ∨ j = 49 ∨ j = 50)) → mG m7 c j = mG M c j := fun c j x => (st_ne h7 (fun w => x (by omega))).trans ((st_ne h6 (fun w => x (by omega))).trans ((st_ne h5 (fun w => x (by omega))).trans (g1 c j (fun w => x (by omega)))))
      have g8 : ∀ c j : Int, ¬ c = 126 → mG m7 c j = mG M c j := fun c j x => g7 c j (fun w => x w.1)
      have li : LRI S P K (tvb M) m7 := by
        refine ⟨rf.1.kp (fun j hj => g7 126 j (by omega)), ⟨(g8 134 0 (by decide)).trans rf.2.1.2.1, fun r r0 r1 => ⟨(g8 135 r (by decide)).trans (rf.2.1.2.2 r r0 r1).1, (g8 136 r (by decide)).trans (rf.2.1.2.2 r r0 r1).2⟩⟩, ⟨(g8 138 0 (by decide)).trans hK, ?_, ?_, st_eq h7⟩, fun s hs => ?_⟩
        · exact (st_ne h7 (fun w => absurd w.2 (by decide))).trans ((st_ne h6 (fun w => absurd w.2 (by decide))).trans (st_eq h5))
        · exact (st_ne h7 (fun w => absurd w.2 (by decide))).trans (st_eq h6)
        · have rt := rf.2.2.2.2 s (by rw [hK]; exact hs)
          exact ⟨⟨(g8 141 _ (by decide)).trans rt.1.1, fun i r hr => (rt.1.2 i r hr).kp (fun c c0 c1 => g8 c _ (by omega))⟩, rt.2⟩
      exact v_fl20 ok (by omega) vl FU 3 m7 (by omega) li NFT.ini
    · obtain ⟨k9, y⟩ := y
      replace k9 : K9 m3 := k9
      rcases y with ⟨e, l⟩ | ⟨e, l⟩
      · replace e : v = 1 := e
        replace l : LST S P (tvb M) (mG m3 126 52) (mG m3 126 53) (mG m3 126 54) := l
        refine p_it0 (show ¬ v = 0 by omega) (p_if (fun z0 => p_gFc (ji := 52) rfl rfl (p_ret (Or.inr ⟨c1, _, _, _, l, ?_⟩))) (fun z0 => p_if (fun z1 => p_gFc (ji := 53) rfl rfl (p_ret (Or.inr ⟨c1, _, _, _, l, ?_⟩))) (fun z1 => p_gFc (ji := 54) rfl rfl (p_ret (Or.inr ⟨c1, _, _, _, l, ?_⟩)))))
        · rw [if_pos z0]
        · rw [if_neg z0, if_pos z1]
        · rw [if_neg z0, if_neg z1]
      · refine p_it1 e (p_ret (Or.inr ⟨c1, _, _, _, l, ?_⟩))
        show (-1 : Int) = _
        by_cases z0 : k = 0
        · rw [if_pos z0]
        · rw [if_neg z0]
          by_cases z1 : k = 1
          · rw [if_pos z1]
          · rw [if_neg z1]
  · replace e : v = 0 := e
    exact p_it1 e (p_ret (Or.inl ⟨c1, rfl⟩))
