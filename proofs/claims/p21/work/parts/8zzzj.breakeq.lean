/-! ===== breaks: alike ===== -/
section
variable {M : Mem} {l k : Int}
theorem st_val (h : J4 M) : pw (mX6_storyText 3 l M) (fun q => q.2 = M ∧ ((¬ (0 ≤ l ∧ l < mG M 138 0) ∧ q.1 = 0) ∨ ((0 ≤ l ∧ l < mG M 138 0) ∧ q.1 = mG M 14 l))) := by
  have k2 := K2.of h.1.1.1.1.1
  obtain ⟨_, sb, _, _, _⟩ := h.1.1.1.2 0 (by decide) (by decide) (Or.inl rfl)
  have sb1 := sb.1
  rw [sOf_0] at sb1
  replace sb1 : mG M 3 11 = mG M 138 0 := sb1
  unfold mX6_storyText
  refine p_gK (p_call (hs_val (l := l)) (fun v m y => ?_))
  obtain ⟨y1, y2⟩ := y
  replace y1 : m = M := y1
  subst y1
  rcases y2 with ⟨a, b, c⟩ | ⟨a, c⟩
  · replace c : v = 1 := c
    exact p_it0 (show ¬ v = 0 by omega) (p_gFc (ji := 8) rfl k2.c3_8 (p_aGc rfl (p_ret ⟨rfl, Or.inr ⟨⟨a, by omega⟩, rfl⟩⟩)))
  · exact p_it1 c (p_ret ⟨rfl, Or.inl ⟨by omega, rfl⟩⟩)
theorem eq_breaks (r1 : (-2147483648) ≤ l ∧ l ≤ 2147483647) (r2 : (-2147483648) ≤ k ∧ k ≤ 2147483647) (h : J4 M) : pw (mX8_breaks 1 l k M) (fun q1 => pw (mX9_breaks 126 l k q1.2) (fun q2 => EQ q1 q2)) := by
  obtain ⟨P, n, ok, hn, k2, sh, tp, rf, ve, vlt, h1, hl⟩ := look h.1.1
  obtain ⟨en, n36, w0⟩ := h.n hn sh
  have iM := h.1.1.1.1.1
  have hn169 : (169 : Int) ≤ ((mN M : Nat) : Int) := by have := iM.2.2.2.2.1; omega
  have s138 := rd_Mstories iM (a := 138) (i := 0) rfl
  obtain ⟨_, sb, _, _, _⟩ := h.1.1.1.2 0 (by decide) (by decide) (Or.inl rfl)
  have sb1 := sb.1
  rw [sOf_0] at sb1
  replace sb1 : mG M 3 11 = mG M 138 0 := sb1
  by_cases d : 0 ≤ l ∧ l < mG M 138 0
  · obtain ⟨s, hs⟩ := Int.eq_ofNat_of_zero_le d.1
    subst hs
    obtain ⟨t169, tt, hty⟩ := tp s (by rw [sb1]; exact d.2)
    obtain ⟨rt, rl, _⟩ := rf.2.2.2.2 s d.2
    have c8 : pw (mX8_breaks 1 (s : Int) k M) (fun q => BKk (shp M) (fun p => decide (mG M 137 p = 1)) (P s) k q.1) := by
      unfold mX8_breaks
      refine p_gFc (ji := 1) rfl h1.2 (p_gK (p_call (st_val (l := (s : Int)) h) (fun v m y => ?_)))
      obtain ⟨y1, y2⟩ := y
      replace y1 : m = M := y1
      subst y1
      have y3 : v = mG m 14 (s : Int) := by
        rcases y2 with ⟨a, _⟩ | ⟨_, a⟩
        · exact absurd d a
        · exact a
      subst y3
      exact p_it0 (show ¬ mG m 14 (s : Int) = 0 by omega) (p_gFc (ji := 0) rfl h1.1 (p_gFc (ji := 1) rfl k2.c2_1 (p_gFc (ji := 1) rfl h1.2 (p_gFc (ji := 0) rfl k2.c3_0 (p_gFc (ji := 1) rfl h1.2 (p_gFc (ji := 1) rfl w0.1.1 (p_gK (p_call (q_breakNumber ok hn n36 t169 k2 sh tt hty) (fun v m y => p_ret y)))))))))
    refine p_mono (p_and c8 (p_wp (s_X8_breaks r1 r2 iM))) (fun q1 y => ?_)
    obtain ⟨y1, i1, kp, _⟩ := y
    have g9 : F9 M q1.2 := kp.f9 (by omega) (fun b j z => by unfold W_X8_breaks at z; omega)
    obtain ⟨rf1, _⟩ := rf.f9 (M' := q1.2) g9
    have c9 : pw (mX9_breaks 126 (s : Int) k q1.2) (fun q => BKk (shp M) (fun p => decide (mG M 137 p = 1)) (P s) k q.1) := by
      unfold mX9_breaks
      refine p_pF (ji := 0) rfl (fun m1 h1 => ?_)
      have g1 : ∀ c j : Int, ¬ c = 126 → mG m1 c j = mG q1.2 c j := fun c j x => st_ne h1 (fun w => x w.1)
      have k1 : K9 m1 := rf1.1.kp (fun j hj => st_ne h1 (fun w => by omega))
      have e138 : mG m1 138 0 = mG M 138 0 := (g1 138 0 (by decide)).trans (g9 138 0 (by decide) (by decide))
      have e137 : mG m1 137 = mG M 137 := funext (fun f => (g1 137 f (by decide)).trans (g9 137 f (by decide) (by decide)))
      refine p_gFc (ji := 12) rfl k1.c12 (p_aGc e138 ?_)
      rw [wI_id (x := mG M 138 0 - 1) (by omega) (by omega)]
      refine p_call pr_in (fun b m2 y => ?_)
      obtain ⟨z1, z2⟩ := y
      replace z1 : m2 = m1 := z1
      subst z1
      rcases z2 with ⟨b1, b2, b3⟩ | ⟨b1, b2⟩
      · replace b1 : b = 1 := b1
        refine p_it0 (show ¬ b = 0 by omega) (p_gK (p_call (v_bringWorld ok k1 (rf1.2.1.kp (fun c j hc => g1 c j (by omega))) (fun f => by rw [e137]; exact rd_Mworld iM (a := 137) (i := f) rfl)) (fun _ m3 y => ?_)))
        obtain ⟨⟨k3, rs⟩, lw, g⟩ := y
        replace k3 : K9 m3 := k3
        replace rs : RSH (shp M) m3 := rs
        replace lw : LW (shp M) (fun p => decide (mG m2 137 p = 1)) m3 := lw
        replace g : ∀ c j : Int, ¬ c = 152 → ¬ c = 153 → ¬ c = 154 → mG m3 c j = mG m2 c j := g
        rw [e137] at lw
        have rt3 : RT (P s) (s : Int) m3 := ⟨(g 141 _ (by decide) (by decide) (by decide)).trans ((g1 141 _ (by decide)).trans ((g9 141 _ (by decide) (by decide)).trans rt.1)), fun i r hr => (rt.2 i r hr).kp (fun c c0 c1 => (g c _ (by omega) (by omega) (by omega)).trans ((g1 c _ (by omega)).trans (g9 c _ (by omega) (by omega))))⟩
        exact v_break32 ok (by omega) rl hty (RM.mk ok k3 rs lw rt3) FU 0 (Nat.zero_le _)
      · exact absurd ⟨by omega, by omega⟩ b2
    exact p_mono c9 (fun q2 z => y1.uniq z)
  · have c8 : pw (mX8_breaks 1 l k M) (fun q => q.1 = -1 ∧ q.2 = M) := by
      unfold mX8_breaks
      refine p_gFc (ji := 1) rfl h1.2 (p_gK (p_call (st_val (l := l) h) (fun v m y => ?_)))
      obtain ⟨y1, y2⟩ := y
      replace y1 : m = M := y1
      subst y1
      rcases y2 with ⟨_, a⟩ | ⟨a, _⟩
      · exact p_it1 a (p_ret ⟨rfl, rfl⟩)
      · exact absurd a d
    refine p_mono c8 (fun q1 y => ?_)
    rw [y.2]
    have c9 : pw (mX9_breaks 126 l k M) (fun q => q.1 = -1) := by
      unfold mX9_breaks
      refine p_pF (ji := 0) rfl (fun m1 h1 => ?_)
      have k1 : K9 m1 := rf.1.kp (fun j hj => st_ne h1 (fun w => by omega))
      refine p_gFc (ji := 12) rfl k1.c12 (p_aGc (r := mG M 138 0) (st_ne h1 (fun w => absurd w.1 (by decide))) ?_)
      rw [wI_id (x := mG M 138 0 - 1) (by omega) (by omega)]
      refine p_call pr_in (fun b m2 y => ?_)
      obtain ⟨z1, z2⟩ := y
      rcases z2 with ⟨b1, b2, b3⟩ | ⟨b1, b2⟩
      · exact absurd ⟨by omega, by omega⟩ d
      · exact p_it1 b1 (p_ret rfl)
    exact p_mono c9 (fun q2 z => y.1.trans z.symm)
theorem j4_breaksE (r1 : (-2147483648) ≤ l ∧ l ≤ 2147483647) (r2 : (-2147483648) ≤ k ∧ k ≤ 2147483647) (h : J4 M) : wp (mX8_breaks 1 l k M) (fun q1 => wp (mX9_breaks 126 l k q1.2) (fun q2 => J4 q2.2 ∧ EQ q1 q2)) := w_and3 (M := M) (j4_breaks r1 r2 h) (eq_breaks r1 r2 h)
end
