/-! ===== what OtherNumbers holds is right ===== -/
def CB (S : SH) (M : Mem) : Prop := (¬ mG M 24 6 = 0 → ∃ (n W : Nat) (A : Nat → Nat), S.nf = (n : Int) ∧ n ≤ 12 ∧ LAID S n W A M) ∧ (¬ mG M 24 7 = 0 → ¬ mG M 24 6 = 0 ∧ ∃ n : Nat, S.nf = (n : Int) ∧ WP 27 n (fun u => isF S n u = true) M)
/-- what changes while the least ones are found -/
def FOT (M M' : Mem) : Prop := ∀ c j : Int, ¬ (c = 24 ∧ 4 ≤ j ∧ j ≤ 7) → ¬ c = 25 → ¬ c = 26 → ¬ c = 28 → ¬ c = 30 → ¬ (c = 27 ∧ (j = 1 ∨ j = 2)) → ¬ (c = 29 ∧ (j = 1 ∨ j = 2)) → mG M' c j = mG M c j
theorem FOT.tr {M M' M'' : Mem} (h : FOT M M') (k : FOT M' M'') : FOT M M'' := fun c j a b d e f g i => (k c j a b d e f g i).trans (h c j a b d e f g i)
section
variable {S : SH} {M : Mem} {n : Nat}
theorem CB.kp {M' : Mem} (h : CB S M) (g : ∀ c j : Int, (24 ≤ c ∧ c ≤ 28) → mG M' c j = mG M c j) : CB S M' := by
  refine ⟨fun x => ?_, fun x => ?_⟩
  · rw [g 24 6 (by decide)] at x
    obtain ⟨n, W, A, h1, h2, h3⟩ := h.1 x
    exact ⟨n, W, A, h1, h2, h3.kp (fun c j hc => g c j (by omega))⟩
  · rw [g 24 7 (by decide)] at x
    obtain ⟨h1, n, h2, h3⟩ := h.2 x
    exact ⟨by rw [g 24 6 (by decide)]; exact h1, n, h2, h3.kp (fun c j hc => g c j (by omega))⟩
theorem CB.z {S : SH} {M : Mem} (h6 : mG M 24 6 = 0) (h7 : mG M 24 7 = 0) : CB S M := ⟨fun x => absurd h6 x, fun x => absurd h7 x⟩
theorem q_layOut (ok : S.ok) (hn : S.nf = (n : Int)) (n12 : n ≤ 12) (k2 : K2 M) (sh : SHC S 4 M) (cb : CB S M) : pw (mX1_layOut 24 4 M) (fun q => (∃ W A, LAID S n W A q.2) ∧ ¬ mG q.2 24 6 = 0 ∧ FLO M q.2 ∧ CB S q.2) := by
  unfold mX1_layOut
  refine p_gF (ji := 6) rfl (fun v hv => p_if (fun c => ?_) (fun c => p_ret ?_))
  · have e6 : mG M 24 6 = 0 := hv.trans c
    have e7 : mG M 24 7 = 0 := by
      apply Classical.byContradiction
      intro x
      exact (cb.2 x).1 e6
    have s8 := sh.1.2.2.2.2.2.2.2
    rw [hn] at s8
    refine p_gFc (ji := 7) rfl s8 (p_it1 (by omega) (p_pZ (ji := 6) rfl (fun m1 h1 => ?_)))
    have g1 : ∀ c j : Int, ¬ (c = 24 ∧ j = 6) → mG m1 c j = mG M c j := fun c j x => st_ne h1 x
    refine p_gFc (ji := 7) rfl ((g1 4 7 (by decide)).trans s8) (p_pF (ji := 5) rfl (fun m2 h2 => p_pF (ji := 4) rfl (fun m3 h3 => ?_)))
    have g3 : ∀ c j : Int, ¬ (c = 24 ∧ 4 ≤ j ∧ j ≤ 6) → mG m3 c j = mG M c j := fun c j x => (st_ne h3 (fun w => x (by omega))).trans ((st_ne h2 (fun w => x (by omega))).trans (g1 c j (fun w => x (by omega))))
    have f5 : mG m3 24 5 = (n : Int) := (st_ne h3 (fun w => absurd w.2 (by decide))).trans (st_eq h2)
    have f6 : mG m3 24 6 = 1 := (st_ne h3 (fun w => absurd w.2 (by decide))).trans ((st_ne h2 (fun w => absurd w.2 (by decide))).trans (st_eq h1))
    have f4 : mG m3 24 4 = 0 := st_eq h3
    have k3 : K2 m3 := k2.kp (fun x hx => g3 _ _ (by have := cst_24 x hx; omega))
    have s3 : SHC S 4 m3 := sh.kp (fun c j c0 c1 => g3 c j (by omega))
    refine p_call (q_ordersOf ok s3 (k := 0) (by decide)) (fun v0 m4 y => ?_)
    obtain ⟨y1, N0, y2, u0⟩ := y
    replace y1 : m4 = m3 := y1
    replace y2 : v0 = (N0 : Int) := y2
    subst y1; subst y2
    refine p_call (q_ordersOf ok s3 (k := 1) (by decide)) (fun v1 m5 y => ?_)
    obtain ⟨y1, N1, y2, u1⟩ := y
    replace y1 : m5 = m4 := y1
    replace y2 : v1 = (N1 : Int) := y2
    subst y1; subst y2
    refine p_call (q_ordersOf ok s3 (k := 2) (by decide)) (fun v2 m6 y => ?_)
    obtain ⟨y1, N2, y2, u2⟩ := y
    replace y1 : m6 = m5 := y1
    replace y2 : v2 = (N2 : Int) := y2
    subst y1; subst y2
    refine p_gFc (ji := 0) rfl k3.c24_0 (p_aS (fun m7 h7 => ?_))
    have g7 : ∀ c j : Int, ¬ c = 25 → mG m7 c j = mG m6 c j := fun c j x => st_ne h7 (fun w => x w.1)
    have lo : LO3 S n N0 N1 N2 (36 * 0) m7 := ⟨0, fun _ => 0, (g7 24 4 (by decide)).trans f4, by omega, fun y hy => absurd hy (by omega), fun x0 x1 x2 _ _ _ e => absurd e (by omega)⟩
    refine p_mono (q_layOut61 ok hn n12 k2 sh u0 u1 u2 FU 0 m7 (Nat.zero_le _) (fun c j x y z => (g7 c j y).trans (g3 c j x)) (st_eq h7) lo) (fun q y => ?_)
    obtain ⟨a1, a2, a3, a4⟩ := y
    have q5 : mG q.2 24 5 = (n : Int) := a2.trans ((g7 24 5 (by decide)).trans f5)
    have q6 : mG q.2 24 6 = 1 := a3.trans ((g7 24 6 (by decide)).trans f6)
    have la := a4.laid ok hn u0 u1 u2 q5
    obtain ⟨W, A, la⟩ := la
    refine ⟨⟨W, A, la⟩, by omega, a1, fun _ => ⟨n, W, A, hn, n12, la⟩, fun x => absurd ((a1 24 7 (by decide) (by decide) (by decide)).trans e7) x⟩
  · have e6 : ¬ mG M 24 6 = 0 := fun z => c (hv.symm.trans z)
    obtain ⟨n', W, A, h1, h2, h3⟩ := cb.1 e6
    rw [hn] at h1
    have en : n' = n := by omega
    subst en
    exact ⟨⟨W, A, h3⟩, e6, fun _ _ _ _ _ => rfl, cb⟩
theorem q_leastOnes (ok : S.ok) (hn : S.nf = (n : Int)) (n12 : n ≤ 12) (k2 : K2 M) (sh : SHC S 4 M) (cb : CB S M) : pw (mX1_leastOnes 24 4 M) (fun q => q.1 = 27 ∧ WP 27 n (fun u => isF S n u = true) q.2 ∧ CB S q.2 ∧ FOT M q.2) := by
  unfold mX1_leastOnes
  refine p_gK (p_call (q_layOut ok hn n12 k2 sh cb) (fun _ m1 y => ?_))
  obtain ⟨⟨W, A, la⟩, h6, fl, cb1⟩ := y
  replace la : LAID S n W A m1 := la
  replace h6 : ¬ mG m1 24 6 = 0 := h6
  replace fl : FLO M m1 := fl
  replace cb1 : CB S m1 := cb1
  have k1 : K2 m1 := k2.kp (fun x hx => fl _ _ (by have := cst_24 x hx; omega) (by have c := cst_out x hx; omega) (by have c := cst_out x hx; omega))
  have f1 : FOT M m1 := fun c j a b d e f g i => fl c j (fun w => a ⟨w.1, by omega, by omega⟩) b d
  refine p_gF (ji := 7) rfl (fun v hv => p_if (fun c => ?_) (fun c => ?_))
  · refine p_gK (p_call (q_mark ok hn n12 k1 la) (fun _ m2 y => ?_))
    obtain ⟨wp, g⟩ := y
    replace wp : WP 27 n (fun u => isF S n u = true) m2 := wp
    replace g : ∀ c j : Int, ¬ c = 28 → ¬ c = 30 → ¬ (c = 27 ∧ (j = 1 ∨ j = 2)) → ¬ (c = 29 ∧ (j = 1 ∨ j = 2)) → mG m2 c j = mG m1 c j := g
    refine p_pZ (ji := 7) rfl (fun m3 h3 => ?_)
    have g3 : ∀ c j : Int, ¬ (c = 24 ∧ j = 7) → mG m3 c j = mG m2 c j := fun c j x => st_ne h3 x
    have gg : ∀ c j : Int, ¬ (c = 24 ∧ j = 7) → ¬ c = 28 → ¬ c = 30 → ¬ (c = 27 ∧ (j = 1 ∨ j = 2)) → ¬ (c = 29 ∧ (j = 1 ∨ j = 2)) → mG m3 c j = mG m1 c j := fun c j x a b d e => (g3 c j x).trans (g c j a b d e)
    have w3 : WP 27 n (fun u => isF S n u = true) m3 := wp.kp (fun c j hc => g3 c j (by omega))
    unfold mX1_leastOnes_21
    refine p_gFc (ji := 2) rfl ((gg 24 2 (by decide) (by decide) (by decide) (by decide) (by decide)).trans k1.c24_2) (p_ret ⟨rfl, w3, ⟨fun _ => ⟨n, W, A, hn, n12, la.kp (fun c j hc => gg c j (by omega) (by omega) (by omega) (by omega) (by omega))⟩, fun _ => ⟨by rw [gg 24 6 (by decide) (by decide) (by decide) (by decide) (by decide)]; exact h6, n, hn, w3⟩⟩, fun c j a b d e f i k => (gg c j (fun w => a ⟨w.1, by omega, by omega⟩) e f i k).trans (f1 c j a b d e f i k)⟩)
  · obtain ⟨_, n', h1, h2⟩ := cb1.2 (fun z => c (hv.symm.trans z))
    rw [hn] at h1
    have en : n' = n := by omega
    subst en
    unfold mX1_leastOnes_21
    exact p_gFc (ji := 2) rfl k1.c24_2 (p_ret ⟨rfl, h2, cb1, f1⟩)
/-- the forms among the worlds -/
theorem q_pickForms {f : Nat → Bool} (ok : S.ok) (hn : S.nf = (n : Int)) (n12 : n ≤ 12) (k2 : K2 M) (sh : SHC S 4 M) (cb : CB S M) (ws : WS 34 (n : Int) f M) (hf : ∀ w, ¬ w < 2 ^ n → f w = false) : pw (mX4_pickForms 2 M) (fun q => WS 36 (n : Int) (fun w => f w && isF S n w) q.2 ∧ CB S q.2 ∧ ∀ c j : Int, ¬ (24 ≤ c ∧ c ≤ 30) → ¬ c = 37 → ¬ (c = 36 ∧ (j = 1 ∨ j = 2)) → mG q.2 c j = mG M c j) := by
  have ub := uw_b (n := (n : Int)) ⟨by omega, by omega⟩
  unfold mX4_pickForms
  refine p_gFc (ji := 7) rfl k2.c2_7 (p_gFc (ji := 6) rfl k2.c2_6 (p_gK (p_call (q_copy (l := 36) (l1 := 34) ⟨by omega, by omega⟩ k2.c36_0 ws ⟨by decide, by decide, by decide⟩) (fun _ m1 y => ?_))))
  obtain ⟨w1, f1⟩ := y
  replace w1 : WS 36 (n : Int) f m1 := w1
  replace f1 : FW 36 M m1 := f1
  have g1 : ∀ c j : Int, ¬ c = 37 → ¬ (c = 36 ∧ (j = 1 ∨ j = 2)) → mG m1 c j = mG M c j := fun c j a b => f1 c j a b
  have k1 := k2.fw f1 (by decide)
  refine p_gFc (ji := 7) rfl k1.c2_7 (p_gFc (ji := 2) rfl k1.c2_2 (p_gFc (ji := 0) rfl k1.c2_0 (p_gFc (ji := 0) rfl k1.c3_0 (p_gK (p_call (q_leastOnes ok hn n12 k1 (sh.kp (fun c j c0 c1 => g1 c j (by omega) (by omega))) (cb.kp (fun c j hc => g1 c j (by omega) (by omega)))) (fun v m2 y => ?_))))))
  obtain ⟨e, ⟨h, h1, h2⟩, cb2, f2⟩ := y
  replace e : v = 27 := e
  replace h1 : WS 27 (n : Int) h m2 := h1
  replace cb2 : CB S m2 := cb2
  replace f2 : FOT m1 m2 := f2
  subst e
  have g2 : ∀ c j : Int, ¬ (24 ≤ c ∧ c ≤ 30) → mG m2 c j = mG m1 c j := fun c j a => f2 c j (by omega) (by omega) (by omega) (by omega) (by omega) (by omega) (by omega)
  refine p_gK (p_call (q_keepOnly (l := 36) (l1 := 27) ⟨by omega, by omega⟩ (w1.kp (fun j => g2 36 j (by decide)) (fun j => g2 (36 + 1) j (by decide))) h1 ⟨by decide, by decide⟩) (fun _ m3 y => p_ret ?_))
  obtain ⟨w3, f3⟩ := y
  replace f3 : FX 37 m2 m3 := f3
  refine ⟨WS.ext w3 (fun w _ => ?_), cb2.kp (fun c j hc => f3 c j (by omega)), fun c j a b d => (f3 c j b).trans ((g2 c j a).trans (g1 c j b d))⟩
  show (f w && h w) = (f w && isF S n w)
  by_cases c : w < 2 ^ n
  · have := h2 w c
    cases e1 : h w with
    | true => rw [this.mp e1]
    | false =>
      cases e2 : isF S n w with
      | true => rw [this.mpr e2] at e1; cases e1
      | false => rfl
  · rw [hf w c]; rfl
end
