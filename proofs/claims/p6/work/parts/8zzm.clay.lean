/-! ===== the class lays all ways out ===== -/
theorem cst_24 : ∀ x, x ∈ cstL → x.1 = 24 → x.2.1 ≤ 3 := by decide +kernel
def GOOD (S : SH) (n W : Nat) (A : Nat → Nat) (M : Mem) : Prop := ∀ y : Nat, y < W → A y < 216 ∧ isA S (A y) = true ∧ ∀ p : Nat, p < n → mG M 26 ((12 * y + p : Nat) : Int) = ((2 ^ (n - 1 - (tpp S (frO (A y)) (p : Int)).toNat) : Nat) : Int)
def LO3 (S : SH) (n N0 N1 N2 t : Nat) (M : Mem) : Prop := ∃ (W : Nat) (A : Nat → Nat), mG M 24 4 = (W : Int) ∧ W ≤ t ∧ GOOD S n W A M ∧ ∀ x0 x1 x2 : Nat, x0 < N0 → x1 < N1 → x2 < N2 → 36 * x0 + 6 * x1 + x2 < t → ∃ y, y < W ∧ A y = ac x0 x1 x2
def FLO (M M' : Mem) : Prop := ∀ c j : Int, ¬ (c = 24 ∧ 4 ≤ j ∧ j ≤ 6) → ¬ c = 25 → ¬ c = 26 → mG M' c j = mG M c j
def NUM (S : SH) (k : Int) (N : Nat) : Prop := N = nOr (S.sz k) ∨ (N = 1 ∧ ∀ r : Int, 0 ≤ r → r < S.nr → ¬ S.k1 r = k ∧ ¬ S.k2 r = k)
section
variable {S : SH} {M : Mem} {n N0 N1 N2 : Nat}
theorem NUM.b {k : Int} {N : Nat} (h : NUM S k N) : 1 ≤ N ∧ N ≤ nOr (S.sz k) := by
  have := nO_b (S.sz k)
  rcases h with h | ⟨h, _⟩ <;> omega
theorem NUM.ch {k : Int} {N b : Nat} (ok : S.ok) (hk : 0 ≤ k ∧ k < 3) (h : NUM S k N) (hb : b < 6) (hi : isOb b (S.sz k).toNat = true) : ∃ x, x < N ∧ x < 6 ∧ ∀ r : Int, 0 ≤ r → r < S.nr → S.k1 r = k ∨ S.k2 r = k → cmO x = b := by
  have z := ok.1 k hk.1 hk.2
  rcases h with h | ⟨h, hu⟩
  · refine ⟨cmO b, ?_, (cm_cm b hb).1, fun _ _ _ _ => (cm_cm b hb).2⟩
    have e := (isO_n (S.sz k).toNat (by omega) (by omega) b hb).1
    rw [hi, show (((S.sz k).toNat : Nat) : Int) = S.sz k by omega] at e
    rw [h]
    exact of_decide_eq_true e.symm
  · refine ⟨0, by omega, by decide, fun r r0 r1 w => ?_⟩
    obtain ⟨a, b⟩ := hu r r0 r1
    rcases w with w | w
    · exact absurd w a
    · exact absurd w b
theorem LO3.go {t : Nat} {M' : Mem} (h : LO3 S n N0 N1 N2 t M) (g4 : mG M' 24 4 = mG M 24 4) (g : ∀ j, mG M' 26 j = mG M 26 j) : LO3 S n N0 N1 N2 t M' := by
  obtain ⟨W, A, h1, h2, h3, h4⟩ := h
  exact ⟨W, A, g4.trans h1, h2, fun y hy => ⟨(h3 y hy).1, (h3 y hy).2.1, fun p hp => (g _).trans ((h3 y hy).2.2 p hp)⟩, h4⟩
theorem LO3.up {t t' : Nat} (h : LO3 S n N0 N1 N2 t M) (ht : t ≤ t') (e : ∀ x0 x1 x2 : Nat, x0 < N0 → x1 < N1 → x2 < N2 → 36 * x0 + 6 * x1 + x2 < t' → 36 * x0 + 6 * x1 + x2 < t) : LO3 S n N0 N1 N2 t' M := by
  obtain ⟨W, A, h1, h2, h3, h4⟩ := h
  exact ⟨W, A, h1, by omega, h3, fun x0 x1 x2 a b c d => h4 x0 x1 x2 a b c (e x0 x1 x2 a b c d)⟩
theorem q_layOut61 (ok : S.ok) (hn : S.nf = (n : Int)) (n12 : n ≤ 12) (k2 : K2 M) (sh : SHC S 4 M) (u0 : NUM S 0 N0) (u1 : NUM S 1 N1) (u2 : NUM S 2 N2) : ∀ (fu o0 : Nat) (m : Mem), o0 ≤ N0 → FLO M m → mG m 25 0 = (o0 : Int) → LO3 S n N0 N1 N2 (36 * o0) m → pw (mX1_layOut_61 fu 24 4 (N0 : Int) (N1 : Int) (N2 : Int) m) (fun q => FLO M q.2 ∧ mG q.2 24 5 = mG m 24 5 ∧ mG q.2 24 6 = mG m 24 6 ∧ LO3 S n N0 N1 N2 (36 * N0) q.2) := by
  have b0 := u0.b
  have b1 := u1.b
  have b2 := u2.b
  have c0 := nO_b (S.sz 0)
  have c1 := nO_b (S.sz 1)
  have c2 := nO_b (S.sz 2)
  have kk : ∀ m, FLO M m → K2 m ∧ SHC S 4 m := fun m f => ⟨k2.kp (fun x hx => f _ _ (by have c := cst_out x hx; have := cst_24 x hx; omega) (by have c := cst_out x hx; omega) (by have c := cst_out x hx; omega)), sh.kp (fun c j c0 c1 => f c j (by omega) (by omega) (by omega))⟩
  intro fu
  induction fu with
  | zero => intro o0 m _ _ _ _; exact p_none
  | succ fu ih =>
    intro o0 m h0 fr e0 lo
    show pw (bX1_layOut_61 (mX1_layOut_61 fu) 24 4 (N0 : Int) (N1 : Int) (N2 : Int) m) _
    obtain ⟨Q, hQ⟩ : ∃ Q : Int × Mem → Prop, Q = fun q => FLO M q.2 ∧ mG q.2 24 5 = mG m 24 5 ∧ mG q.2 24 6 = mG m 24 6 ∧ LO3 S n N0 N1 N2 (36 * N0) q.2 := ⟨_, rfl⟩
    rw [← hQ]
    obtain ⟨km, sm⟩ := kk m fr
    unfold bX1_layOut_61
    refine p_gFc (ji := 0) rfl km.c24_0 (p_aGc e0 (p_if (fun c => p_ret ?_) (fun c => ?_)))
    · rw [hQ]
      rw [show o0 = N0 by omega] at lo
      exact ⟨fr, rfl, rfl, lo⟩
    have o0l : o0 < N0 := by omega
    have l78 : ∀ (fu2 o1 : Nat) (m1 : Mem), o1 ≤ N1 → FLO M m1 → (mG m1 24 5 = mG m 24 5 ∧ mG m1 24 6 = mG m 24 6) → (mG m1 25 0 = (o0 : Int) ∧ mG m1 25 1 = (o1 : Int)) → LO3 S n N0 N1 N2 (36 * o0 + 6 * o1) m1 → pw (mX1_layOut_78 (mX1_layOut_61 fu) fu2 24 4 (N0 : Int) (N1 : Int) (N2 : Int) m1) Q := by
      intro fu2
      induction fu2 with
      | zero => intro o1 m1 _ _ _ _ _; exact p_none
      | succ fu2 ih2 =>
        intro o1 m1 h1 fr1 e56 e1 lo1
        show pw (bX1_layOut_78 (mX1_layOut_61 fu) (mX1_layOut_78 (mX1_layOut_61 fu) fu2) 24 4 (N0 : Int) (N1 : Int) (N2 : Int) m1) Q
        obtain ⟨k1, s1⟩ := kk m1 fr1
        unfold bX1_layOut_78
        refine p_gFc (ji := 0) rfl k1.c24_0 (p_aGc e1.2 (p_if (fun d => ?_) (fun d => ?_)))
        · refine p_gFc (ji := 0) rfl k1.c24_0 (p_aGc e1.1 (p_aS (fun m2 h2 => ?_)))
          rw [wI_s (p := o0) (by omega)] at h2
          have g2 : ∀ c j : Int, ¬ c = 25 → mG m2 c j = mG m1 c j := fun c j x => st_ne h2 (fun w => x w.1)
          have i := ih (o0 + 1) m2 (by omega) (fun c j x y z => (g2 c j y).trans (fr1 c j x y z)) (st_eq h2) ((lo1.up (t' := 36 * (o0 + 1)) (by omega) (fun x0 x1 x2 a b c e => by omega)).go (g2 24 4 (by decide)) (fun j => g2 26 j (by decide)))
          refine p_mono i (fun q y => ?_)
          rw [hQ]
          exact ⟨y.1, y.2.1.trans ((g2 24 5 (by decide)).trans e56.1), y.2.2.1.trans ((g2 24 6 (by decide)).trans e56.2), y.2.2.2⟩
        have o1l : o1 < N1 := by omega
        have l95 : ∀ (fu3 o2 : Nat) (m3 : Mem), o2 ≤ N2 → FLO M m3 → (mG m3 24 5 = mG m 24 5 ∧ mG m3 24 6 = mG m 24 6) → ORC o0 o1 o2 m3 → LO3 S n N0 N1 N2 (36 * o0 + 6 * o1 + o2) m3 → pw (mX1_layOut_95 (mX1_layOut_61 fu) (mX1_layOut_78 (mX1_layOut_61 fu) fu2) fu3 24 4 (N0 : Int) (N1 : Int) (N2 : Int) m3) Q := by
          intro fu3
          induction fu3 with
          | zero => intro o2 m3 _ _ _ _ _; exact p_none
          | succ fu3 ih3 =>
            intro o2 m3 h2 fr3 e3 oc lo3
            show pw (bX1_layOut_95 (mX1_layOut_61 fu) (mX1_layOut_78 (mX1_layOut_61 fu) fu2) (mX1_layOut_95 (mX1_layOut_61 fu) (mX1_layOut_78 (mX1_layOut_61 fu) fu2) fu3) 24 4 (N0 : Int) (N1 : Int) (N2 : Int) m3) Q
            obtain ⟨k3, s3⟩ := kk m3 fr3
            unfold bX1_layOut_95
            refine p_gFc (ji := 0) rfl k3.c24_0 (p_aGc oc.2.2 (p_if (fun d2 => ?_) (fun d2 => ?_)))
            · refine p_gFc (ji := 0) rfl k3.c24_0 (p_aGc oc.2.1 (p_aS (fun m4 h4 => ?_)))
              rw [wI_s (p := o1) (by omega)] at h4
              have g4 : ∀ c j : Int, ¬ c = 25 → mG m4 c j = mG m3 c j := fun c j x => st_ne h4 (fun w => x w.1)
              exact ih2 (o1 + 1) m4 (by omega) (fun c j x y z => (g4 c j y).trans (fr3 c j x y z)) ⟨(g4 24 5 (by decide)).trans e3.1, (g4 24 6 (by decide)).trans e3.2⟩ ⟨(st_ne h4 (fun w => absurd w.2 (by decide))).trans oc.1, st_eq h4⟩ ((lo3.up (t' := 36 * o0 + 6 * (o1 + 1)) (by omega) (fun x0 x1 x2 a b c e => by omega)).go (g4 24 4 (by decide)) (fun j => g4 26 j (by decide)))
            have o2l : o2 < N2 := by omega
            obtain ⟨W, A, w1, w2, w3, w4⟩ := lo3
            have w216 : W < 216 := by omega
            refine p_gK (p_call (q_addWay ok hn n12 k3 s3 oc (by omega) (by omega) (by omega) w1 w216) (fun _ m4 y => ?_))
            obtain ⟨y1, y2, y3⟩ := y
            replace y1 : mG m4 24 4 = ((W + 1 : Nat) : Int) := y1
            replace y2 : ∀ p : Nat, p < n → mG m4 26 ((12 * W + p : Nat) : Int) = ((2 ^ (n - 1 - (tpp S (frO (ac o0 o1 o2)) (p : Int)).toNat) : Nat) : Int) := y2
            replace y3 : ∀ c j : Int, ¬ (c = 24 ∧ j = 4) → ¬ (c = 26 ∧ 12 * (W : Int) ≤ j ∧ j < 12 * (W : Int) + 12) → mG m4 c j = mG m3 c j := y3
            have a4 : mG m4 24 0 = 25 := (y3 24 0 (by decide) (by omega)).trans k3.c24_0
            have f0 : mG m4 25 0 = (o0 : Int) := (y3 25 0 (by decide) (by omega)).trans oc.1
            have f1 : mG m4 25 1 = (o1 : Int) := (y3 25 1 (by decide) (by omega)).trans oc.2.1
            have f2 : mG m4 25 2 = (o2 : Int) := (y3 25 2 (by decide) (by omega)).trans oc.2.2
            refine p_gFc (ji := 0) rfl a4 (p_aGc f2 (p_aS (fun m5 h5 => ?_)))
            rw [wI_s (p := o2) (by omega)] at h5
            have g5 : ∀ c j : Int, ¬ c = 25 → mG m5 c j = mG m4 c j := fun c j x => st_ne h5 (fun w => x w.1)
            refine ih3 (o2 + 1) m5 (by omega) (fun c j x y z => (g5 c j y).trans ((y3 c j (fun w => x ⟨w.1, by omega, by omega⟩) (fun w => z w.1)).trans (fr3 c j x y z))) ⟨(g5 24 5 (by decide)).trans ((y3 24 5 (by decide) (by omega)).trans e3.1), (g5 24 6 (by decide)).trans ((y3 24 6 (by decide) (by omega)).trans e3.2)⟩ ⟨(st_ne h5 (fun w => absurd w.2 (by decide))).trans f0, (st_ne h5 (fun w => absurd w.2 (by decide))).trans f1, st_eq h5⟩ ?_
            refine ⟨W + 1, fun y => if y = W then ac o0 o1 o2 else A y, (g5 24 4 (by decide)).trans y1, by omega, fun y hy => ?_, fun x0 x1 x2 a b c e => ?_⟩
            · show (if y = W then ac o0 o1 o2 else A y) < 216 ∧ isA S (if y = W then ac o0 o1 o2 else A y) = true ∧ ∀ p : Nat, p < n → mG m5 26 ((12 * y + p : Nat) : Int) = ((2 ^ (n - 1 - (tpp S (frO (if y = W then ac o0 o1 o2 else A y)) (p : Int)).toNat) : Nat) : Int)
              by_cases ey : y = W
              · rw [if_pos ey, ey]
                exact ⟨(ac_d (by omega) (by omega) (by omega)).1, isA_ac ok (by omega) (by omega) (by omega), fun p hp => (g5 26 _ (by decide)).trans (y2 p hp)⟩
              · rw [if_neg ey]
                obtain ⟨z1, z2, z3⟩ := w3 y (by omega)
                exact ⟨z1, z2, fun p hp => (g5 26 _ (by decide)).trans ((y3 26 _ (by omega) (by omega)).trans (z3 p hp))⟩
            · by_cases z : 36 * x0 + 6 * x1 + x2 < 36 * o0 + 6 * o1 + o2
              · obtain ⟨y, q1, q2⟩ := w4 x0 x1 x2 a b c z
                refine ⟨y, by omega, ?_⟩
                show (if y = W then ac o0 o1 o2 else A y) = _
                rw [if_neg (by omega)]
                exact q2
              · refine ⟨W, by omega, ?_⟩
                show (if W = W then ac o0 o1 o2 else A W) = _
                rw [if_pos rfl, show x0 = o0 by omega, show x1 = o1 by omega, show x2 = o2 by omega]
        refine p_gFc (ji := 0) rfl k1.c24_0 (p_aS (fun m3 h3 => ?_))
        have g3 : ∀ c j : Int, ¬ c = 25 → mG m3 c j = mG m1 c j := fun c j x => st_ne h3 (fun w => x w.1)
        exact l95 FU 0 m3 (by omega) (fun c j x y z => (g3 c j y).trans (fr1 c j x y z)) ⟨(g3 24 5 (by decide)).trans e56.1, (g3 24 6 (by decide)).trans e56.2⟩ ⟨(st_ne h3 (fun w => absurd w.2 (by decide))).trans e1.1, (st_ne h3 (fun w => absurd w.2 (by decide))).trans e1.2, st_eq h3⟩ (lo1.go (g3 24 4 (by decide)) (fun j => g3 26 j (by decide)))
    refine p_gFc (ji := 0) rfl km.c24_0 (p_aS (fun m1 h1 => ?_))
    have g1 : ∀ c j : Int, ¬ c = 25 → mG m1 c j = mG m c j := fun c j x => st_ne h1 (fun w => x w.1)
    exact l78 FU 0 m1 (by omega) (fun c j x y z => (g1 c j y).trans (fr c j x y z)) ⟨g1 24 5 (by decide), g1 24 6 (by decide)⟩ ⟨(st_ne h1 (fun w => absurd w.2 (by decide))).trans e0, st_eq h1⟩ (lo.go (g1 24 4 (by decide)) (fun j => g1 26 j (by decide)))
theorem LO3.laid (ok : S.ok) (hn : S.nf = (n : Int)) (u0 : NUM S 0 N0) (u1 : NUM S 1 N1) (u2 : NUM S 2 N2) (h : LO3 S n N0 N1 N2 (36 * N0) M) (h5 : mG M 24 5 = (n : Int)) : ∃ W A, LAID S n W A M := by
  have b0 := u0.b
  have c0 := nO_b (S.sz 0)
  obtain ⟨W, A, h1, h2, h3, h4⟩ := h
  refine ⟨W, A, ⟨h5, h1, by omega⟩, h3, fun a ha hA => ?_⟩
  have hA' := hA
  unfold isA at hA'
  obtain ⟨p1, p2⟩ := Bool.and_eq_true_iff.mp hA'
  obtain ⟨p0, p1⟩ := Bool.and_eq_true_iff.mp p1
  obtain ⟨x0, q0, r0, s0⟩ := u0.ch ok (by decide) (show a / 36 < 6 by omega) p0
  obtain ⟨x1, q1, r1, s1⟩ := u1.ch ok (by decide) (show a / 6 % 6 < 6 by omega) p1
  obtain ⟨x2, q2, r2, s2⟩ := u2.ch ok (by decide) (show a % 6 < 6 by omega) p2
  obtain ⟨y, y1, y2⟩ := h4 x0 x1 x2 q0 q1 q2 (by omega)
  obtain ⟨_, d0, d1, d2⟩ := ac_d r0 r1 r2
  refine ⟨y, y1, fun w => ?_⟩
  obtain ⟨z1, z2, _⟩ := h3 y y1
  have hr := frO_ren ok ha hA
  have hr' := frO_ren ok z1 z2
  have same : ∀ k : Int, 0 ≤ k → k < 3 → ∀ r : Int, 0 ≤ r → r < S.nr → S.k1 r = k ∨ S.k2 r = k → ∀ i : Int, frO a k i = frO (A y) k i := fun k k0 k1 r t0 t1 hk i => by
    rw [y2]
    unfold frO
    rw [d0, d1, d2]
    obtain e | e | e : k = 0 ∨ k = 1 ∨ k = 2 := by omega
    · subst e; rw [if_pos rfl, if_pos rfl, s0 r t0 t1 hk]
    · subst e; rw [if_neg (by decide), if_pos rfl, if_neg (by decide), if_pos rfl, s1 r t0 t1 hk]
    · subst e; rw [if_neg (by decide), if_neg (by decide), if_neg (by decide), if_neg (by decide), s2 r t0 t1 hk]
  refine IMf.uniq ok hn hr' (IMf.congr ok (f := frO a) (fun r t0 t1 => ?_) (imN_f ok hn hr w)) (imN_f ok hn hr' w)
  obtain ⟨k1, k2⟩ := ok.2.2 r t0 t1
  exact ⟨fun i _ _ => same (S.k1 r) k1.1 (by omega) r t0 t1 (Or.inl rfl) i, fun z i _ _ => same (S.k2 r) (by omega) (by omega) r t0 t1 (Or.inr rfl) i⟩
end
