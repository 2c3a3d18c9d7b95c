section
variable {M : Mem}
theorem q_questions {n : Nat} {P : Nat → List Row} {vw : Nat} {F : Int → Int} {nn : Nat} (iM : I nn M) (ok : (shp M).ok) (hn : (shp M).nf = (n : Int)) (k2 : K2 M) (sh : SHC (shp M) 4 M) (h1 : mG M 1 0 = 2) (hl : pw (mX4_lookUp 2 M) (fun q => (12 < n ∧ q.1 = 0 ∧ q.2 = M) ∨ (n ≤ 12 ∧ q.1 = 1 ∧ LK (shp M) P vw F M q.2))) : pw (mX8_questions 1 M) (fun q => (∀ c j : Int, 65 ≤ c → mG q.2 c j = mG M c j) ∧ ((¬ (n ≤ 12 ∧ 0 < ctn (WDw (shp M) P vw F) (2 ^ n) ∧ ctn (WDw (shp M) P vw F) (2 ^ n) ≤ 16) ∧ q.1 = -1) ∨ ((n ≤ 12 ∧ 0 < ctn (WDw (shp M) P vw F) (2 ^ n) ∧ ctn (WDw (shp M) P vw F) (2 ^ n) ≤ 16) ∧ ∀ W, WKS (WDw (shp M) P vw F) (2 ^ n) (ctn (WDw (shp M) P vw F) (2 ^ n)) W → QST (AYs (Apl W n (ctn (WDw (shp M) P vw F) (2 ^ n)))) (2 ^ (ctn (WDw (shp M) P vw F) (2 ^ n)) - 1) q.1))) := by
  have nf := ok.nf
  obtain ⟨f, hf⟩ : ∃ f, f = WDw (shp M) P vw F := ⟨_, rfl⟩
  have out : ∀ w, ¬ w < 2 ^ n → f w = false := fun w hw => by rw [hf]; exact wd_out hn hw
  obtain ⟨N, hN⟩ : ∃ N, N = ctn f (2 ^ n) := ⟨_, rfl⟩
  rw [← hf, ← hN]
  obtain ⟨Q, hQ⟩ : ∃ Q : Int × Mem → Prop, Q = fun q => (∀ c j : Int, 65 ≤ c → mG q.2 c j = mG M c j) ∧ ((¬ (n ≤ 12 ∧ 0 < N ∧ N ≤ 16) ∧ q.1 = -1) ∨ ((n ≤ 12 ∧ 0 < N ∧ N ≤ 16) ∧ ∀ W, WKS f (2 ^ n) N W → QST (AYs (Apl W n N)) (2 ^ N - 1) q.1)) := ⟨_, rfl⟩
  rw [← hQ]
  unfold mX8_questions
  refine p_gFc (ji := 0) rfl h1 (p_gK (p_call (P := Q) ?_ (fun v m y => p_ret y)))
  unfold mX4_fewestQuestions
  refine p_gK (p_call (p_and hl (p_wp (s_X4_lookUp iM))) (fun v m y => ?_))
  obtain ⟨y, yi⟩ := y
  replace yi : I nn m := yi.1
  rcases y with ⟨a, b, c⟩ | ⟨a, b, c⟩
  · replace c : m = M := c
    subst c
    refine p_it1 b (p_ret ?_)
    rw [hQ]
    exact ⟨fun _ _ _ => rfl, Or.inl ⟨fun w => by omega, rfl⟩⟩
  replace b : v = 1 := b
  obtain ⟨_, w34, _, _, fl⟩ := c
  replace fl : FLK M m := fl
  replace w34 : WS 34 (shp M).nf (WDw (shp M) P vw F) m := w34
  rw [hn, ← hf] at w34
  have km := k2.fl fl
  have u := uw_1 n a
  have cut : ctn f (64 * uw (n : Int)) = N := by rw [ctn_uw a out, hN]
  have f65 : ∀ c j : Int, 65 ≤ c → mG m c j = mG M c j := fun c j c0 => fl c j (nq_0 (by omega))
  refine p_it0 (show ¬ v = 0 by omega) (p_gFc (ji := 6) rfl km.c2_6 (p_gK (p_call (q_isNothing (l := 34) ⟨by omega, by omega⟩ w34) (fun r m1 y => ?_))))
  obtain ⟨y1, y2⟩ := y
  replace y1 : m1 = m := y1
  subst y1
  rcases y2 with ⟨z, e⟩ | ⟨z, e⟩
  · replace e : r = 1 := e
    refine p_it0 (show ¬ r = 0 by omega) (p_ret ?_)
    rw [hQ]
    refine ⟨f65, Or.inl ⟨fun w => ?_, rfl⟩⟩
    have := (ctn_0 _).mp z
    omega
  replace e : r = 0 := e
  have N0 : 0 < N := by
    obtain ⟨w, w1, w2⟩ := z
    apply Classical.byContradiction
    intro h
    rw [(ctn_0 _).mpr (show ctn f (64 * uw (n : Int)) = 0 by omega) w w1] at w2
    cases w2
  refine p_it1 e (p_gFc (ji := 6) rfl km.c2_6 (p_gK (p_call (q_count (l := 34) ⟨by omega, by omega⟩ w34) (fun v m2 y => ?_))))
  obtain ⟨y1, y2⟩ := y
  replace y1 : m2 = m1 := y1
  subst y1
  have ev : v = ((N : Nat) : Int) := (show v = _ from y2).trans (by rw [cut])
  subst ev
  refine p_if (fun c16 => ?_) (fun c16 => p_ret ?_)
  · have h16 : N ≤ 16 := by omega
    obtain ⟨W, hW⟩ := wks_ex (f := f) (2 ^ n)
    rw [← hN] at hW
    have fin : ∀ (m3 : Mem) (d : Nat), (∀ c j : Int, 65 ≤ c → mG m3 c j = mG M c j) → K2 m3 → d ≤ 5 → (∀ V, WKS f (2 ^ n) N V → ASK (Apl V n N) m3) → (∀ V, WKS f (2 ^ n) N V → ∀ e, e < d → ¬ SL (AYs (Apl V n N)) e (2 ^ N - 1)) → ∀ fu : Nat, pw (mX4_fewestQuestions_38 fu 2 ((2 ^ N - 1 : Nat) : Int) (d : Int) m3) Q := by
      intro m3 d g3 k3 hd hask hno fu
      induction fu generalizing d with
      | zero => exact p_none
      | succ fu ih =>
        show pw (bX4_fewestQuestions_38 (mX4_fewestQuestions_38 fu) 2 _ (d : Int) m3) Q
        have Xl : 2 ^ N - 1 < 65536 := by
          have : 2 ^ N ≤ 2 ^ 16 := Nat.pow_le_pow_right (n := 2) (by decide) h16
          omega
        unfold bX4_fewestQuestions_38
        refine p_if (fun c => p_ret ?_) (fun c => ?_)
        · rw [hQ]
          exact ⟨g3, Or.inr ⟨⟨a, N0, h16⟩, fun V hV => Or.inr ⟨rfl, fun e he => hno V hV e (by omega)⟩⟩⟩
        · have sf : ∀ V, WKS f (2 ^ n) N V → _ := fun V hV => q_suffice (hask V hV) 8 (2 ^ N - 1) d Xl (by omega)
          refine p_gFc (ji := 11) rfl k3.c2_11 (p_call (P := fun q => q.2 = m3 ∧ ∀ V, WKS f (2 ^ n) N V → ((SL (AYs (Apl V n N)) d (2 ^ N - 1) ∧ q.1 = 1) ∨ (¬ SL (AYs (Apl V n N)) d (2 ^ N - 1) ∧ q.1 = 0))) (fun q e => ⟨(sf W hW q e).1, fun V hV => (sf V hV q e).2⟩) (fun r m4 y => ?_))
          obtain ⟨y3, y4⟩ := y
          replace y3 : m4 = m3 := y3
          subst y3
          refine p_if (fun z0 => ?_) (fun z0 => p_ret ?_)
          · have z0 : r = 0 := z0
            rw [wI_s (p := d) (by omega)]
            refine ih (d + 1) (by omega) (fun V hV e he => ?_)
            by_cases ed : e = d
            · rw [ed]
              rcases y4 V hV with ⟨_, w⟩ | ⟨w, _⟩
              · have w : r = 1 := w
                omega
              · exact w
            · exact hno V hV e (by omega)
          · have z0 : ¬ r = 0 := z0
            rw [hQ]
            refine ⟨g3, Or.inr ⟨⟨a, N0, h16⟩, fun V hV => Or.inl ⟨d, by omega, rfl, ?_, hno V hV⟩⟩⟩
            rcases y4 V hV with ⟨w, _⟩ | ⟨_, w⟩
            · exact w
            · exact absurd w z0
    have ta : ∀ V, WKS f (2 ^ n) N V → _ := fun V hV => q_takeAsked (S := shp M) (W := V) ok hn a km (sh.fl fl) w34 out hN.symm h16 hV
    refine p_gK (p_call (P := fun q => (∀ c j : Int, ¬ c = 46 → mG q.2 c j = mG m2 c j) ∧ q.1 = ((2 ^ N - 1 : Nat) : Int) ∧ I nn q.2 ∧ ∀ V, WKS f (2 ^ n) N V → ∀ p : Nat, p < 12 → mG q.2 46 (p : Int) = ((Apl V n N p : Nat) : Int)) (fun q e => ⟨(ta W hW q e).1, (ta W hW q e).2.1, (p_wp (s_X4_takeAsked yi) q e).1, fun V hV => (ta V hV q e).2.2⟩) (fun v m3 y => ?_))
    obtain ⟨x1, x2, x3, x4⟩ := y
    replace x1 : ∀ c j : Int, ¬ c = 46 → mG m3 c j = mG m2 c j := x1
    replace x2 : v = ((2 ^ N - 1 : Nat) : Int) := x2
    replace x3 : I nn m3 := x3
    subst x2
    refine fin m3 0 (fun c j c0 => (x1 c j (by omega)).trans (f65 c j c0)) (K2.of x3) (by omega) (fun V hV => ⟨by rw [kl_46 x3], fun p hp => ⟨?_, x4 V hV p hp⟩⟩) (fun V hV e he => absurd he (by omega)) FU
    unfold Apl Ybt
    split
    · exact Nat.lt_of_lt_of_le (bitsOf_lt _ _) (Nat.pow_le_pow_right (n := 2) (by decide) h16)
    · decide
  · rw [hQ]
    exact ⟨f65, Or.inl ⟨fun w => by omega, rfl⟩⟩
end
