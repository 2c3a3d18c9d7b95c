/-! ===== cause ===== -/
theorem ctn_and_le (f g : Nat → Bool) : ∀ N : Nat, ctn (fun w => f w && g w) N ≤ ctn f N := by
  intro N
  induction N with
  | zero => exact Nat.le_refl _
  | succ N ih =>
    rw [ctn_s, ctn_s]
    have : (f N && g N).toNat ≤ (f N).toNat := by cases f N <;> cases g N <;> decide
    omega
theorem ctn_all {f g : Nat → Bool} : ∀ N : Nat, ctn (fun w => f w && g w) N = ctn f N → ∀ w, w < N → f w = true → g w = true := by
  intro N
  induction N with
  | zero => intro _ w hw; exact absurd hw (by omega)
  | succ N ih =>
    intro h w hw hf
    rw [ctn_s, ctn_s] at h
    have l := ctn_and_le f g N
    have l2 : (f N && g N).toNat ≤ (f N).toNat := by cases f N <;> cases g N <;> decide
    by_cases e : w = N
    · rw [e] at hf ⊢
      have : (f N && g N).toNat = (f N).toNat := by omega
      rw [hf] at this
      cases z : g N with
      | true => rfl
      | false => rw [z] at this; exact absurd this (by decide)
    · exact ih (by omega) w (by omega) hf
/-- what is sure leaves nothing in which it is otherwise -/
theorem srn_ln {S : SH} {P : Nat → List Row} {n p vw : Nat} {f : Nat → Bool} {v : Bool} (h : srn (fun w => wth S P f vw w) n p = b2i v) : LN S P n (fun w => f w && !(phw (n : Int) w (p : Int) == v)) vw := fun w hw => by
  have key : wth S P f vw w = true → phw (n : Int) w (p : Int) = v := fun hf => by
    unfold srn at h
    by_cases c1 : ctn (fun w => wth S P f vw w) (2 ^ n) = 0
    · rw [if_pos c1] at h
      have := b2i_b v
      omega
    · rw [if_neg c1] at h
      by_cases c2 : cfa (fun w => wth S P f vw w) n p = 0
      · rw [if_pos c2] at h
        have hv := b2i_0.mp h.symm
        have z : (wth S P f vw w && phw (n : Int) w (p : Int)) = false := (ctn_0 _).mpr c2 w hw
        rw [hf, Bool.true_and] at z
        rw [z, hv]
      · rw [if_neg c2] at h
        by_cases c3 : cfa (fun w => wth S P f vw w) n p = ctn (fun w => wth S P f vw w) (2 ^ n)
        · rw [if_pos c3] at h
          have hv : v = true := by cases v with | true => rfl | false => exact absurd h (by decide)
          rw [hv]
          exact ctn_all (f := fun w => wth S P f vw w) (g := fun w => phw (n : Int) w (p : Int)) _ c3 w hw hf
        · rw [if_neg c3] at h
          have := b2i_b v
          omega
  unfold wth at key ⊢
  show (f w && !(phw (n : Int) w (p : Int) == v) && allb (stw S P vw w) 8) = false
  cases e : f w with
  | false => rfl
  | true =>
    cases e2 : allb (stw S P vw w) 8 with
    | false => exact Bool.and_false _
    | true =>
      rw [e, e2] at key
      rw [key rfl]
      cases v <;> rfl
section
variable {M : Mem}
theorem q_causeS {n p : Nat} {P : Nat → List Row} {vw : Nat} {F : Int → Int} {m : Mem} {v : Bool} (ok : (shp M).ok) (hn : (shp M).nf = (n : Int)) (n12 : n ≤ 12) (hp : p < n) (k2 : K2 M) (sh : SHC (shp M) 4 M) (tp : TXP (shp M) P M) (h11 : 0 ≤ mG M 3 11 ∧ mG M 3 11 ≤ 8) (hv : vw = vwb M) (lk : LK (shp M) P vw F M m) (ln : LN (shp M) P n (fun w => PKq (n : Int) F n w && !(phw (n : Int) w (p : Int) == v)) vw) : pw (mX4_causeStories 2 (p : Int) (b2i v) m) (fun q => (∀ c j : Int, ¬ c = 37 → ¬ (c = 36 ∧ (j = 1 ∨ j = 2)) → mG q.2 c j = mG m c j) ∧ ∃ X : Nat, q.1 = (X : Int) ∧ FST (shp M) P n vw (fun w => PKq (n : Int) F n w && !(phw (n : Int) w (p : Int) == v)) X) := by
  have nf := ok.nf
  obtain ⟨v8, hin⟩ := vw_in hv h11
  obtain ⟨w32, _, _, _, fl⟩ := id lk
  have km := k2.fl fl
  have trs := trs_of hn tp hin lk
  rw [hn, Int.toNat_natCast] at w32
  obtain ⟨Q, hQ⟩ : ∃ Q : Int × Mem → Prop, Q = fun q => (∀ c j : Int, ¬ c = 37 → ¬ (c = 36 ∧ (j = 1 ∨ j = 2)) → mG q.2 c j = mG m c j) ∧ ∃ X : Nat, q.1 = (X : Int) ∧ FST (shp M) P n vw (fun w => PKq (n : Int) F n w && !(phw (n : Int) w (p : Int) == v)) X := ⟨_, rfl⟩
  rw [← hQ]
  unfold mX4_causeStories
  refine p_gFc (ji := 7) rfl km.c2_7 (p_gFc (ji := 5) rfl km.c2_5 (p_gK (p_call (q_copy (l := 36) (l1 := 32) ⟨by omega, by omega⟩ km.c36_0 w32 ⟨by decide, by decide, by decide⟩) (fun _ m1 y => ?_))))
  obtain ⟨y5, y6⟩ := y
  replace y5 : WS 36 (n : Int) (PKq (n : Int) F n) m1 := y5
  replace y6 : FW 36 m m1 := y6
  have k1 := km.fw y6 (by decide)
  have sh1 : SHC (shp M) 4 m1 := (sh.fl fl).kp (fun c j c0 c1 => y6 c j (by omega) (by omega))
  refine p_gFc (ji := 7) rfl k1.c2_7 (p_gFc (ji := 0) rfl k1.c2_0 (p_gFc (ji := 0) rfl k1.c3_0 (p_gK (p_call (q_bit (p := (p : Int)) sh1 ok ⟨by omega, by omega⟩) (fun bt m2 y => ?_)))))
  obtain ⟨y1, y2⟩ := y
  replace y1 : m2 = m1 := y1
  replace y2 : bt = (shp M).nf - 1 - (p : Int) := y2
  subst y1
  rw [hn] at y2
  subst y2
  have s35 : ∀ u : Bool, u = !v → pw (mX4_causeStories_35 2 36 ((n : Int) - 1 - (p : Int)) (b2i u) m2) Q := fun u hu => by
    unfold mX4_causeStories_35
    refine p_gK (p_call (q_keepWhere (v := u) (i := (n : Int) - 1 - (p : Int)) ⟨by omega, by omega⟩ y5 (by omega)) (fun _ m3 y => ?_))
    obtain ⟨z1, z2⟩ := y
    replace z2 : FX 37 m2 m3 := z2
    have z3 : WS 36 (n : Int) (fun w => PKq (n : Int) F n w && !(phw (n : Int) w (p : Int) == v)) m3 := WS.ext z1 (fun w _ => by
      show (_ && _) = (_ && _)
      unfold phw
      rw [hu]
      cases w.testBit ((n : Int) - 1 - (p : Int)).toNat <;> cases v <;> rfl)
    have k3 := k1.fx z2 (by decide)
    have g3 : ∀ c j : Int, ¬ c = 37 → ¬ (c = 36 ∧ (j = 1 ∨ j = 2)) → mG m3 c j = mG m c j := fun c j a b => (z2 c j a).trans (y6 c j a b)
    have e11 : mG m3 3 11 = mG M 3 11 := (g3 3 11 (by decide) (by decide)).trans (fl 3 11 (nq_0 (by omega)))
    have ev : vwb m3 = vw := by
      rw [hv, ← vwb_fl fl]
      unfold vwb
      rw [g3 3 13 (by decide) (by decide), g3 3 14 (by decide) (by decide), g3 3 11 (by decide) (by decide), show mG m3 15 = mG m 15 from funext (fun j => g3 15 j (by decide) (fun w => absurd w.1 (by decide))), show mG m3 16 = mG m 16 from funext (fun j => g3 16 j (by decide) (fun w => absurd w.1 (by decide)))]
    have tr3 : TRS (shp M) P (n : Int) vw m3 := fun s hs hb => (trs s hs hb).kp (fun j => g3 _ j (by omega) (by omega)) (fun j => g3 _ j (by omega) (by omega))
    refine p_gFc (ji := 7) rfl k3.c2_7 (p_gK (p_call (q_fewest (l := 36) (vw := vw) n12 (fun w hw => by unfold PKq; rw [Int.toNat_natCast, decide_eq_false hw]; rfl) k3 (by rw [e11]; exact h11) ev v8 z3 tr3 ln) (fun r m4 y => p_ret ?_)))
    obtain ⟨x1, X, x2, x3⟩ := y
    replace x1 : m4 = m3 := x1
    subst x1
    rw [hQ]
    exact ⟨g3, X, x2, x3⟩
  cases v with
  | false => exact p_it1 rfl (s35 true rfl)
  | true => exact p_it0 z_1 (s35 false rfl)
theorem q_cause {a b c k : Int} {n : Nat} {P : Nat → List Row} {vw : Nat} {F : Int → Int} (hk : (-2147483648) ≤ k ∧ k ≤ 2147483647) (ok : (shp M).ok) (hn : (shp M).nf = (n : Int)) (k2 : K2 M) (sh : SHC (shp M) 4 M) (tp : TXP (shp M) P M) (h1 : mG M 1 0 = 2 ∧ mG M 1 1 = 3) (h11 : 0 ≤ mG M 3 11 ∧ mG M 3 11 ≤ 8) (hv : vw = vwb M) (hl : pw (mX4_lookUp 2 M) (fun q => (12 < n ∧ q.1 = 0 ∧ q.2 = M) ∨ (n ≤ 12 ∧ q.1 = 1 ∧ LK (shp M) P vw F M q.2))) : pw (mX8_cause 1 a b c k M) (fun q => (∀ c j : Int, 65 ≤ c → mG q.2 c j = mG M c j) ∧ ((¬ (n ≤ 12 ∧ (0 ≤ a ∧ a < (shp M).nr) ∧ (shp M).inr a b c) ∧ q.1 = -1) ∨ ((n ≤ 12 ∧ (0 ≤ a ∧ a < (shp M).nr) ∧ (shp M).inr a b c) ∧ ((srn (WDw (shp M) P vw F) n ((shp M).at' a b c).toNat = -1 ∧ q.1 = -1) ∨ ∃ v : Bool, srn (WDw (shp M) P vw F) n ((shp M).at' a b c).toNat = b2i v ∧ ∃ X, X < 256 ∧ FST (shp M) P n vw (fun w => PKq (n : Int) F n w && !(phw (n : Int) w ((shp M).at' a b c) == v)) X ∧ q.1 = nbt X k 8)))) := by
  have nf := ok.nf
  unfold mX8_cause
  refine p_gFc (ji := 1) rfl h1.2 (p_gFc (ji := 0) rfl k2.c3_0 (p_gK (p_call (q_place (r := a) (i := b) (j := c) ok sh) (fun p m y => ?_))))
  obtain ⟨y1, y2⟩ := y
  replace y1 : m = M := y1
  subst y1
  rcases y2 with ⟨w1, w2, e⟩ | ⟨w, e⟩
  · replace e : p = (shp m).at' a b c := e
    have pos := ok.pos w1.1 w1.2 w2
    have s9 := ok.st9 w1.1 w1.2
    obtain ⟨x, hx⟩ := Int.eq_ofNat_of_zero_le (show 0 ≤ p by omega)
    have ex : ((shp m).at' a b c).toNat = x := by omega
    have ex2 : (shp m).at' a b c = (x : Int) := by omega
    rw [ex, ex2, hx]
    refine p_gFc (ji := 0) rfl h1.1 (p_gK (p_call (q_sureness (p := x) ok hn (by omega) k2 sh hl) (fun r m2 y => ?_)))
    rcases y with ⟨u1, u2, u3⟩ | ⟨u1, u2, u3⟩
    · replace u3 : m2 = m := u3
      subst u3
      exact p_it1 u2 (p_ret ⟨fun _ _ _ => rfl, Or.inl ⟨fun w => by omega, rfl⟩⟩)
    · replace u2 : r = srn (WDw (shp m) P vw F) n x := u2
      have lk : LK (shp m) P vw F m m2 := u3
      have fl := lk.2.2.2.2
      refine p_if (fun d => p_ret ⟨fun c j c0 => fl c j (nq_0 (by omega)), Or.inr ⟨⟨u1, w1, w2⟩, Or.inl ⟨?_, rfl⟩⟩⟩) (fun d => ?_)
      · have d : r = -1 := d
        rw [← u2]; exact d
      have d : ¬ r = -1 := d
      have hvb : ∃ v : Bool, r = b2i v := by
        have : r = -1 ∨ r = 0 ∨ r = 1 := by
          rw [u2]; unfold srn
          by_cases c1 : ctn (WDw (shp m) P vw F) (2 ^ n) = 0
          · rw [if_pos c1]; exact Or.inl rfl
          · rw [if_neg c1]
            by_cases c2 : cfa (WDw (shp m) P vw F) n x = 0
            · rw [if_pos c2]; exact Or.inr (Or.inl rfl)
            · rw [if_neg c2]
              by_cases c3 : cfa (WDw (shp m) P vw F) n x = ctn (WDw (shp m) P vw F) (2 ^ n)
              · rw [if_pos c3]; exact Or.inr (Or.inr rfl)
              · rw [if_neg c3]; exact Or.inl rfl
        rcases this with z | z | z
        · exact absurd z d
        · exact ⟨false, z⟩
        · exact ⟨true, z⟩
      obtain ⟨v, hvv⟩ := hvb
      subst hvv
      have wd : WDw (shp m) P vw F = fun w => wth (shp m) P (PKq (n : Int) F n) vw w := funext (fun w => by
        unfold WDw wth; rw [hn, Int.toNat_natCast])
      have ln := srn_ln (S := shp m) (P := P) (n := n) (p := x) (vw := vw) (f := PKq (n : Int) F n) (v := v) (by rw [← wd]; exact u2.symm)
      have h10 : mG m2 1 0 = 2 := (fl 1 0 (nq_0 (by omega))).trans h1.1
      refine p_gFc (ji := 0) rfl h10 (p_gK (p_call (q_causeS (p := x) (v := v) ok hn u1 (by omega) k2 sh tp h11 hv lk ln) (fun r m3 y => ?_)))
      obtain ⟨z1, X, z2, z3⟩ := y
      replace z1 : ∀ c j : Int, ¬ c = 37 → ¬ (c = 36 ∧ (j = 1 ∨ j = 2)) → mG m3 c j = mG m2 c j := z1
      replace z2 : r = (X : Int) := z2
      subst z2
      refine p_call (q_nthBit (T := X) z3.1.1 hk) (fun r m4 y => p_ret ?_)
      obtain ⟨x1, x2⟩ := y
      replace x1 : m4 = m3 := x1
      subst x1
      exact ⟨fun c j c0 => (z1 c j (by omega) (by omega)).trans (fl c j (nq_0 (by omega))), Or.inr ⟨⟨u1, w1, w2⟩, Or.inr ⟨v, u2.symm, X, z3.1.1, z3, x2⟩⟩⟩
  · replace e : p = -1 := e
    subst e
    refine p_gFc (ji := 0) rfl h1.1 (p_gK (p_call (P := fun q => q.2 = m ∧ q.1 = -1) ?_ (fun v m2 y => ?_)))
    · unfold mX4_sureness
      exact p_it1 rfl (p_ret ⟨rfl, rfl⟩)
    · obtain ⟨z1, z2⟩ := y
      replace z1 : m2 = m := z1
      subst z1
      exact p_it1 z2 (p_ret ⟨fun _ _ _ => rfl, Or.inl ⟨fun u => w u.2, rfl⟩⟩)
theorem eq_cause {a b c k : Int} (hk : (-2147483648) ≤ k ∧ k ≤ 2147483647) (h : J3 M) : pw (mX8_cause 1 a b c k M) (fun q1 => pw (mX9_cause 126 a b c k q1.2) (fun q2 => EQ q1 q2)) := by
  have h11 := rd_Told_11 h.1.1.1 (a := 3) rfl
  obtain ⟨P, n, ok, hn, k2, sh, tp, rf, ve, vlt, h1, hl⟩ := look h
  refine p_mono (q_cause (a := a) (b := b) (c := c) hk ok hn k2 sh tp h1 h11 rfl hl) (fun q1 y => ?_)
  obtain ⟨g, y⟩ := y
  obtain ⟨rf2, e1, e2, e3⟩ := rf.f9 (M' := q1.2) (fun c j c0 _ => g c j (by omega))
  obtain ⟨K, hK⟩ := Int.eq_ofNat_of_zero_le rf.2.2.2.1.1
  have h8 := rf.2.2.2.1
  rw [hK, Int.toNat_natCast] at vlt
  refine p_mono (v_cause (a := a) (b := b) (c := c) (k := k) ok hn rf2 (e3.trans hK)) (fun q2 z => ?_)
  rw [e1, e2, ve] at z
  have sr : srn (WDw (shp M) P (vwb M) (knR (shp M) M)) n ((shp M).at' a b c).toNat = srn (WDr (shp M) P K (vwb M) (knR (shp M) M) n) n ((shp M).at' a b c).toNat := srn_congr (fun w hw => wd_eq hn vlt (by omega) hw)
  show q1.1 = q2.1
  rcases y with ⟨u, v⟩ | ⟨u, v⟩
  · rcases z with ⟨w, x⟩ | ⟨w, x⟩
    · rw [v, x]
    · exact absurd w u
  · rcases z with ⟨w, x⟩ | ⟨w, x⟩
    · exact absurd u w
    · rcases v with ⟨v1, v2⟩ | ⟨bv, v1, X, x8, v2, v3⟩
      · rcases x with ⟨x1, x2⟩ | ⟨bw, x1, x2⟩
        · rw [v2, x2]
        · rw [← sr, v1] at x1
          have := b2i_b bw
          omega
      · rcases x with ⟨x1, x2⟩ | ⟨bw, x1, x2⟩
        · rw [← sr, v1] at x1
          have := b2i_b bv
          omega
        · have eb : bv = bw := by
            rw [← sr, v1] at x1
            cases bv <;> cases bw <;> first | rfl | exact absurd x1 (by decide)
          subst eb
          exact fst_eq (fun w hw => by unfold PKq; rw [Int.toNat_natCast, decide_eq_true hw, Bool.true_and]) (Or.inr ⟨X, x8, v2, v3⟩) x2
end
theorem j3_causeE {M : Mem} {l1 l2 l3 l4 : Int} (r1 : (-2147483648) ≤ l1 ∧ l1 ≤ 2147483647) (r2 : (-2147483648) ≤ l2 ∧ l2 ≤ 2147483647) (r3 : (-2147483648) ≤ l3 ∧ l3 ≤ 2147483647) (r4 : (-2147483648) ≤ l4 ∧ l4 ≤ 2147483647) (h : J3 M) : wp (mX8_cause 1 l1 l2 l3 l4 M) (fun q1 => wp (mX9_cause 126 l1 l2 l3 l4 q1.2) (fun q2 => J3 q2.2 ∧ EQ q1 q2)) := J3.e (M := M) (j3_cause r1 r2 r3 r4 h) (eq_cause r4 h)
