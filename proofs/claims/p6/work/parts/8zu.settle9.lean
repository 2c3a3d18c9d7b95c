/-! ===== the reference's settle ===== -/
section
variable {S : SH} {P : Nat → List Row} {M : Mem}
theorem v_settle {what : Int} {n K : Nat} (ok : S.ok) (hn : S.nf = (n : Int)) (rf : RFB S P M) (hK : mG M 138 0 = (K : Int)) : pw (mX9_settle 126 what M) (fun q => STG S (WDr S P K (tvb M) (knR S M) n) n what q.1) := by
  have h8 := rf.2.2.2.1
  have n4 := ok.2.1
  obtain ⟨WD, hWD⟩ : ∃ WD, WD = WDr S P K (tvb M) (knR S M) n := ⟨_, rfl⟩
  rw [← hWD]
  obtain ⟨Q, hQ⟩ : ∃ Q : Int × Mem → Prop, Q = fun q => STG S WD n what q.1 := ⟨_, rfl⟩
  rw [← hQ]
  have bad : ∀ m, ¬ (n ≤ 12 ∧ 0 < n ∧ ¬ ctn WD (2 ^ n) = 0 ∧ 0 ≤ what ∧ what ≤ 3) → pw (some (((-1) : Int), m)) Q := fun m h => by
    rw [hQ]
    exact p_ret (Or.inl ⟨h, rfl⟩)
  unfold mX9_settle
  refine p_pF (ji := 0) rfl (fun m1 h1 => ?_)
  have g1 : ∀ c j : Int, ¬ c = 126 → mG m1 c j = mG M c j := fun c j x => st_ne h1 (fun w => x w.1)
  have k1 : K9 m1 := rf.1.kp (fun j hj => st_ne h1 (fun w => by omega))
  refine p_gK (p_call (v_can ok rf k1 (fun c j x _ _ => g1 c j x)) (fun v m2 y => ?_))
  obtain ⟨rb, y⟩ := y
  rcases y with ⟨z1, z2⟩ | ⟨z1, z2⟩
  · exact p_it1 z2 (bad _ (fun w => by omega))
  replace z2 : v = 1 := z2
  have n12 : n ≤ 12 := by omega
  refine p_it0 (show ¬ v = 0 by omega) (p_gK (p_call (v_manyFacts ok rb.1.1 rb.1.2.1) (fun v m3 y => ?_)))
  obtain ⟨y1, y2⟩ := y
  replace y1 : m3 = m2 := y1
  replace y2 : v = S.nf := y2
  subst y1
  rw [hn] at y2
  subst y2
  refine p_if (fun c => bad _ (fun w => by have c : ((n : Nat) : Int) = 0 := c; omega)) (fun c => ?_)
  have n0 : 0 < n := by have c : ¬ ((n : Nat) : Int) = 0 := c; omega
  refine p_call w_in (fun v m4 y => ?_)
  obtain ⟨e, y⟩ := y
  replace e : m4 = m3 := e
  subst e
  rcases y with ⟨c1, hv⟩ | ⟨c1, hv⟩
  · replace hv : v = 1 := hv
    refine p_it0 (show ¬ v = 0 by omega) (p_gK (p_call (v_countFacts ok hn n12 h8 hK rb) (fun v m5 y => ?_)))
    obtain ⟨⟨d1, d2⟩, k5, sh5, _⟩ := y
    rw [← hWD] at d1 d2
    replace d1 : mG m5 126 57 = ((ctn WD (2 ^ n) : Nat) : Int) := d1
    replace d2 : ∀ f : Nat, f < n → mG m5 164 (f : Int) = ((cfa WD n f : Nat) : Int) := d2
    replace k5 : K9 m5 := k5
    replace sh5 : RSH S m5 := sh5
    have cb := ctn_le WD (2 ^ n)
    have p12 : 2 ^ n ≤ 2 ^ 12 := Nat.pow_le_pow_right (n := 2) (by decide) n12
    refine p_gFc (ji := 57) rfl d1 (p_if (fun c2 => bad _ (fun w => w.2.2.1 (by omega))) (fun c2 => ?_))
    have nz : ¬ ctn WD (2 ^ n) = 0 := by omega
    -- the end: where the best stands
    have l125 : ∀ (fu r : Nat) (p : Nat), (r : Int) < S.nr → amn (grt WD n) n = (p : Int) → S.st r ≤ (p : Int) → pw (mX9_settle_125 fu 126 what (p : Int) ((grt WD n p : Nat) : Int) (r : Int) m5) Q := by
      intro fu
      induction fu with
      | zero => intro r p _ _ _; exact p_none
      | succ fu ih =>
        intro r p hr hp hs
        show pw (bX9_settle_125 (mX9_settle_125 fu) 126 what (p : Int) _ (r : Int) m5) _
        have ar := amn_rg (grt WD n) n
        have kk := ok.2.2 (r : Int) (by omega) hr
        have z2 := zv_c ok (r := (r : Int)) (by omega) hr
        have s9 := ok.st9 (r := (r : Int)) (by omega) hr
        rw [Int.toNat_natCast] at s9
        have e0 := sh5.2.2 r (by omega)
        have e1 := sh5.2.2 (r + 1) (by omega)
        have e2 := (sh5.2.1.2 (r : Int) (by omega) hr).2
        unfold bX9_settle_125
        rw [wI_s (p := r) (by omega)]
        refine p_gFc (ji := 27) rfl k5.c27 (p_aGc e1 (p_if (fun c3 => ?_) (fun c3 => ?_)))
        · have ra : rAt S p r := ⟨hr, hs, c3⟩
          have fin : ∀ (y : Int) (m : Mem), y = outv S r p (grt WD n p) what → pw (some (y, m)) Q := fun y m hy => by
            rw [hQ]
            exact p_ret (Or.inr ⟨⟨n12, n0, nz, c1.1, c1.2⟩, p, r, hp, ra, hy⟩)
          refine p_gFc (ji := 10) rfl k5.c10 (p_aGc e2 (p_gK (p_call (v_sizeOf k5 sh5.1 kk.2) (fun v m6 y => ?_))))
          obtain ⟨y1, y2⟩ := y
          replace y1 : m6 = m5 := y1
          replace y2 : v = S.zv (S.k2 r) := y2
          subst y1; subst y2
          refine p_if (fun c4 => fin _ _ ?_) (fun c4 => p_if (fun c5 => ?_) (fun c5 => p_if (fun c6 => fin _ _ ?_) (fun c6 => ?_)))
          · unfold outv; rw [if_pos c4]
          · refine p_gFc (ji := 27) rfl k5.c27 (p_aGc e0 ?_)
            rw [wI_id (x := (p : Int) - S.st r) (by omega) (by omega)]
            refine p_dQc (idiv_e (by omega) (by omega) (by omega) (by omega)) (fin _ _ ?_)
            unfold outv; rw [if_neg c4, if_pos c5]
          · unfold outv; rw [if_neg c4, if_neg c5, if_neg (by omega)]
          · have w2 : what = 2 := by omega
            refine p_gFc (ji := 10) rfl k5.c10 (p_aGc e2 (p_if (fun c7 => fin _ _ ?_) (fun c7 => ?_)))
            · unfold outv; rw [if_neg c4, if_neg c5, if_pos w2, if_pos c7]
            · refine p_gFc (ji := 27) rfl k5.c27 (p_aGc e0 ?_)
              rw [wI_id (x := (p : Int) - S.st r) (by omega) (by omega)]
              refine p_dMc (irem_e (by omega) (by omega) (by omega) (by omega)) (fin _ _ ?_)
              unfold outv; rw [if_neg c4, if_neg c5, if_pos w2, if_neg c7]
        · have r1 : ((r + 1 : Nat) : Int) < S.nr := by
            apply Classical.byContradiction
            intro hno
            have e : S.nr.toNat = r + 1 := by omega
            have : S.nf = S.st S.nr.toNat := rfl
            rw [e] at this
            omega
          exact ih (r + 1) p r1 hp (by omega)
    have l50 : ∀ (fu f : Nat) (least : Int), f ≤ n → least = (if amn (grt WD n) f = -1 then 0 else ((grt WD n (amn (grt WD n) f).toNat : Nat) : Int)) → pw (mX9_settle_50 fu 126 what (amn (grt WD n) f) least (f : Int) m5) Q := by
      intro fu
      induction fu with
      | zero => intro f least _ _; exact p_none
      | succ fu ih =>
        intro f least hf hl
        show pw (bX9_settle_50 (mX9_settle_50 fu) 126 what _ least (f : Int) m5) _
        have ar := amn_rg (grt WD n) f
        unfold bX9_settle_50
        refine p_gK (p_call (v_manyFacts ok k5 sh5) (fun v m6 y => ?_))
        obtain ⟨y1, y2⟩ := y
        replace y1 : m6 = m5 := y1
        replace y2 : v = S.nf := y2
        subst y1
        rw [hn] at y2
        subst y2
        refine p_if (fun c3 => ?_) (fun c3 => ?_)
        · have e : f = n := by omega
          rw [e] at hl ar ⊢
          obtain ⟨p, hp⟩ := Int.eq_ofNat_of_zero_le (ar.2.2 n0)
          rw [hp, if_neg (by omega), Int.toNat_natCast] at hl
          rw [hp, hl]
          exact l125 FU 0 p (by
            apply Classical.byContradiction
            intro hno
            have e : S.nr.toNat = 0 := by omega
            have : S.nf = S.st S.nr.toNat := rfl
            rw [e] at this
            have : S.st 0 = 0 := rfl
            omega) hp (by
            have : S.st 0 = 0 := rfl
            omega)
        · have f1 : f < n := by omega
          have df := d2 f f1
          have cl := cfa_le WD n f
          have am : amn (grt WD n) (f + 1) = if amn (grt WD n) f = -1 ∨ grt WD n f < grt WD n (amn (grt WD n) f).toNat then (f : Int) else amn (grt WD n) f := rfl
          have s97 : ∀ x : Int, x = ((grt WD n f : Nat) : Int) → pw (mX9_settle_97 (mX9_settle_50 fu) 126 what (amn (grt WD n) f) least (f : Int) x m6) Q := fun x hx => by
            have take : (amn (grt WD n) f = -1 ∨ grt WD n f < grt WD n (amn (grt WD n) f).toNat) → pw (mX9_settle_110 (mX9_settle_50 fu) 126 what (f : Int) x m6) Q := fun h => by
              unfold mX9_settle_110 mX9_settle_116
              rw [wI_s (p := f) (by omega)]
              have i := ih (f + 1) x (by omega)
              rw [am.trans (if_pos h)] at i
              exact i (by rw [if_neg (by omega), Int.toNat_natCast]; exact hx)
            unfold mX9_settle_97
            refine p_if (fun c4 => take (Or.inl c4)) (fun c4 => p_if (fun c5 => ?_) (fun c5 => take (Or.inr ?_)))
            · rw [if_neg c4] at hl
              unfold mX9_settle_116
              rw [wI_s (p := f) (by omega)]
              have i := ih (f + 1) least (by omega)
              have am2 : amn (grt WD n) (f + 1) = amn (grt WD n) f := am.trans (if_neg (fun w => by
                rcases w with w | w
                · exact c4 w
                · omega))
              rw [am2] at i
              exact i (by rw [if_neg c4]; exact hl)
            · rw [if_neg c4] at hl
              omega
          refine p_gFc (ji := 56) rfl k5.c56 (p_aGc df (p_gFc (ji := 57) rfl d1 ?_))
          rw [wI_id (x := 2 * ((cfa WD n f : Nat) : Int)) (by omega) (by omega)]
          refine p_if (fun c4 => p_gFc (ji := 57) rfl d1 (p_gFc (ji := 56) rfl k5.c56 (p_aGc df ?_))) (fun c4 => p_gFc (ji := 56) rfl k5.c56 (p_aGc df (s97 _ ?_)))
          · rw [wI_id (x := ((ctn WD (2 ^ n) : Nat) : Int) - ((cfa WD n f : Nat) : Int)) (by omega) (by omega)]
            refine s97 _ ?_
            unfold grt
            by_cases c5 : cfa WD n f < ctn WD (2 ^ n) - cfa WD n f
            · rw [if_pos c5]; omega
            · rw [if_neg c5]; omega
          · unfold grt
            rw [if_neg (by omega)]
    exact l50 FU 0 0 (Nat.zero_le _) rfl
  · replace hv : v = 0 := hv
    exact p_it1 hv (bad _ (fun w => c1 ⟨w.2.2.2.1, w.2.2.2.2⟩))
end
theorem eq_settle {M : Mem} {what : Int} (h : J3 M) : pw (mX8_settle 1 what M) (fun q1 => pw (mX9_settle 126 what q1.2) (fun q2 => EQ q1 q2)) := by
  obtain ⟨P, n, ok, hn, k2, sh, tp, rf, ve, vlt, h1, hl⟩ := look h
  refine p_mono (q_settle (what := what) ok hn k2 sh h1 hl) (fun q1 y => ?_)
  obtain ⟨fl, y⟩ := y
  obtain ⟨rf2, e1, e2, e3⟩ := rf.f9 fl.f9
  obtain ⟨K, hK⟩ := Int.eq_ofNat_of_zero_le rf.2.2.2.1.1
  have h8 := rf.2.2.2.1
  rw [hK, Int.toNat_natCast] at vlt
  refine p_mono (v_settle (what := what) ok hn rf2 (e3.trans hK)) (fun q2 z => ?_)
  rw [e1, e2, ve] at z
  exact STG.eq ok (fun w hw => wd_eq hn vlt (by omega) hw) y z
theorem j3_settleE {M : Mem} {l1 : Int} (r1 : (-2147483648) ≤ l1 ∧ l1 ≤ 2147483647) (h : J3 M) : wp (mX8_settle 1 l1 M) (fun q1 => wp (mX9_settle 126 l1 q1.2) (fun q2 => J3 q2.2 ∧ EQ q1 q2)) := J3.e (M := M) (j3_settle r1 h) (eq_settle h)
