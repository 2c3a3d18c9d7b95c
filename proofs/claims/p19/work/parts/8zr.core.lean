section
/-! ===== core and cause ===== -/
def Tog (fr : Nat → Bool) (so : Nat → Nat) (N T : Nat) : Prop := ∃ u, u < N ∧ fr u = true ∧ subs T (so u)
section
variable {S : SH} {P : Nat → List Row} {m : Mem} {fr : Nat → Bool} {so : Nat → Nat} {N : Nat}
theorem v_isTogether {T : Nat} (hT : T < 256) (hso : ∀ u, so u < 256) (k9 : K9 m) (tg : TGS fr so N m) : pw (mX9_isTogether 126 (T : Int) m) (fun q => q.2 = m ∧ ((Tog fr so N T ∧ q.1 = 1) ∨ (¬ Tog fr so N T ∧ q.1 = 0))) := by
  have loop : ∀ (fu t : Nat), t ≤ 256 → (∀ x : Nat, x < t → mG m 163 (x : Int) = 1 → ¬ subs T x) → pw (mX9_isTogether_2 fu 126 (T : Int) (t : Int) m) (fun q => q.2 = m ∧ ((Tog fr so N T ∧ q.1 = 1) ∨ (¬ Tog fr so N T ∧ q.1 = 0))) := by
    intro fu
    induction fu with
    | zero => intro t _ _; exact p_none
    | succ fu ih =>
      intro t ht hx
      show pw (bX9_isTogether_2 (mX9_isTogether_2 fu) 126 (T : Int) (t : Int) m) _
      unfold bX9_isTogether_2
      refine p_if (fun c => p_ret ⟨rfl, Or.inr ⟨?_, rfl⟩⟩) (fun c => ?_)
      · rintro ⟨u, u1, u2, u3⟩
        have l := hso u
        rcases tg (so u) l with ⟨_, z⟩ | ⟨z, _⟩
        · exact z ⟨u, u1, u2, rfl⟩
        · exact hx (so u) (by omega) z u3
      · have t8 : t < 256 := by omega
        have go : (mG m 163 (t : Int) = 1 → ¬ subs T t) → pw (mX9_isTogether_28 (mX9_isTogether_2 fu) 126 (T : Int) (t : Int) m) (fun q => q.2 = m ∧ ((Tog fr so N T ∧ q.1 = 1) ∨ (¬ Tog fr so N T ∧ q.1 = 0))) := fun h => by
          unfold mX9_isTogether_28
          rw [wI_s (p := t) (by omega)]
          refine ih (t + 1) (by omega) (fun x hx2 => ?_)
          by_cases e : x = t
          · rw [e]; exact h
          · exact hx x (by omega)
        refine p_gFc (ji := 55) rfl k9.c55 (p_aG (fun v hv => p_if (fun z => go (fun e => by omega)) (fun z => p_if (fun c2 => p_ret ⟨rfl, Or.inl ⟨?_, rfl⟩⟩) (fun c2 => go (fun _ w => c2 ((sub_i hT t8).mpr w))))))
        rcases tg t t8 with ⟨e, _⟩ | ⟨_, u, u1, u2, u3⟩
        · omega
        · exact ⟨u, u1, u2, by rw [u3]; exact (sub_i hT t8).mp c2⟩
  exact loop FU 0 (by omega) (fun x hx => absurd hx (by omega))
theorem key_pop {a b : Nat} (ha : a < 256) (hb : b < 256) (h : pop8 b < pop8 a) : ¬ key8 a < key8 b := by
  have r1 := rev_lt a ha
  have r2 := rev_lt b hb
  unfold key8
  omega
/-- the first of those that aren't together, or none -/
def FAP (fr : Nat → Bool) (so : Nat → Nat) (N vw L : Nat) (core few : Int) : Prop := (core = -1 ∧ few = 9 ∧ ∀ U, U < L → subs U vw → Tog fr so N U) ∨ (∃ X : Nat, core = (X : Int) ∧ few = ((pop8 X : Nat) : Int) ∧ (X < 256 ∧ subs X vw ∧ ¬ Tog fr so N X) ∧ ∀ U, U < L → subs U vw → ¬ Tog fr so N U → ¬ key8 U < key8 X)
theorem v_fewestApart {vw : Nat} (hso : ∀ u, so u < 256) (k9 : K9 m) (h8 : 0 ≤ mG m 138 0 ∧ mG m 138 0 ≤ 8) (tg : TGS fr so N m) (hv : tvb m = vw) (v8 : vw < 256) : pw (mX9_fewestApart 126 m) (fun q => q.2 = m ∧ ∃ few, FAP fr so N vw 256 q.1 few) := by
  obtain ⟨Q, hQ⟩ : ∃ Q : Int × Mem → Prop, Q = fun q => q.2 = m ∧ ∃ few, FAP fr so N vw 256 q.1 few := ⟨_, rfl⟩
  rw [← hQ]
  have l13 : ∀ (fu T : Nat) (core few : Int), T ≤ 256 → FAP fr so N vw T core few → pw (mX9_fewestApart_13 fu 126 (vw : Int) core few (T : Int) m) Q := by
    intro fu
    induction fu with
    | zero => intro T core few _ _; exact p_none
    | succ fu ih =>
      intro T core few hT fa
      show pw (bX9_fewestApart_13 (mX9_fewestApart_13 fu) 126 (vw : Int) core few (T : Int) m) _
      unfold bX9_fewestApart_13
      refine p_if (fun c => p_ret ?_) (fun c => ?_)
      · rw [hQ]
        rw [show T = 256 by omega] at fa
        exact ⟨rfl, few, fa⟩
      have T8 : T < 256 := by omega
      have pT := pop_b T T8
      have stay : (subs T vw → (Tog fr so N T ∨ ∃ X : Nat, core = (X : Int) ∧ X < 256 ∧ ¬ key8 T < key8 X)) → pw (mX9_fewestApart_97 (mX9_fewestApart_13 fu) 126 (vw : Int) core few (T : Int) m) Q := fun h => by
        unfold mX9_fewestApart_97
        rw [wI_s (p := T) (by omega)]
        refine ih (T + 1) core few (by omega) ?_
        rcases fa with ⟨a, b, d⟩ | ⟨X, a, b, d, e⟩
        · refine Or.inl ⟨a, b, fun U hU us => ?_⟩
          by_cases z : U = T
          · rw [z] at us ⊢
            rcases h us with w | ⟨X, w, _⟩
            · exact w
            · omega
          · exact d U (by omega) us
        · refine Or.inr ⟨X, a, b, d, fun U hU us ut => ?_⟩
          by_cases z : U = T
          · rw [z] at us ut ⊢
            rcases h us with w | ⟨Y, w, _, w3⟩
            · exact absurd w ut
            · have : X = Y := by omega
              rw [this]; exact w3
          · exact e U (by omega) us ut
      have take : subs T vw → ¬ Tog fr so N T → (∀ X : Nat, core = (X : Int) → X < 256 → key8 T < key8 X) → pw (mX9_fewestApart_91 (mX9_fewestApart_13 fu) 126 (vw : Int) (T : Int) ((pop8 T : Nat) : Int) m) Q := fun ts tt hk => by
        unfold mX9_fewestApart_91 mX9_fewestApart_97
        rw [wI_s (p := T) (by omega)]
        refine ih (T + 1) (T : Int) _ (by omega) (Or.inr ⟨T, rfl, rfl, ⟨T8, ts, tt⟩, fun U hU us ut => ?_⟩)
        by_cases z : U = T
        · rw [z]; omega
        · rcases fa with ⟨a, b, d⟩ | ⟨X, a, b, d, e⟩
          · exact absurd (d U (by omega) us) ut
          · have := hk X a d.1
            have := e U (by omega) us ut
            omega
      have l27 : ∀ (fu2 s : Nat), s ≤ 8 → pw (mX9_fewestApart_27 (mX9_fewestApart_13 fu) fu2 126 (vw : Int) core few (T : Int) ((ctn (fun x => T.testBit x) s : Nat) : Int) (s : Int) m) Q := by
        intro fu2
        induction fu2 with
        | zero => intro s _; exact p_none
        | succ fu2 ih2 =>
          intro s hs
          show pw (bX9_fewestApart_27 (mX9_fewestApart_13 fu) (mX9_fewestApart_27 (mX9_fewestApart_13 fu) fu2) 126 (vw : Int) core few (T : Int) _ (s : Int) m) _
          unfold bX9_fewestApart_27
          refine p_if (fun d => ?_) (fun d => ?_)
          · have e8 : s = 8 := by omega
            subst e8
            rw [pop8_c]
            refine p_if (fun c1 => ?_) (fun c1 => stay (fun w => absurd ((sub_i T8 v8).mpr w) c1))
            have ts := (sub_i T8 v8).mp c1
            refine p_if (fun c2 => stay (fun _ => ?_)) (fun c2 => ?_)
            · rcases fa with ⟨a, b, d⟩ | ⟨X, a, b, d, e⟩
              · omega
              · exact Or.inr ⟨X, a, d.1, key_pop T8 d.1 (by omega)⟩
            · refine p_gK (p_call (v_isTogether T8 hso k9 tg) (fun v m2 y => ?_))
              obtain ⟨y1, y2⟩ := y
              replace y1 : m2 = m := y1
              subst y1
              rcases y2 with ⟨tt, e⟩ | ⟨tt, e⟩
              · replace e : v = 1 := e
                exact p_it0 (show ¬ v = 0 by omega) (stay (fun _ => Or.inl tt))
              · refine p_it1 e (p_if (fun c3 => take ts tt (fun X hX x8 => ?_)) (fun c3 => ?_))
                · rcases fa with ⟨a, b, d⟩ | ⟨Y, a, b, d, e⟩
                  · omega
                  · have : X = Y := by omega
                    rw [this]
                    have r1 := rev_lt T T8
                    have r2 := rev_lt Y d.1
                    unfold key8
                    omega
                · rcases fa with ⟨a, b, d⟩ | ⟨X, a, b, d, e⟩
                  · omega
                  · have pe : pop8 T = pop8 X := by omega
                    have bk := bef_key T8 d.1
                    unfold bef at bk
                    rw [decide_eq_false (show ¬ pop8 T < pop8 X by omega), decide_eq_true pe, Bool.false_or, Bool.true_and] at bk
                    rw [a]
                    refine p_call (w_isLessRow T8 d.1) (fun v m3 y => ?_)
                    obtain ⟨z1, z2⟩ := y
                    replace z1 : m3 = m2 := z1
                    replace z2 : v = b2i (!decide (T &&& lowb (T ^^^ X) = 0)) := z2
                    subst z1
                    rw [bk] at z2
                    rw [← a]
                    refine p_if (fun c4 => stay (fun _ => Or.inr ⟨X, a, d.1, ?_⟩)) (fun c4 => take ts tt (fun Y hY y8 => ?_))
                    · exact of_decide_eq_false (b2i_0.mp (z2.symm.trans c4))
                    · have : Y = X := by omega
                      rw [this]
                      apply Classical.byContradiction
                      intro h
                      rw [decide_eq_false h] at z2
                      exact c4 z2
          · have cl := ctn_le (fun x => T.testBit x) s
            refine p_some (fun b hb => ?_)
            have eb : iand (ishr (T : Int) (s : Int)) 1 = (((T.testBit s).toNat : Nat) : Int) := by
              have e := ishr_e (x := (T : Int)) (k := s) (by omega) (by omega) (by omega)
              have d2 : (T : Int) / 2 ^ s = ((T / 2 ^ s : Nat) : Int) := by
                rw [show (2 : Int) ^ s = ((2 ^ s : Nat) : Int) by simp]; exact (Int.natCast_ediv _ _).symm
              have l : T / 2 ^ s ≤ T := Nat.div_le_self _ _
              rw [e, d2, Nat.testBit_eq_decide_div_mod_eq]
              generalize T / 2 ^ s = y at l ⊢
              rw [iand_nat (by omega) (by omega) (by decide) (by decide), Int.toNat_natCast, show (1 : Int).toNat = 1 by decide, Nat.and_one_is_mod]
              by_cases z : y % 2 = 1
              · rw [decide_eq_true z, z]; rfl
              · rw [decide_eq_false z, show y % 2 = 0 by omega]; rfl
            have tl := Bool.toNat_le (T.testBit s)
            rw [eb, wI_id (x := ((ctn (fun x => T.testBit x) s : Nat) : Int) + (((T.testBit s).toNat : Nat) : Int)) (by omega) (by omega), ← Int.natCast_add] at hb
            subst hb
            rw [wI_s (p := s) (by omega)]
            exact ih2 (s + 1) (by omega)
      exact l27 FU 0 (by omega)
  unfold mX9_fewestApart
  refine p_gK (p_call (v_told k9 h8) (fun v m1 y => ?_))
  obtain ⟨y1, y2⟩ := y
  replace y1 : m1 = m := y1
  replace y2 : v = ((tvb m1 : Nat) : Int) := by rw [y1]; exact y2
  subst y1
  rw [hv] at y2
  subst y2
  exact l13 FU 0 (-1) 9 (by omega) (Or.inl ⟨rfl, rfl, fun U hU => absurd hU (by omega)⟩)
/-- leaving nothing: not together -/
theorem ln_tog {n vw K T : Nat} {f : Nat → Bool} (hv : vw < 2 ^ K) (hT : T < 256) (ts : subs T vw) (hf : ∀ w, w < 2 ^ n → f w = fr w) : LN S P n f T ↔ ¬ Tog fr (fun w => sof S P vw w K) (2 ^ n) T := by
  have key : ∀ w, subs T (sof S P vw w K) ↔ allb (stw S P T w) 8 = true := fun w => by
    rw [allb_t]
    constructor
    · intro h s hs
      unfold stw
      cases e : T.testBit s with
      | false => rfl
      | true =>
        have := h s e
        unfold sof at this
        rw [bitsOf_b] at this
        have := (Bool.and_eq_true_iff.mp this).2
        exact (Bool.and_eq_true_iff.mp this).2
    · intro h s hs
      have vs := ts s hs
      have sK : s < K := by
        apply Classical.byContradiction
        intro h2
        have := Nat.testBit_lt_two_pow (Nat.lt_of_lt_of_le hv (Nat.pow_le_pow_right (n := 2) (by decide) (show K ≤ s by omega)))
        rw [vs] at this
        cases this
      have s8 : s < 8 := by
        apply Classical.byContradiction
        intro h2
        have := Nat.testBit_lt_two_pow (Nat.lt_of_lt_of_le hT (Nat.pow_le_pow_right (n := 2) (by decide) (show 8 ≤ s by omega)))
        rw [hs] at this
        cases this
      have := h s s8
      unfold stw at this
      rw [hs] at this
      unfold sof
      rw [bitsOf_b, decide_eq_true sK, vs]
      exact this
  constructor
  · rintro h ⟨u, u1, u2, u3⟩
    have := h u u1
    unfold wth at this
    rw [hf u u1, u2, (key u).mp u3] at this
    cases this
  · intro h w hw
    unfold wth
    cases e : f w with
    | false => rfl
    | true =>
      cases e2 : allb (stw S P T w) 8 with
      | false => rfl
      | true => exact absurd ⟨w, hw, by rw [← hf w hw]; exact e, (key w).mpr e2⟩ h
/-- both sides' first one -/
theorem fap_fst {n vw K : Nat} {f : Nat → Bool} {core few : Int} (hv : vw < 2 ^ K) (hK : K ≤ 8) (hf : ∀ w, w < 2 ^ n → f w = fr w) (h : FAP fr (fun w => sof S P vw w K) (2 ^ n) vw 256 core few) : (core = -1 ∧ ¬ LN S P n f vw) ∨ ∃ X : Nat, core = (X : Int) ∧ FST S P n vw f X := by
  have v8 : vw < 256 := Nat.lt_of_lt_of_le hv (Nat.pow_le_pow_right (n := 2) (by decide) hK)
  rcases h with ⟨a, _, b⟩ | ⟨X, a, _, ⟨b, c, d⟩, e⟩
  · exact Or.inl ⟨a, fun w => (ln_tog hv v8 (fun _ h => h) hf).mp w (b vw v8 (fun _ h => h))⟩
  · exact Or.inr ⟨X, a, ⟨b, c, (ln_tog hv b c hf).mpr d⟩, fun T hT ts tl => e T hT ts ((ln_tog hv hT ts hf).mp tl)⟩
end
theorem nbt_0 (k : Int) : ∀ d : Nat, nbt 0 k d = -1 := by
  intro d
  induction d with
  | zero => rfl
  | succ d ih =>
    show (if (0 : Nat).testBit (7 - d) = true then _ else nbt 0 k d) = -1
    rw [Nat.zero_testBit, if_neg (by decide)]
    exact ih
section
variable {S : SH} {P : Nat → List Row} {M : Mem}
theorem v_core {k : Int} {n K : Nat} (ok : S.ok) (hn : S.nf = (n : Int)) (rf : RFB S P M) (hK : mG M 138 0 = (K : Int)) : pw (mX9_core 126 k M) (fun q => (12 < n ∧ q.1 = -1) ∨ (n ≤ 12 ∧ ((¬ LN S P n (fun w => allb (okp (n : Int) (knR S M) w) n) (tvb M) ∧ q.1 = -1) ∨ ∃ X, X < 256 ∧ FST S P n (tvb M) (fun w => allb (okp (n : Int) (knR S M) w) n) X ∧ q.1 = nbt X k 8))) := by
  have h8 := rf.2.2.2.1
  have K8 : K ≤ 8 := by omega
  have vl := tvb_lt hK
  have p8 : 2 ^ K ≤ 2 ^ 8 := Nat.pow_le_pow_right (n := 2) (by decide) K8
  unfold mX9_core
  refine p_pF (ji := 0) rfl (fun m1 h1 => ?_)
  have g1 : ∀ c j : Int, ¬ c = 126 → mG m1 c j = mG M c j := fun c j x => st_ne h1 (fun w => x w.1)
  have k1 : K9 m1 := rf.1.kp (fun j hj => st_ne h1 (fun w => by omega))
  refine p_gK (p_call (v_can ok rf k1 (fun c j x _ _ => g1 c j x)) (fun v m2 y => ?_))
  obtain ⟨rb, y⟩ := y
  rcases y with ⟨z1, z2⟩ | ⟨z1, z2⟩
  · exact p_it1 z2 (p_ret (Or.inl ⟨by omega, rfl⟩))
  replace z2 : v = 1 := z2
  have n12 : n ≤ 12 := by omega
  refine p_it0 (show ¬ v = 0 by omega) (p_gK (p_call (v_findTogether (bs := false) ok hn n12 h8 hK (Or.inl rfl) rfl rb.c) (fun v m3 y => ?_)))
  obtain ⟨tg, rt, et⟩ := y
  replace tg : TGS (frw n (knR S M) (-1) false) (fun w => sof S P (tvb M) w K) (2 ^ n) m3 := tg
  replace rt : RTg S P (K : Int) (knR S M) n m3 := rt
  replace et : tvb m3 = tvb M := et
  have hso : ∀ u, sof S P (tvb M) u K < 256 := fun u => Nat.lt_of_lt_of_le (bitsOf_lt _ _) p8
  refine p_gK (p_call (v_fewestApart hso rt.1.1 (by rw [rt.2.1.1]; omega) tg et (by omega)) (fun core m4 y => ?_))
  obtain ⟨y1, few, fa⟩ := y
  replace y1 : m4 = m3 := y1
  replace fa : FAP (frw n (knR S M) (-1) false) (fun w => sof S P (tvb M) w K) (2 ^ n) (tvb M) 256 core few := fa
  subst y1
  have hf : ∀ w, w < 2 ^ n → (fun w => allb (okp (n : Int) (knR S M) w) n) w = frw n (knR S M) (-1) false w := fun w _ => by
    unfold frw
    show allb _ n = (allb _ n && (decide ((-1 : Int) = -1) || _))
    rw [decide_eq_true rfl, Bool.true_or, Bool.and_true]
  rcases fap_fst vl K8 hf fa with ⟨a, b⟩ | ⟨X, a, b⟩
  · rw [a]
    exact p_call w_numberN (fun v m5 y => p_ret (Or.inr ⟨n12, Or.inl ⟨b, y.2⟩⟩))
  · rw [a]
    exact p_call (w_numberIn b.1.1) (fun v m5 y => p_ret (Or.inr ⟨n12, Or.inr ⟨X, b.1.1, b, y.2⟩⟩))
theorem v_cause {a b c k : Int} {n K : Nat} (ok : S.ok) (hn : S.nf = (n : Int)) (rf : RFB S P M) (hK : mG M 138 0 = (K : Int)) : pw (mX9_cause 126 a b c k M) (fun q => (¬ (n ≤ 12 ∧ (0 ≤ a ∧ a < S.nr) ∧ S.inr a b c) ∧ q.1 = -1) ∨ ((n ≤ 12 ∧ (0 ≤ a ∧ a < S.nr) ∧ S.inr a b c) ∧ ((srn (WDr S P K (tvb M) (knR S M) n) n (S.at' a b c).toNat = -1 ∧ q.1 = -1) ∨ ∃ v : Bool, srn (WDr S P K (tvb M) (knR S M) n) n (S.at' a b c).toNat = b2i v ∧ ((¬ LN S P n (fun w => allb (okp (n : Int) (knR S M) w) n && !(phw (n : Int) w (S.at' a b c) == v)) (tvb M) ∧ q.1 = -1) ∨ ∃ X, X < 256 ∧ FST S P n (tvb M) (fun w => allb (okp (n : Int) (knR S M) w) n && !(phw (n : Int) w (S.at' a b c) == v)) X ∧ q.1 = nbt X k 8)))) := by
  have h8 := rf.2.2.2.1
  have K8 : K ≤ 8 := by omega
  have vl := tvb_lt hK
  have p8 : 2 ^ K ≤ 2 ^ 8 := Nat.pow_le_pow_right (n := 2) (by decide) K8
  unfold mX9_cause
  refine p_pF (ji := 0) rfl (fun m1 h1 => ?_)
  have g1 : ∀ c j : Int, ¬ c = 126 → mG m1 c j = mG M c j := fun c j x => st_ne h1 (fun w => x w.1)
  have k1 : K9 m1 := rf.1.kp (fun j hj => st_ne h1 (fun w => by omega))
  refine p_gK (p_call (v_toldFact (a := a) (b := b) (c := c) ok k1 (rf.2.1.kp (fun c j hc => g1 c j (by omega)))) (fun p m2 y => ?_))
  obtain ⟨⟨k2, _⟩, y2, y3⟩ := y
  replace y2 : FN m1 m2 := y2
  replace k2 : K9 m2 := k2
  have g2 : ∀ c j : Int, ¬ c = 126 → ¬ c = 152 → ¬ c = 153 → mG m2 c j = mG M c j := fun c j x y z => (y2 c j y z).trans (g1 c j x)
  rcases y3 with ⟨w1, w2, e⟩ | ⟨w, e⟩
  · replace e : p = S.at' a b c := e
    have pos := ok.pos w1.1 w1.2 w2
    have s9 := ok.st9 w1.1 w1.2
    refine p_it0 (show ¬ p = -1 by omega) (p_gK (p_call (v_can ok rf k2 g2) (fun v m3 y => ?_)))
    obtain ⟨rb, y⟩ := y
    rcases y with ⟨z1, z2⟩ | ⟨z1, z2⟩
    · exact p_it1 z2 (p_ret (Or.inl ⟨fun w => by omega, rfl⟩))
    replace z2 : v = 1 := z2
    have n12 : n ≤ 12 := by omega
    obtain ⟨x, hx⟩ := Int.eq_ofNat_of_zero_le (show 0 ≤ p by omega)
    have ex : (S.at' a b c).toNat = x := by omega
    have ex2 : S.at' a b c = (x : Int) := by omega
    rw [ex, ex2]
    obtain ⟨WD, hWD⟩ : ∃ WD, WD = WDr S P K (tvb M) (knR S M) n := ⟨_, rfl⟩
    rw [← hWD]
    refine p_it0 (show ¬ v = 0 by omega) (p_gK (p_call (v_countFacts ok hn n12 h8 hK rb) (fun v m4 y => ?_)))
    obtain ⟨⟨c1, c2⟩, k4, sh4, g4⟩ := y
    rw [← hWD] at c1 c2
    replace c1 : mG m4 126 57 = ((ctn WD (2 ^ n) : Nat) : Int) := c1
    have c3 := c2 x (by omega)
    replace c3 : mG m4 164 (x : Int) = ((cfa WD n x : Nat) : Int) := c3
    replace g4 : ∀ c j : Int, 131 ≤ c → c ≤ 149 → mG m4 c j = mG m3 c j := g4
    replace k4 : K9 m4 := k4
    replace sh4 : RSH S m4 := sh4
    have rc : RPC S P M m4 := rb.c.go k4 sh4 g4
    obtain ⟨Q, hQ⟩ : ∃ Q : Int × Mem → Prop, Q = fun q => (¬ (n ≤ 12 ∧ (0 ≤ a ∧ a < S.nr) ∧ S.inr a b c) ∧ q.1 = -1) ∨ ((n ≤ 12 ∧ (0 ≤ a ∧ a < S.nr) ∧ S.inr a b c) ∧ ((srn WD n x = -1 ∧ q.1 = -1) ∨ ∃ v : Bool, srn WD n x = b2i v ∧ ((¬ LN S P n (fun w => allb (okp (n : Int) (knR S M) w) n && !(phw (n : Int) w (x : Int) == v)) (tvb M) ∧ q.1 = -1) ∨ ∃ X, X < 256 ∧ FST S P n (tvb M) (fun w => allb (okp (n : Int) (knR S M) w) n && !(phw (n : Int) w (x : Int) == v)) X ∧ q.1 = nbt X k 8))) := ⟨_, rfl⟩
    rw [← hQ]
    have fin : ∀ (bv : Bool) (iv : Int), iv = b2i bv → srn WD n x = b2i bv → pw (mX9_cause_84 126 k 126 (x : Int) iv m4) Q := fun bv iv hiv hs => by
      unfold mX9_cause_84
      refine p_gK (p_call (v_findTogether (bs := bv) ok hn n12 h8 hK (Or.inr ⟨by omega, by omega⟩) hiv rc) (fun v m5 y => ?_))
      obtain ⟨tg, rt, et⟩ := y
      replace tg : TGS (frw n (knR S M) (x : Int) bv) (fun w => sof S P (tvb M) w K) (2 ^ n) m5 := tg
      replace rt : RTg S P (K : Int) (knR S M) n m5 := rt
      replace et : tvb m5 = tvb M := et
      have hso : ∀ u, sof S P (tvb M) u K < 256 := fun u => Nat.lt_of_lt_of_le (bitsOf_lt _ _) p8
      refine p_gK (p_call (v_fewestApart hso rt.1.1 (by rw [rt.2.1.1]; omega) tg et (by omega)) (fun core m6 y => ?_))
      obtain ⟨y1, few, fa⟩ := y
      replace y1 : m6 = m5 := y1
      replace fa : FAP (frw n (knR S M) (x : Int) bv) (fun w => sof S P (tvb M) w K) (2 ^ n) (tvb M) 256 core few := fa
      subst y1
      have hf : ∀ w, w < 2 ^ n → (fun w => allb (okp (n : Int) (knR S M) w) n && !(phw (n : Int) w (x : Int) == bv)) w = frw n (knR S M) (x : Int) bv w := fun w _ => by
        unfold frw
        show (allb _ n && _) = (allb _ n && (decide ((x : Int) = -1) || _))
        rw [decide_eq_false (by omega), Bool.false_or]
      rw [hQ]
      rcases fap_fst vl K8 hf fa with ⟨a', b'⟩ | ⟨X, a', b'⟩
      · rw [a']
        exact p_call w_numberN (fun v m5 y => p_ret (Or.inr ⟨⟨n12, w1, w2⟩, Or.inr ⟨bv, hs, Or.inl ⟨b', y.2⟩⟩⟩))
      · rw [a']
        exact p_call (w_numberIn b'.1.1) (fun v m5 y => p_ret (Or.inr ⟨⟨n12, w1, w2⟩, Or.inr ⟨bv, hs, Or.inr ⟨X, b'.1.1, b', y.2⟩⟩⟩))
    have s66 : ∀ bv : Bool, srn WD n x = b2i bv → (bv = true ↔ 0 < cfa WD n x) → pw (mX9_cause_66 126 k (x : Int) m4) Q := fun bv hs hb => by
      unfold mX9_cause_66
      refine p_gFc (ji := 56) rfl k4.c56 (p_aGc c3 (p_if (fun d => ?_) (fun d => ?_)))
      · have e : bv = false := by
          cases bv with
          | false => rfl
          | true => have := hb.mp rfl; omega
        exact fin bv 0 (by rw [e]; rfl) hs
      · exact fin bv 1 (by rw [hb.mpr (by omega)]; rfl) hs
    rw [hx]
    refine p_gFc (ji := 57) rfl c1 (p_if (fun d => p_ret ?_) (fun d => p_gFc (ji := 56) rfl k4.c56 (p_aGc c3 (p_if (fun d2 => s66 false ?_ ?_) (fun d2 => p_gFc (ji := 56) rfl k4.c56 (p_aGc c3 (p_gFc (ji := 57) rfl c1 (p_if (fun d3 => s66 true ?_ ?_) (fun d3 => p_ret ?_)))))))))
    · rw [hQ]
      refine Or.inr ⟨⟨n12, w1, w2⟩, Or.inl ⟨?_, rfl⟩⟩
      unfold srn; rw [if_pos (by omega)]
    · unfold srn; rw [if_neg (by omega), if_pos (by omega)]; rfl
    · constructor
      · intro h; cases h
      · intro h; omega
    · unfold srn; rw [if_neg (by omega), if_neg (by omega), if_pos (by omega)]; rfl
    · constructor
      · intro _; omega
      · intro _; rfl
    · rw [hQ]
      refine Or.inr ⟨⟨n12, w1, w2⟩, Or.inl ⟨?_, rfl⟩⟩
      unfold srn; rw [if_neg (by omega), if_neg (by omega), if_neg (by omega)]
  · exact p_it1 e (p_ret (Or.inl ⟨fun u => w u.2, rfl⟩))
end
section
variable {M : Mem}
/-- the class's first one, from what it has looked up -/
theorem trs_of {n : Nat} {P : Nat → List Row} {vw : Nat} {F : Int → Int} {m : Mem} (hn : (shp M).nf = (n : Int)) (tp : TXP (shp M) P M) (hin : ∀ s : Nat, vw.testBit s = true → (s : Int) < mG M 3 11) (lk : LK (shp M) P vw F M m) : TRS (shp M) P (n : Int) vw m := fun s hs hb => by
  obtain ⟨_, _, ca, hj, fl⟩ := lk
  have h11 := hin s hb
  obtain ⟨t1, t2, t3⟩ := (tp.fl fl) s (by rw [fl 3 11 (nq_0 (by omega))]; exact h11)
  have cs := (ca.2 s (by omega) (hj s hs hb)).2.2.2 (P s) (by unfold txs; rw [if_neg (by omega)]; exact t2) t3
  rw [hn] at cs
  exact cs
theorem vw_in {vw : Nat} (hv : vw = vwb M) (h11 : 0 ≤ mG M 3 11 ∧ mG M 3 11 ≤ 8) : vw < 256 ∧ ∀ s : Nat, vw.testBit s = true → (s : Int) < mG M 3 11 := by
  have vlt : vw < 2 ^ (mG M 3 11).toNat := by rw [hv]; exact bitsOf_lt _ _
  refine ⟨Nat.lt_of_lt_of_le vlt (Nat.pow_le_pow_right (n := 2) (by decide) (show (mG M 3 11).toNat ≤ 8 by omega)), fun s h => ?_⟩
  have : s < (mG M 3 11).toNat := by
    apply Classical.byContradiction
    intro h2
    have := Nat.testBit_lt_two_pow (Nat.lt_of_lt_of_le vlt (Nat.pow_le_pow_right (n := 2) (by decide) (show (mG M 3 11).toNat ≤ s by omega)))
    rw [h] at this
    cases this
  omega
theorem q_core {k : Int} {n : Nat} {P : Nat → List Row} {vw : Nat} {F : Int → Int} (hk : (-2147483648) ≤ k ∧ k ≤ 2147483647) (ok : (shp M).ok) (hn : (shp M).nf = (n : Int)) (k2 : K2 M) (tp : TXP (shp M) P M) (h1 : mG M 1 0 = 2) (h11 : 0 ≤ mG M 3 11 ∧ mG M 3 11 ≤ 8) (hv : vw = vwb M) (hl : pw (mX4_lookUp 2 M) (fun q => (12 < n ∧ q.1 = 0 ∧ q.2 = M) ∨ (n ≤ 12 ∧ q.1 = 1 ∧ LK (shp M) P vw F M q.2))) : pw (mX8_core 1 k M) (fun q => FLK M q.2 ∧ ((12 < n ∧ q.1 = -1) ∨ (n ≤ 12 ∧ ((¬ LN (shp M) P n (PKq (n : Int) F n) vw ∧ q.1 = -1) ∨ ∃ X, X < 256 ∧ FST (shp M) P n vw (PKq (n : Int) F n) X ∧ q.1 = nbt X k 8)))) := by
  have nf := ok.nf
  obtain ⟨v8, hin⟩ := vw_in hv h11
  unfold mX8_core
  refine p_gFc (ji := 0) rfl h1 (p_gK (p_call (P := fun q => FLK M q.2 ∧ ((12 < n ∧ q.1 = 0) ∨ (n ≤ 12 ∧ ((¬ LN (shp M) P n (PKq (n : Int) F n) vw ∧ q.1 = 0) ∨ ∃ X : Nat, q.1 = (X : Int) ∧ FST (shp M) P n vw (PKq (n : Int) F n) X)))) ?_ (fun v m y => ?_)))
  · unfold mX4_coreStories
    refine p_gK (p_call hl (fun v m y => ?_))
    rcases y with ⟨a, b, c⟩ | ⟨a, b, c⟩
    · replace c : m = M := c
      subst c
      exact p_it1 b (p_ret ⟨FLK.rf, Or.inl ⟨a, rfl⟩⟩)
    replace b : v = 1 := b
    have lk : LK (shp M) P vw F M m := c
    obtain ⟨w32, w34, _, _, fl⟩ := id lk
    have km := k2.fl fl
    have u := uw_1 n a
    refine p_it0 (show ¬ v = 0 by omega) (p_gFc (ji := 6) rfl km.c2_6 (p_gK (p_call (q_isNothing (l := 34) ⟨nf.1, by omega⟩ w34) (fun r m1 y => ?_))))
    obtain ⟨y1, y2⟩ := y
    replace y1 : m1 = m := y1
    subst y1
    have wd : ∀ w, WDw (shp M) P vw F w = wth (shp M) P (PKq (n : Int) F n) vw w := fun w => by
      unfold WDw wth; rw [hn, Int.toNat_natCast]
    rcases y2 with ⟨z, e⟩ | ⟨z, e⟩
    · replace e : r = 1 := e
      have ln : LN (shp M) P n (PKq (n : Int) F n) vw := fun w hw => by
        rw [← wd]
        refine z w ?_
        rw [hn]; omega
      rw [hn, Int.toNat_natCast] at w32
      refine p_it0 (show ¬ r = 0 by omega) (p_gFc (ji := 5) rfl km.c2_5 (p_gK (p_call (q_fewest (l := 32) (vw := vw) a (fun w hw => by unfold PKq; rw [Int.toNat_natCast, decide_eq_false hw]; rfl) km (by rw [fl 3 11 (nq_0 (by omega))]; exact h11) ((vwb_fl fl).trans hv.symm) v8 w32 (trs_of hn tp hin lk) ln) (fun v m2 y => p_ret ?_))))
      obtain ⟨y1, X, y2, y3⟩ := y
      replace y1 : m2 = m1 := y1
      subst y1
      exact ⟨fl, Or.inr ⟨a, Or.inr ⟨X, y2, y3⟩⟩⟩
    · replace e : r = 0 := e
      refine p_it1 e (p_ret ⟨fl, Or.inr ⟨a, Or.inl ⟨fun ln => ?_, rfl⟩⟩⟩)
      obtain ⟨w, w1, w2⟩ := z
      by_cases hw : w < 2 ^ n
      · have := ln w hw
        rw [← wd, w2] at this
        cases this
      · rw [wd_out hn hw] at w2
        cases w2
  · obtain ⟨fl, y⟩ := y
    replace fl : FLK M m := fl
    have z0 := nbt_0 k 8
    rcases y with ⟨a, b⟩ | ⟨a, ⟨b, c⟩ | ⟨X, b, c⟩⟩
    · replace b : v = 0 := b
      subst b
      refine p_call (q_nthBit (T := 0) (by decide) hk) (fun r m2 y => p_ret ?_)
      obtain ⟨y1, y2⟩ := y
      replace y1 : m2 = m := y1
      subst y1
      exact ⟨fl, Or.inl ⟨a, (show r = _ from y2).trans z0⟩⟩
    · replace c : v = 0 := c
      subst c
      refine p_call (q_nthBit (T := 0) (by decide) hk) (fun r m2 y => p_ret ?_)
      obtain ⟨y1, y2⟩ := y
      replace y1 : m2 = m := y1
      subst y1
      exact ⟨fl, Or.inr ⟨a, Or.inl ⟨b, (show r = _ from y2).trans z0⟩⟩⟩
    · replace b : v = (X : Int) := b
      subst b
      refine p_call (q_nthBit (T := X) c.1.1 hk) (fun r m2 y => p_ret ?_)
      obtain ⟨y1, y2⟩ := y
      replace y1 : m2 = m := y1
      subst y1
      exact ⟨fl, Or.inr ⟨a, Or.inr ⟨X, c.1.1, c, y2⟩⟩⟩
theorem LN.congr {S : SH} {P : Nat → List Row} {n T : Nat} {f g : Nat → Bool} (h : ∀ w, w < 2 ^ n → f w = g w) (k : LN S P n f T) : LN S P n g T := fun w hw => by
  have := k w hw
  unfold wth at this ⊢
  rw [← h w hw]
  exact this
theorem FST.congr {S : SH} {P : Nat → List Row} {n vw X : Nat} {f g : Nat → Bool} (h : ∀ w, w < 2 ^ n → f w = g w) (k : FST S P n vw f X) : FST S P n vw g X :=
  ⟨⟨k.1.1, k.1.2.1, k.1.2.2.congr h⟩, fun T hT ts tl => k.2 T hT ts (tl.congr (fun w hw => (h w hw).symm))⟩
theorem FST.ln {S : SH} {P : Nat → List Row} {n vw X : Nat} {f : Nat → Bool} (k : FST S P n vw f X) : LN S P n f vw := k.1.2.2.mono k.1.2.1
/-- two accounts of the first one say the same -/
theorem fst_eq {S : SH} {P : Nat → List Row} {n vw : Nat} {f g : Nat → Bool} {k x y : Int} (h : ∀ w, w < 2 ^ n → f w = g w) (a : (¬ LN S P n f vw ∧ x = -1) ∨ ∃ X, X < 256 ∧ FST S P n vw f X ∧ x = nbt X k 8) (b : (¬ LN S P n g vw ∧ y = -1) ∨ ∃ X, X < 256 ∧ FST S P n vw g X ∧ y = nbt X k 8) : x = y := by
  rcases a with ⟨a1, a2⟩ | ⟨X, _, a1, a2⟩
  · rcases b with ⟨b1, b2⟩ | ⟨Y, _, b1, b2⟩
    · rw [a2, b2]
    · exact absurd (b1.ln.congr (fun w hw => (h w hw).symm)) a1
  · rcases b with ⟨b1, b2⟩ | ⟨Y, _, b1, b2⟩
    · exact absurd (a1.ln.congr h) b1
    · rw [a2, b2, (a1.congr h).uniq b1]
theorem eq_core {k : Int} (hk : (-2147483648) ≤ k ∧ k ≤ 2147483647) (h : J3 M) : pw (mX8_core 1 k M) (fun q1 => pw (mX9_core 126 k q1.2) (fun q2 => EQ q1 q2)) := by
  have h11 := rd_Told_11 h.1.1.1 (a := 3) rfl
  obtain ⟨P, n, ok, hn, k2, sh, tp, rf, ve, vlt, h1, hl⟩ := look h
  refine p_mono (q_core hk ok hn k2 tp h1.1 h11 rfl hl) (fun q1 y => ?_)
  obtain ⟨fl, y⟩ := y
  obtain ⟨rf2, e1, e2, e3⟩ := rf.f9 fl.f9
  obtain ⟨K, hK⟩ := Int.eq_ofNat_of_zero_le rf.2.2.2.1.1
  refine p_mono (v_core (k := k) ok hn rf2 (e3.trans hK)) (fun q2 z => ?_)
  rw [e1, e2, ve] at z
  show q1.1 = q2.1
  rcases y with ⟨a, b⟩ | ⟨a, b⟩
  · rcases z with ⟨c, d⟩ | ⟨c, d⟩
    · rw [b, d]
    · omega
  · rcases z with ⟨c, d⟩ | ⟨c, d⟩
    · omega
    · exact fst_eq (fun w hw => by unfold PKq; rw [Int.toNat_natCast, decide_eq_true hw, Bool.true_and]) b d
end
theorem j3_coreE {M : Mem} {l1 : Int} (r1 : (-2147483648) ≤ l1 ∧ l1 ≤ 2147483647) (h : J3 M) : wp (mX8_core 1 l1 M) (fun q1 => wp (mX9_core 126 l1 q1.2) (fun q2 => J3 q2.2 ∧ EQ q1 q2)) := J3.e (M := M) (j3_core r1 h) (eq_core r1 h)
end
section
/-! ===== cause ===== -/
theorem ctn_and_le (f g : Nat → Bool) : ∀ N : Nat, ctn (fun w => f w && g w) N ≤ ctn f N := by
  intro N
  induction N with
  | zero => exact Nat.le_refl _
  | succ N ih =>
    rw [ctn_s, ctn_s]
    have : (f N && g N).toNat ≤ (f N).toNat := by cases f N <;> cases g N <;> decide
    omega
theorem ctn_all {f g : Nat → Bool} : ∀ N : Nat, ctn (fun w => f w && g w) N = ctn f N → ∀ w, w < N → f w = true → g w = true := by
  intro N
  induction N with
  | zero => intro _ w hw; exact absurd hw (by omega)
  | succ N ih =>
    intro h w hw hf
    rw [ctn_s, ctn_s] at h
    have l := ctn_and_le f g N
    have l2 : (f N && g N).toNat ≤ (f N).toNat := by cases f N <;> cases g N <;> decide
    by_cases e : w = N
    · rw [e] at hf ⊢
      have : (f N && g N).toNat = (f N).toNat := by omega
      rw [hf] at this
      cases z : g N with
      | true => rfl
      | false => rw [z] at this; exact absurd this (by decide)
    · exact ih (by omega) w (by omega) hf
/-- what is sure leaves nothing in which it is otherwise -/
theorem srn_ln {S : SH} {P : Nat → List Row} {n p vw : Nat} {f : Nat → Bool} {v : Bool} (h : srn (fun w => wth S P f vw w) n p = b2i v) : LN S P n (fun w => f w && !(phw (n : Int) w (p : Int) == v)) vw := fun w hw => by
  have key : wth S P f vw w = true → phw (n : Int) w (p : Int) = v := fun hf => by
    unfold srn at h
    by_cases c1 : ctn (fun w => wth S P f vw w) (2 ^ n) = 0
    · rw [if_pos c1] at h
      have := b2i_b v
      omega
    · rw [if_neg c1] at h
      by_cases c2 : cfa (fun w => wth S P f vw w) n p = 0
      · rw [if_pos c2] at h
        have hv := b2i_0.mp h.symm
        have z : (wth S P f vw w && phw (n : Int) w (p : Int)) = false := (ctn_0 _).mpr c2 w hw
        rw [hf, Bool.true_and] at z
        rw [z, hv]
      · rw [if_neg c2] at h
        by_cases c3 : cfa (fun w => wth S P f vw w) n p = ctn (fun w => wth S P f vw w) (2 ^ n)
        · rw [if_pos c3] at h
          have hv : v = true := by cases v with | true => rfl | false => exact absurd h (by decide)
          rw [hv]
          exact ctn_all (f := fun w => wth S P f vw w) (g := fun w => phw (n : Int) w (p : Int)) _ c3 w hw hf
        · rw [if_neg c3] at h
          have := b2i_b v
          omega
  unfold wth at key ⊢
  show (f w && !(phw (n : Int) w (p : Int) == v) && allb (stw S P vw w) 8) = false
  cases e : f w with
  | false => rfl
  | true =>
    cases e2 : allb (stw S P vw w) 8 with
    | false => exact Bool.and_false _
    | true =>
      rw [e, e2] at key
      rw [key rfl]
      cases v <;> rfl
section
variable {M : Mem}
theorem q_causeS {n p : Nat} {P : Nat → List Row} {vw : Nat} {F : Int → Int} {m : Mem} {v : Bool} (ok : (shp M).ok) (hn : (shp M).nf = (n : Int)) (n12 : n ≤ 12) (hp : p < n) (k2 : K2 M) (sh : SHC (shp M) 4 M) (tp : TXP (shp M) P M) (h11 : 0 ≤ mG M 3 11 ∧ mG M 3 11 ≤ 8) (hv : vw = vwb M) (lk : LK (shp M) P vw F M m) (ln : LN (shp M) P n (fun w => PKq (n : Int) F n w && !(phw (n : Int) w (p : Int) == v)) vw) : pw (mX4_causeStories 2 (p : Int) (b2i v) m) (fun q => (∀ c j : Int, ¬ c = 37 → ¬ (c = 36 ∧ (j = 1 ∨ j = 2)) → mG q.2 c j = mG m c j) ∧ ∃ X : Nat, q.1 = (X : Int) ∧ FST (shp M) P n vw (fun w => PKq (n : Int) F n w && !(phw (n : Int) w (p : Int) == v)) X) := by
  have nf := ok.nf
  obtain ⟨v8, hin⟩ := vw_in hv h11
  obtain ⟨w32, _, _, _, fl⟩ := id lk
  have km := k2.fl fl
  have trs := trs_of hn tp hin lk
  rw [hn, Int.toNat_natCast] at w32
  obtain ⟨Q, hQ⟩ : ∃ Q : Int × Mem → Prop, Q = fun q => (∀ c j : Int, ¬ c = 37 → ¬ (c = 36 ∧ (j = 1 ∨ j = 2)) → mG q.2 c j = mG m c j) ∧ ∃ X : Nat, q.1 = (X : Int) ∧ FST (shp M) P n vw (fun w => PKq (n : Int) F n w && !(phw (n : Int) w (p : Int) == v)) X := ⟨_, rfl⟩
  rw [← hQ]
  unfold mX4_causeStories
  refine p_gFc (ji := 7) rfl km.c2_7 (p_gFc (ji := 5) rfl km.c2_5 (p_gK (p_call (q_copy (l := 36) (l1 := 32) ⟨by omega, by omega⟩ km.c36_0 w32 ⟨by decide, by decide, by decide⟩) (fun _ m1 y => ?_))))
  obtain ⟨y5, y6⟩ := y
  replace y5 : WS 36 (n : Int) (PKq (n : Int) F n) m1 := y5
  replace y6 : FW 36 m m1 := y6
  have k1 := km.fw y6 (by decide)
  have sh1 : SHC (shp M) 4 m1 := (sh.fl fl).kp (fun c j c0 c1 => y6 c j (by omega) (by omega))
  refine p_gFc (ji := 7) rfl k1.c2_7 (p_gFc (ji := 0) rfl k1.c2_0 (p_gFc (ji := 0) rfl k1.c3_0 (p_gK (p_call (q_bit (p := (p : Int)) sh1 ok ⟨by omega, by omega⟩) (fun bt m2 y => ?_)))))
  obtain ⟨y1, y2⟩ := y
  replace y1 : m2 = m1 := y1
  replace y2 : bt = (shp M).nf - 1 - (p : Int) := y2
  subst y1
  rw [hn] at y2
  subst y2
  have s35 : ∀ u : Bool, u = !v → pw (mX4_causeStories_35 2 36 ((n : Int) - 1 - (p : Int)) (b2i u) m2) Q := fun u hu => by
    unfold mX4_causeStories_35
    refine p_gK (p_call (q_keepWhere (v := u) (i := (n : Int) - 1 - (p : Int)) ⟨by omega, by omega⟩ y5 (by omega)) (fun _ m3 y => ?_))
    obtain ⟨z1, z2⟩ := y
    replace z2 : FX 37 m2 m3 := z2
    have z3 : WS 36 (n : Int) (fun w => PKq (n : Int) F n w && !(phw (n : Int) w (p : Int) == v)) m3 := WS.ext z1 (fun w _ => by
      show (_ && _) = (_ && _)
      unfold phw
      rw [hu]
      cases w.testBit ((n : Int) - 1 - (p : Int)).toNat <;> cases v <;> rfl)
    have k3 := k1.fx z2 (by decide)
    have g3 : ∀ c j : Int, ¬ c = 37 → ¬ (c = 36 ∧ (j = 1 ∨ j = 2)) → mG m3 c j = mG m c j := fun c j a b => (z2 c j a).trans (y6 c j a b)
    have e11 : mG m3 3 11 = mG M 3 11 := (g3 3 11 (by decide) (by decide)).trans (fl 3 11 (nq_0 (by omega)))
    have ev : vwb m3 = vw := by
      rw [hv, ← vwb_fl fl]
      unfold vwb
      rw [g3 3 13 (by decide) (by decide), g3 3 14 (by decide) (by decide), g3 3 11 (by decide) (by decide), show mG m3 15 = mG m 15 from funext (fun j => g3 15 j (by decide) (fun w => absurd w.1 (by decide))), show mG m3 16 = mG m 16 from funext (fun j => g3 16 j (by decide) (fun w => absurd w.1 (by decide)))]
    have tr3 : TRS (shp M) P (n : Int) vw m3 := fun s hs hb => (trs s hs hb).kp (fun j => g3 _ j (by omega) (by omega)) (fun j => g3 _ j (by omega) (by omega))
    refine p_gFc (ji := 7) rfl k3.c2_7 (p_gK (p_call (q_fewest (l := 36) (vw := vw) n12 (fun w hw => by unfold PKq; rw [Int.toNat_natCast, decide_eq_false hw]; rfl) k3 (by rw [e11]; exact h11) ev v8 z3 tr3 ln) (fun r m4 y => p_ret ?_)))
    obtain ⟨x1, X, x2, x3⟩ := y
    replace x1 : m4 = m3 := x1
    subst x1
    rw [hQ]
    exact ⟨g3, X, x2, x3⟩
  cases v with
  | false => exact p_it1 rfl (s35 true rfl)
  | true => exact p_it0 z_1 (s35 false rfl)
theorem q_cause {a b c k : Int} {n : Nat} {P : Nat → List Row} {vw : Nat} {F : Int → Int} (hk : (-2147483648) ≤ k ∧ k ≤ 2147483647) (ok : (shp M).ok) (hn : (shp M).nf = (n : Int)) (k2 : K2 M) (sh : SHC (shp M) 4 M) (tp : TXP (shp M) P M) (h1 : mG M 1 0 = 2 ∧ mG M 1 1 = 3) (h11 : 0 ≤ mG M 3 11 ∧ mG M 3 11 ≤ 8) (hv : vw = vwb M) (hl : pw (mX4_lookUp 2 M) (fun q => (12 < n ∧ q.1 = 0 ∧ q.2 = M) ∨ (n ≤ 12 ∧ q.1 = 1 ∧ LK (shp M) P vw F M q.2))) : pw (mX8_cause 1 a b c k M) (fun q => (∀ c j : Int, 65 ≤ c → mG q.2 c j = mG M c j) ∧ ((¬ (n ≤ 12 ∧ (0 ≤ a ∧ a < (shp M).nr) ∧ (shp M).inr a b c) ∧ q.1 = -1) ∨ ((n ≤ 12 ∧ (0 ≤ a ∧ a < (shp M).nr) ∧ (shp M).inr a b c) ∧ ((srn (WDw (shp M) P vw F) n ((shp M).at' a b c).toNat = -1 ∧ q.1 = -1) ∨ ∃ v : Bool, srn (WDw (shp M) P vw F) n ((shp M).at' a b c).toNat = b2i v ∧ ∃ X, X < 256 ∧ FST (shp M) P n vw (fun w => PKq (n : Int) F n w && !(phw (n : Int) w ((shp M).at' a b c) == v)) X ∧ q.1 = nbt X k 8)))) := by
  have nf := ok.nf
  unfold mX8_cause
  refine p_gFc (ji := 1) rfl h1.2 (p_gFc (ji := 0) rfl k2.c3_0 (p_gK (p_call (q_place (r := a) (i := b) (j := c) ok sh) (fun p m y => ?_))))
  obtain ⟨y1, y2⟩ := y
  replace y1 : m = M := y1
  subst y1
  rcases y2 with ⟨w1, w2, e⟩ | ⟨w, e⟩
  · replace e : p = (shp m).at' a b c := e
    have pos := ok.pos w1.1 w1.2 w2
    have s9 := ok.st9 w1.1 w1.2
    obtain ⟨x, hx⟩ := Int.eq_ofNat_of_zero_le (show 0 ≤ p by omega)
    have ex : ((shp m).at' a b c).toNat = x := by omega
    have ex2 : (shp m).at' a b c = (x : Int) := by omega
    rw [ex, ex2, hx]
    refine p_gFc (ji := 0) rfl h1.1 (p_gK (p_call (q_sureness (p := x) ok hn (by omega) k2 sh hl) (fun r m2 y => ?_)))
    rcases y with ⟨u1, u2, u3⟩ | ⟨u1, u2, u3⟩
    · replace u3 : m2 = m := u3
      subst u3
      exact p_it1 u2 (p_ret ⟨fun _ _ _ => rfl, Or.inl ⟨fun w => by omega, rfl⟩⟩)
    · replace u2 : r = srn (WDw (shp m) P vw F) n x := u2
      have lk : LK (shp m) P vw F m m2 := u3
      have fl := lk.2.2.2.2
      refine p_if (fun d => p_ret ⟨fun c j c0 => fl c j (nq_0 (by omega)), Or.inr ⟨⟨u1, w1, w2⟩, Or.inl ⟨?_, rfl⟩⟩⟩) (fun d => ?_)
      · have d : r = -1 := d
        rw [← u2]; exact d
      have d : ¬ r = -1 := d
      have hvb : ∃ v : Bool, r = b2i v := by
        have : r = -1 ∨ r = 0 ∨ r = 1 := by
          rw [u2]; unfold srn
          by_cases c1 : ctn (WDw (shp m) P vw F) (2 ^ n) = 0
          · rw [if_pos c1]; exact Or.inl rfl
          · rw [if_neg c1]
            by_cases c2 : cfa (WDw (shp m) P vw F) n x = 0
            · rw [if_pos c2]; exact Or.inr (Or.inl rfl)
            · rw [if_neg c2]
              by_cases c3 : cfa (WDw (shp m) P vw F) n x = ctn (WDw (shp m) P vw F) (2 ^ n)
              · rw [if_pos c3]; exact Or.inr (Or.inr rfl)
              · rw [if_neg c3]; exact Or.inl rfl
        rcases this with z | z | z
        · exact absurd z d
        · exact ⟨false, z⟩
        · exact ⟨true, z⟩
      obtain ⟨v, hvv⟩ := hvb
      subst hvv
      have wd : WDw (shp m) P vw F = fun w => wth (shp m) P (PKq (n : Int) F n) vw w := funext (fun w => by
        unfold WDw wth; rw [hn, Int.toNat_natCast])
      have ln := srn_ln (S := shp m) (P := P) (n := n) (p := x) (vw := vw) (f := PKq (n : Int) F n) (v := v) (by rw [← wd]; exact u2.symm)
      have h10 : mG m2 1 0 = 2 := (fl 1 0 (nq_0 (by omega))).trans h1.1
      refine p_gFc (ji := 0) rfl h10 (p_gK (p_call (q_causeS (p := x) (v := v) ok hn u1 (by omega) k2 sh tp h11 hv lk ln) (fun r m3 y => ?_)))
      obtain ⟨z1, X, z2, z3⟩ := y
      replace z1 : ∀ c j : Int, ¬ c = 37 → ¬ (c = 36 ∧ (j = 1 ∨ j = 2)) → mG m3 c j = mG m2 c j := z1
      replace z2 : r = (X : Int) := z2
      subst z2
      refine p_call (q_nthBit (T := X) z3.1.1 hk) (fun r m4 y => p_ret ?_)
      obtain ⟨x1, x2⟩ := y
      replace x1 : m4 = m3 := x1
      subst x1
      exact ⟨fun c j c0 => (z1 c j (by omega) (by omega)).trans (fl c j (nq_0 (by omega))), Or.inr ⟨⟨u1, w1, w2⟩, Or.inr ⟨v, u2.symm, X, z3.1.1, z3, x2⟩⟩⟩
  · replace e : p = -1 := e
    subst e
    refine p_gFc (ji := 0) rfl h1.1 (p_gK (p_call (P := fun q => q.2 = m ∧ q.1 = -1) ?_ (fun v m2 y => ?_)))
    · unfold mX4_sureness
      exact p_it1 rfl (p_ret ⟨rfl, rfl⟩)
    · obtain ⟨z1, z2⟩ := y
      replace z1 : m2 = m := z1
      subst z1
      exact p_it1 z2 (p_ret ⟨fun _ _ _ => rfl, Or.inl ⟨fun u => w u.2, rfl⟩⟩)
theorem eq_cause {a b c k : Int} (hk : (-2147483648) ≤ k ∧ k ≤ 2147483647) (h : J3 M) : pw (mX8_cause 1 a b c k M) (fun q1 => pw (mX9_cause 126 a b c k q1.2) (fun q2 => EQ q1 q2)) := by
  have h11 := rd_Told_11 h.1.1.1 (a := 3) rfl
  obtain ⟨P, n, ok, hn, k2, sh, tp, rf, ve, vlt, h1, hl⟩ := look h
  refine p_mono (q_cause (a := a) (b := b) (c := c) hk ok hn k2 sh tp h1 h11 rfl hl) (fun q1 y => ?_)
  obtain ⟨g, y⟩ := y
  obtain ⟨rf2, e1, e2, e3⟩ := rf.f9 (M' := q1.2) (fun c j c0 _ => g c j (by omega))
  obtain ⟨K, hK⟩ := Int.eq_ofNat_of_zero_le rf.2.2.2.1.1
  have h8 := rf.2.2.2.1
  rw [hK, Int.toNat_natCast] at vlt
  refine p_mono (v_cause (a := a) (b := b) (c := c) (k := k) ok hn rf2 (e3.trans hK)) (fun q2 z => ?_)
  rw [e1, e2, ve] at z
  have sr : srn (WDw (shp M) P (vwb M) (knR (shp M) M)) n ((shp M).at' a b c).toNat = srn (WDr (shp M) P K (vwb M) (knR (shp M) M) n) n ((shp M).at' a b c).toNat := srn_congr (fun w hw => wd_eq hn vlt (by omega) hw)
  show q1.1 = q2.1
  rcases y with ⟨u, v⟩ | ⟨u, v⟩
  · rcases z with ⟨w, x⟩ | ⟨w, x⟩
    · rw [v, x]
    · exact absurd w u
  · rcases z with ⟨w, x⟩ | ⟨w, x⟩
    · exact absurd u w
    · rcases v with ⟨v1, v2⟩ | ⟨bv, v1, X, x8, v2, v3⟩
      · rcases x with ⟨x1, x2⟩ | ⟨bw, x1, x2⟩
        · rw [v2, x2]
        · rw [← sr, v1] at x1
          have := b2i_b bw
          omega
      · rcases x with ⟨x1, x2⟩ | ⟨bw, x1, x2⟩
        · rw [← sr, v1] at x1
          have := b2i_b bv
          omega
        · have eb : bv = bw := by
            rw [← sr, v1] at x1
            cases bv <;> cases bw <;> first | rfl | exact absurd x1 (by decide)
          subst eb
          exact fst_eq (fun w hw => by unfold PKq; rw [Int.toNat_natCast, decide_eq_true hw, Bool.true_and]) (Or.inr ⟨X, x8, v2, v3⟩) x2
end
theorem j3_causeE {M : Mem} {l1 l2 l3 l4 : Int} (r1 : (-2147483648) ≤ l1 ∧ l1 ≤ 2147483647) (r2 : (-2147483648) ≤ l2 ∧ l2 ≤ 2147483647) (r3 : (-2147483648) ≤ l3 ∧ l3 ≤ 2147483647) (r4 : (-2147483648) ≤ l4 ∧ l4 ≤ 2147483647) (h : J3 M) : wp (mX8_cause 1 l1 l2 l3 l4 M) (fun q1 => wp (mX9_cause 126 l1 l2 l3 l4 q1.2) (fun q2 => J3 q2.2 ∧ EQ q1 q2)) := J3.e (M := M) (j3_cause r1 r2 r3 r4 h) (eq_cause r4 h)
end
