section
/-! ===== the calls that look up keep what OtherNumbers holds ===== -/
def CJ (n : Nat) (M : Mem) : Prop := I n M ∧ CB (shp M) M
def NBJ (b j : Int) : Prop := b ≤ 125 ∧ ¬ (24 ≤ b ∧ b ≤ 28) ∧ ¬ (4 ≤ b ∧ b ≤ 10)
section
variable {M : Mem}
theorem CJ.of (h : JB M) : CJ (mN M) M := ⟨h.1.1.1.1, h.2⟩
theorem CJ.kp {n : Nat} {M' : Mem} {W : Int → Int → Prop} (h : CJ n M) (i2 : I n M') (k : Keep n W M M') (d : ∀ b j, W b j → NBJ b j) : CJ n M' := by
  have hn : (169 : Int) ≤ (n : Int) := by have := h.1.2.2.2.2.1; omega
  exact ⟨i2, h.2.go h.1 (fun b j hb => k.2.2 b j (by omega) (fun z => by
    have := d b j z
    unfold NBJ at this
    omega))⟩
theorem cj_call {n : Nat} {β : Type} {Q : β → Prop} {x : Option (Int × Mem)} {f : Int × Mem → Option β} {W : Int → Int → Prop} {P : Int × Mem → Prop} (h : CJ n M) (hx : I n M → wp x (fun q => I n q.2 ∧ Keep n W M q.2 ∧ P q)) (d : ∀ b j, W b j → NBJ b j) (k : ∀ r m, CJ n m → P (r, m) → pw (f (r, m)) Q) : pw (x.bind f) Q :=
  p_call (p_wp (hx h.1)) (fun r m y => k r m (h.kp y.1 y.2.1 d) y.2.2)
theorem cj_look {β : Type} {Q : β → Prop} {f : Int × Mem → Option β} (h : JB M) (hf : ∀ m, FLK M m → CJ (mN M) m → pw (f (0, m)) Q) (ht : ∀ m, FLK M m → (shp m).nf ≤ 12 → CJ (mN M) m → pw (f (1, m)) Q) : pw ((mX4_lookUp 2 M).bind f) Q := by
  obtain ⟨P, n, ok, hn, k2, sh, tp, rf, ve, vlt, h1, hl⟩ := look h.1
  have iM := h.1.1.1.1
  refine p_call (p_and hl (p_wp (s_X4_lookUp iM))) (fun r m y => ?_)
  obtain ⟨y1, y2, y3, _⟩ := y
  rcases y1 with ⟨a, b, c⟩ | ⟨a, b, c⟩
  · replace c : m = M := c
    replace b : r = 0 := b
    subst c; subst b
    exact hf m FLK.rf ⟨iM, h.2⟩
  · replace b : r = 1 := b
    subst b
    obtain ⟨_, _, ca, _, fl⟩ := c
    replace fl : FLK M m := fl
    have e : shp m = shp M := shp_go (fun b j x => fl b j (nq_0 (by omega)))
    exact ht m fl (by rw [e, hn]; omega) ⟨y2, by rw [e]; exact h.2.fl fl⟩
theorem nbj_37 : ∀ b j : Int, b = 37 ∨ (b = 36 ∧ j = 1) ∨ (b = 36 ∧ j = 2) → NBJ b j := fun b j z => by
  unfold NBJ
  omega
theorem cb_worlds (h : JB M) : pw (mX8_worlds 1 M) (fun q => CB (shp q.2) q.2) := by
  unfold mX8_worlds
  refine p_gFc (ji := 0) rfl (vs_0 h.1).1 (p_gK (p_call (P := fun q => CJ (mN M) q.2) ?_ (fun v m y => p_ret y.2)))
  unfold mX4_countWorlds
  refine p_gK (cj_look h (fun m _ ci => p_it1 rfl (p_ret ci)) (fun m _ _ ci => p_it0 z_1 ?_))
  exact p_gFc (ji := 6) rfl (K2.of ci.1).c2_6 (p_gK (cj_call ci (fun i => s_X7_count (by unfold isWS; decide) i) (fun b j z => False.elim z) (fun r m c2 _ => p_ret c2)))
theorem cb_core {l : Int} (r1 : (-2147483648) ≤ l ∧ l ≤ 2147483647) (h : JB M) : pw (mX8_core 1 l M) (fun q => CB (shp q.2) q.2) := by
  unfold mX8_core
  refine p_gFc (ji := 0) rfl (vs_0 h.1).1 (p_gK (p_call (P := fun q => CJ (mN M) q.2 ∧ 0 ≤ q.1 ∧ q.1 ≤ 255) ?_ (fun v m y => cj_call y.1 (fun i => s_X8_nthBit y.2 r1 i) (fun b j z => False.elim z) (fun r m c2 _ => p_ret c2.2))))
  unfold mX4_coreStories
  refine p_gK (cj_look h (fun m _ ci => p_it1 rfl (p_ret ⟨ci, (by dsimp only; decide), (by dsimp only; decide)⟩)) (fun m _ _ ci => p_it0 z_1 (p_gFc (ji := 6) rfl (K2.of ci.1).c2_6 (p_gK (cj_call ci (fun i => s_X7_isNothing (by unfold isWS; decide) i) (fun b j z => False.elim z) (fun r m2 c2 _ => ?_))))))
  refine p_if (fun _ => p_ret ⟨c2, (by dsimp only; decide), (by dsimp only; decide)⟩) (fun _ => p_gFc (ji := 5) rfl (K2.of c2.1).c2_5 (p_gK (cj_call c2 (fun i => s_X4_fewestAgainst (by unfold isWS; decide) i) (fun b j z => False.elim z) (fun r m3 c3 y => p_ret ⟨c3, y.1⟩))))
theorem cb_sureness {p : Int} (hp : (-1) ≤ p ∧ p ≤ 35) (h : JB M) : pw (mX4_sureness 2 p M) (fun q => CJ (mN M) q.2 ∧ (-1) ≤ q.1 ∧ q.1 ≤ 1) := by
  unfold mX4_sureness
  refine p_if (fun _ => p_ret ⟨CJ.of h, (by dsimp only; decide), (by dsimp only; decide)⟩) (fun _ => p_gK (cj_look h (fun m _ ci => p_it1 rfl (p_ret ⟨ci, (by dsimp only; decide), (by dsimp only; decide)⟩)) (fun m _ _ ci => p_it0 z_1 (p_gFc (ji := 6) rfl (K2.of ci.1).c2_6 (p_gK (cj_call ci (fun i => s_X7_isNothing (by unfold isWS; decide) i) (fun b j z => False.elim z) (fun r m2 c2 _ => ?_)))))))
  refine p_if (fun _ => ?_) (fun _ => p_ret ⟨c2, (by dsimp only; decide), (by dsimp only; decide)⟩)
  have k2 := K2.of c2.1
  refine p_gFc (ji := 6) rfl k2.c2_6 (p_gFc (ji := 0) rfl k2.c2_0 (p_gFc (ji := 0) rfl k2.c3_0 (p_gK (cj_call c2 (fun i => s_X3_bit (l0 := 4) (Or.inl rfl) hp i) (fun b j z => False.elim z) (fun r m3 c3 y => p_gK (cj_call c3 (fun i => s_X7_countWhere (by unfold isWS; decide) y.1 i) (fun b j z => False.elim z) (fun r m4 c4 _ => ?_)))))))
  refine p_if (fun _ => p_ret ⟨c4, (by dsimp only; decide), (by dsimp only; decide)⟩) (fun _ => p_gFc (ji := 6) rfl (K2.of c4.1).c2_6 (p_gK (cj_call c4 (fun i => s_X7_count (by unfold isWS; decide) i) (fun b j z => False.elim z) (fun r m5 c5 _ => p_if (fun _ => p_ret ⟨c5, (by dsimp only; decide), (by dsimp only; decide)⟩) (fun _ => p_ret ⟨c5, (by dsimp only; decide), (by dsimp only; decide)⟩)))))
theorem cb_sure {a b c : Int} (r2 : (-2147483648) ≤ b ∧ b ≤ 2147483647) (r3 : (-2147483648) ≤ c ∧ c ≤ 2147483647) (h : JB M) : pw (mX8_sure 1 a b c M) (fun q => CB (shp q.2) q.2) := by
  have k2 := K2.of h.1.1.1.1
  unfold mX8_sure
  refine p_gFc (ji := 0) rfl (vs_0 h.1).1 (p_gFc (ji := 1) rfl (vs_0 h.1).2 (p_gFc (ji := 0) rfl k2.c3_0 (p_gK (p_call (pl_same r2 r3 h.1) (fun v m y => ?_)))))
  obtain ⟨y1, y2⟩ := y
  replace y1 : m = M := y1
  subst y1
  exact p_gK (p_call (cb_sureness y2 h) (fun v m y => p_ret y.1.2))
theorem cb_cause {a b c d : Int} (r2 : (-2147483648) ≤ b ∧ b ≤ 2147483647) (r3 : (-2147483648) ≤ c ∧ c ≤ 2147483647) (r4 : (-2147483648) ≤ d ∧ d ≤ 2147483647) (h : JB M) : pw (mX8_cause 1 a b c d M) (fun q => CB (shp q.2) q.2) := by
  have k2 := K2.of h.1.1.1.1
  unfold mX8_cause
  refine p_gFc (ji := 1) rfl (vs_0 h.1).2 (p_gFc (ji := 0) rfl k2.c3_0 (p_gK (p_call (pl_same r2 r3 h.1) (fun p m y => ?_))))
  obtain ⟨y1, y2⟩ := y
  replace y1 : m = M := y1
  replace y2 : (-1) ≤ p ∧ p ≤ 35 := y2
  subst y1
  refine p_gFc (ji := 0) rfl (vs_0 h.1).1 (p_gK (p_call (cb_sureness y2 h) (fun v m2 y => ?_)))
  obtain ⟨ci, z1, z2⟩ := y
  replace ci : CJ (mN m) m2 := ci
  refine p_if (fun _ => p_ret ci.2) (fun c1 => ?_)
  replace c1 : ¬ v = -1 := c1
  replace z1 : (-1) ≤ v := z1
  replace z2 : v ≤ 1 := z2
  have h1 : mG m2 1 0 = 2 := rd_VS_0 ci.1 (a := 1) rfl
  exact p_gFc (ji := 0) rfl h1 (p_gK (cj_call ci (fun i => s_X4_causeStories y2 (by omega) i) (fun b j z => nbj_37 b j z) (fun r m3 c3 y => cj_call c3 (fun i => s_X8_nthBit y.1 r4 i) (fun b j z => False.elim z) (fun r m4 c4 _ => p_ret c4.2))))
theorem cb_without {l : Int} (h : JB M) : pw (mX8_without 1 l M) (fun q => CB (shp q.2) q.2) := by
  have k2 := K2.of h.1.1.1.1
  have ci0 := CJ.of h
  unfold mX8_without
  refine p_gFc (ji := 0) rfl (vs_0 h.1).1 (p_gK (p_call (P := fun q => CJ (mN M) q.2) ?_ (fun v m y => p_ret y.2)))
  have loop : ∀ (fu k : Nat) (vw : Int) (m : Mem), k ≤ 8 → CJ (mN M) m → pw (mX4_countWithout_60 fu 2 l vw (k : Int) m) (fun q => CJ (mN M) q.2) := by
    intro fu
    induction fu with
    | zero => intro k vw m _ _; exact p_none
    | succ fu ih =>
      intro k vw m hk ci
      show pw (bX4_countWithout_60 (mX4_countWithout_60 fu) 2 l vw (k : Int) m) _
      have km := K2.of ci.1
      unfold bX4_countWithout_60
      have go : ∀ m2, CJ (mN M) m2 → k < 8 → pw (mX4_countWithout_96 (mX4_countWithout_60 fu) 2 l vw (k : Int) m2) (fun q => CJ (mN M) q.2) := fun m2 c2 k8 => by
        unfold mX4_countWithout_96
        rw [wI_s (p := k) (by omega)]
        exact ih (k + 1) vw m2 (by omega) c2
      refine p_if (fun c => p_gFc (ji := 7) rfl km.c2_7 (p_gK (cj_call ci (fun i => s_X7_count (by unfold isWS; decide) i) (fun b j z => False.elim z) (fun r m2 c2 _ => p_ret c2)))) (fun c => p_if (fun _ => go m ci (by omega)) (fun _ => p_if (fun _ => go m ci (by omega)) (fun _ => ?_)))
      have k8 : k < 8 := by omega
      refine p_gFc (ji := 7) rfl km.c2_7 (p_gFc (ji := 3) rfl km.c2_3 (p_aGc (km.ws (s := k) (by omega)).1 (p_gK (cj_call ci (fun i => s_X7_keepOnly (by unfold isWS; decide) (by unfold isWS; omega) i) (fun b j z => nbj_37 b j (Or.inl z)) (fun r m2 c2 _ => go m2 c2 k8)))))
  have s32 : ∀ (s vw : Int), pw (mX4_countWithout_32 2 l vw s M) (fun q => CJ (mN M) q.2) := fun s vw => by
    unfold mX4_countWithout_32
    refine p_if (fun _ => p_ret ci0) (fun _ => p_gK (cj_look h (fun m _ ci => p_it1 rfl (p_ret ci)) (fun m _ _ ci => p_it0 z_1 ?_)))
    have km := K2.of ci.1
    exact p_gFc (ji := 7) rfl km.c2_7 (p_gFc (ji := 5) rfl km.c2_5 (p_gK (cj_call ci (fun i => s_X7_copy (l0 := 36) (l1 := 32) (by unfold isWS; decide) (by unfold isWS; decide) i) (fun b j z => nbj_37 b j z) (fun r m2 c2 _ => loop FU 0 vw m2 (by omega) c2))))
  unfold mX4_countWithout
  refine p_gFc (ji := 0) rfl k2.c2_0 (p_gK (p_call (q_viewed k2 (rd_Told_11 h.1.1.1.1 (a := 3) rfl)) (fun v m y => ?_)))
  obtain ⟨y1, y2⟩ := y
  replace y1 : m = M := y1
  subst y1
  refine p_gFc (ji := 0) rfl k2.c2_0 (p_gK (p_call (hs_same (l := l)) (fun r m2 y => ?_)))
  replace y : m2 = m := y
  subst y
  unfold mX4_countWithout_31
  exact p_if (fun _ => s32 _ _) (fun _ => p_if (fun _ => s32 _ _) (fun _ => s32 _ _))
theorem cb_questions (h : JB M) : pw (mX8_questions 1 M) (fun q => CB (shp q.2) q.2) := by
  unfold mX8_questions
  refine p_gFc (ji := 0) rfl (vs_0 h.1).1 (p_gK (p_call (P := fun q => CJ (mN M) q.2) ?_ (fun v m y => p_ret y.2)))
  have loop : ∀ (fu k : Nat) (a : Int) (m : Mem), ((-2147483648) ≤ a ∧ a ≤ 2147483647) → k ≤ 5 → CJ (mN M) m → pw (mX4_fewestQuestions_38 fu 2 a (k : Int) m) (fun q => CJ (mN M) q.2) := by
    intro fu
    induction fu with
    | zero => intro k a m _ _ _; exact p_none
    | succ fu ih =>
      intro k a m ha hk ci
      show pw (bX4_fewestQuestions_38 (mX4_fewestQuestions_38 fu) 2 a (k : Int) m) _
      have km := K2.of ci.1
      unfold bX4_fewestQuestions_38
      refine p_if (fun c => p_ret ci) (fun c => p_gFc (ji := 11) rfl km.c2_11 (cj_call ci (fun i => s_gX4_suffice ha (by omega) (by omega) i) (fun b j z => False.elim z) (fun r m2 c2 _ => p_if (fun _ => ?_) (fun _ => p_ret c2))))
      rw [wI_s (p := k) (by omega)]
      exact ih (k + 1) a m2 ha (by omega) c2
  unfold mX4_fewestQuestions
  refine p_gK (cj_look h (fun m _ ci => p_it1 rfl (p_ret ci)) (fun m _ _ ci => p_it0 z_1 (p_gFc (ji := 6) rfl (K2.of ci.1).c2_6 (p_gK (cj_call ci (fun i => s_X7_isNothing (by unfold isWS; decide) i) (fun b j z => False.elim z) (fun r m2 c2 _ => ?_))))))
  refine p_if (fun _ => ?_) (fun _ => p_ret c2)
  refine p_gFc (ji := 6) rfl (K2.of c2.1).c2_6 (p_gK (cj_call c2 (fun i => s_X7_count (by unfold isWS; decide) i) (fun b j z => False.elim z) (fun r m3 c3 _ => p_if (fun _ => ?_) (fun _ => p_ret c3))))
  exact p_gK (cj_call c3 (fun i => s_X4_takeAsked i) (fun b j z => by unfold W_X4_takeAsked at z; unfold NBJ; omega) (fun r m4 c4 y => loop FU 0 r m4 y.1 (by omega) c4))
theorem cb_settle {l : Int} (h : JB M) : pw (mX8_settle 1 l M) (fun q => CB (shp q.2) q.2) := by
  unfold mX8_settle
  refine p_gFc (ji := 0) rfl (vs_0 h.1).1 (p_gK (p_call (P := fun q => CJ (mN M) q.2 ∧ (-1) ≤ q.1 ∧ q.1 ≤ 35) ?_ (fun v m y => ?_)))
  · have loop : ∀ (fu k : Nat) (a : Int) (m : Mem), ((-1) ≤ a ∧ a ≤ 35) → k ≤ 36 → CJ (mN M) m → pw (mX4_settlingPlace_23 fu 2 a (k : Int) m) (fun q => CJ (mN M) q.2 ∧ (-1) ≤ q.1 ∧ q.1 ≤ 35) := by
      intro fu
      induction fu with
      | zero => intro k a m _ _ _; exact p_none
      | succ fu ih =>
        intro k a m ha hk ci
        show pw (bX4_settlingPlace_23 (mX4_settlingPlace_23 fu) 2 a (k : Int) m) _
        have km := K2.of ci.1
        have n36 := rd_Shape_7 ci.1 (a := 4) rfl
        unfold bX4_settlingPlace_23
        refine p_gFc (ji := 0) rfl km.c2_0 (p_gFc (ji := 0) rfl km.c3_0 (p_gF (ji := 7) rfl (fun f hf => p_if (fun c => p_ret ⟨ci, ha⟩) (fun c => ?_))))
        have k35 : k < 36 := by omega
        have go : ∀ (v : Int) (m2 : Mem), ((-1) ≤ v ∧ v ≤ 35) → CJ (mN M) m2 → pw (mX4_settlingPlace_57 (mX4_settlingPlace_23 fu) 2 v (k : Int) m2) (fun q => CJ (mN M) q.2 ∧ (-1) ≤ q.1 ∧ q.1 ≤ 35) := fun v m2 hv c2 => by
          unfold mX4_settlingPlace_57
          rw [wI_s (p := k) (by omega)]
          exact ih (k + 1) v m2 hv (by omega) c2
        refine p_if (fun c1 => ?_) (fun c1 => p_gK (cj_call ci (fun i => s_X4_greaterAt (l1 := (k : Int)) (by omega) i) (fun b j z => False.elim z) (fun r m2 c2 _ => p_gK (cj_call c2 (fun i => s_X4_greaterAt (l1 := a) (by omega) i) (fun b j z => False.elim z) (fun r m3 c3 _ => p_if (fun _ => go a m3 ha c3) (fun _ => ?_))))))
        · unfold mX4_settlingPlace_55
          exact go (k : Int) m (by omega) ci
        · unfold mX4_settlingPlace_55
          exact go (k : Int) m3 (by omega) c3
    unfold mX4_settlingPlace
    refine p_gK (cj_look h (fun m _ ci => p_it1 rfl (p_ret ⟨ci, (by dsimp only; decide), (by dsimp only; decide)⟩)) (fun m _ _ ci => p_it0 z_1 (p_gFc (ji := 6) rfl (K2.of ci.1).c2_6 (p_gK (cj_call ci (fun i => s_X7_isNothing (by unfold isWS; decide) i) (fun b j z => False.elim z) (fun r m2 c2 _ => ?_))))))
    exact p_if (fun _ => loop FU 0 (-1) m2 (by decide) (by omega) c2) (fun _ => p_ret ⟨c2, (by dsimp only; decide), (by dsimp only; decide)⟩)
  · obtain ⟨ci, y1, y2⟩ := y
    replace ci : CJ (mN M) m := ci
    replace y1 : (-1) ≤ v := y1
    replace y2 : v ≤ 35 := y2
    refine p_if (fun _ => p_ret ci.2) (fun c => ?_)
    replace c : ¬ v = -1 := c
    have h1 : ∀ m, CJ (mN M) m → mG m 1 0 = 2 ∧ mG m 1 1 = 3 := fun m c => ⟨rd_VS_0 c.1 (a := 1) rfl, rd_VS_1 c.1 (a := 1) rfl⟩
    refine p_gFc (ji := 1) rfl (h1 m ci).2 (p_gFc (ji := 0) rfl (K2.of ci.1).c3_0 (p_gK (cj_call ci (fun i => s_X3_relationAt (l0 := 4) (l1 := v) (Or.inl rfl) (by omega) i) (fun b j z => False.elim z) (fun r m2 c2 y => ?_))))
    refine p_if (fun _ => p_ret c2.2) (fun _ => p_if (fun _ => ?_) (fun _ => p_if (fun _ => ?_) (fun _ => p_if (fun _ => ?_) (fun _ => p_ret c2.2))))
    · exact p_gFc (ji := 1) rfl (h1 m2 c2).2 (p_gFc (ji := 0) rfl (K2.of c2.1).c3_0 (p_gK (cj_call c2 (fun i => s_X3_firstAt (l0 := 4) (Or.inl rfl) y.1 (by omega) i) (fun b j z => False.elim z) (fun r m3 c3 _ => p_ret c3.2))))
    · exact p_gFc (ji := 1) rfl (h1 m2 c2).2 (p_gFc (ji := 0) rfl (K2.of c2.1).c3_0 (p_gK (cj_call c2 (fun i => s_X3_secondAt (l0 := 4) (Or.inl rfl) y.1 (by omega) i) (fun b j z => False.elim z) (fun r m3 c3 _ => p_ret c3.2))))
    · exact p_gFc (ji := 0) rfl (h1 m2 c2).1 (p_gK (cj_call c2 (fun i => s_X4_greaterAt (l1 := v) (by omega) i) (fun b j z => False.elim z) (fun r m3 c3 _ => p_ret c3.2)))
theorem cb_near (h : JB M) : pw (mX8_near 1 M) (fun q => CB (shp q.2) q.2) := by
  unfold mX8_near
  refine p_gFc (ji := 0) rfl (vs_0 h.1).1 (p_gK (p_call (P := fun q => CJ (mN M) q.2) ?_ (fun v m y => ?_)))
  · have loop : ∀ (fu k : Nat) (a b : Int) (m : Mem), k ≤ 4096 → CJ (mN M) m → pw (mX4_nearestWorld_16 fu 2 a b (k : Int) m) (fun q => CJ (mN M) q.2) := by
      intro fu
      induction fu with
      | zero => intro k a b m _ _; exact p_none
      | succ fu ih =>
        intro k a b m hk ci
        show pw (bX4_nearestWorld_16 (mX4_nearestWorld_16 fu) 2 a b (k : Int) m) _
        have km := K2.of ci.1
        unfold bX4_nearestWorld_16
        refine p_gFc (ji := 6) rfl km.c2_6 (p_gK (cj_call ci (fun i => s_X7_most (by unfold isWS; decide) i) (fun b j z => False.elim z) (fun r m2 c2 y => p_if (fun c => p_ret c2) (fun c => ?_))))
        have y1 : r ≤ 4096 := y.1.2
        have c : ¬ r ≤ (k : Int) := c
        have k2 := K2.of c2.1
        have go : ∀ (a b : Int) (m3 : Mem), CJ (mN M) m3 → pw (mX4_nearestWorld_64 (mX4_nearestWorld_16 fu) 2 a b (k : Int) m3) (fun q => CJ (mN M) q.2) := fun a b m3 c3 => by
          unfold mX4_nearestWorld_64
          rw [wI_s (p := k) (by omega)]
          exact ih (k + 1) a b m3 (by omega) c3
        refine p_gFc (ji := 0) rfl k2.c2_0 (p_gF (ji := 1) rfl (fun w hw => p_call (q_bitCount _ m2) (fun r2 m3 y => ?_)))
        obtain ⟨y3, _⟩ := y
        replace y3 : m3 = m2 := y3
        subst y3
        refine p_if (fun _ => go a b m3 c2) (fun _ => p_gFc (ji := 6) rfl k2.c2_6 (p_gK (cj_call c2 (fun i => s_X7_has (l1 := (k : Int)) (by unfold isWS; decide) (by omega) i) (fun b j z => False.elim z) (fun r4 m4 c4 _ => p_if (fun _ => go a b m4 c4) (fun _ => go _ _ m4 c4)))))
    unfold mX4_nearestWorld
    exact p_gK (cj_look h (fun m _ ci => p_it1 rfl (p_ret ci)) (fun m _ _ ci => p_it0 z_1 (loop FU 0 (-1) 13 m (by omega) ci)))
  · replace y : CJ (mN M) m := y
    have h1 : mG m 1 1 = 3 := rd_VS_1 y.1 (a := 1) rfl
    refine p_if (fun _ => p_ret y.2) (fun _ => p_gFc (ji := 1) rfl h1 (p_gF (ji := 1) rfl (fun w hw => p_call (q_bitCount _ m) (fun r2 m3 z => ?_))))
    obtain ⟨z1, _⟩ := z
    replace z1 : m3 = m := z1
    subst z1
    refine p_gFc (ji := 1) rfl h1 (p_pF (ji := 1) rfl (fun m4 h4 => p_ret ?_))
    exact y.2.go y.1 (fun b j hb => st_ne h4 (fun w => by omega))
end
end
section
/-! ===== the guess: worlds and forms in which it is so ===== -/
section
variable {M : Mem} {n : Nat}
/-- what is judged stays while other cells change -/
theorem CA.sk {S : SH} {M' : Mem} (h : CA S M) (g : ∀ c j : Int, (c = 2 ∧ j = 4) ∨ (c = 3 ∧ (j = 11 ∨ j = 12)) ∨ c = 14 ∨ (47 ≤ c ∧ c ≤ 64) ∨ 169 < c → mG M' c j = mG M c j) : CA S M' := by
  have e4 : mG M' 2 4 = mG M 2 4 := g 2 4 (by decide)
  refine ⟨by rw [e4]; exact h.1, fun s hs hj => ?_⟩
  have e : jb M' s = jb M s := by unfold jb; rw [e4]
  have et : txs M' s = txs M s := by
    unfold txs
    by_cases x : s = 8
    · rw [if_pos x, if_pos x]; exact g 3 12 (by decide)
    · rw [if_neg x, if_neg x]; exact g 14 _ (Or.inr (Or.inr (Or.inl rfl)))
  rw [e] at hj
  obtain ⟨a, b, c, d⟩ := h.2 s hs hj
  rw [et, g 3 11 (by decide)]
  exact ⟨a, b, c, fun ps h1 h2 => (d ps (h1.of (fun b' j b0 b1 => (g b' j (by omega)).symm)) h2).kp (fun j => g _ j (by omega)) (fun j => g _ j (by omega))⟩
/-- the guess, on both sides -/
theorem guess_P (h : J3 M) : (mG M 3 12 = 0 ∧ mG M 141 8 = 0) ∨ ((¬ mG M 3 12 = 0 ∧ 169 < mG M 3 12) ∧ ∃ ps : List Row, TT ps (mG M 3 12) M ∧ RT ps 8 M ∧ ty (shp M).nr (shp M).k1 (shp M).k2 [(0, 255)] ps) := by
  have iM := h.1.1.1
  have sr := h.1.1.2.2.1 0 (by decide) (by decide) (Or.inl rfl)
  obtain ⟨_, _, sc, _⟩ := h.1.2 0 (by decide) (by decide) (Or.inl rfl)
  have r := shp_r sr
  unfold Sc at sc
  rw [sOf_0, show 9 * (0 : Int) + 8 = 8 by omega] at sc
  rcases sc with a | ⟨z, ps, t1, t2, t3⟩
  · exact Or.inl a
  · refine Or.inr ⟨⟨z, (tx_gu iM (i := 0) (by decide) (by decide) z).1⟩, ps, t1, t2, ty.mono (Int.le_of_eq r.2.1) (fun x x0 x1 => ?_) _ _ t3⟩
    have := r.2.2 x x0 (by have := r.2.1; omega)
    rw [show 4 * (0 : Int) + x = x by omega]
    exact ⟨this.1.symm, this.2.symm⟩
/-- the guess is judged -/
theorem q_guess8 {S : SH} {m : Mem} {ps : List Row} {t : Int} (ok : S.ok) (hn : S.nf = (n : Int)) (n12 : n ≤ 12) (k2 : K2 m) (sh : SHC S 4 m) (ca : CA S m) (e12 : mG m 3 12 = t) (h169 : 169 < t) (tt : TT ps t m) (hty : ty S.nr S.k1 S.k2 [(0, 255)] ps) : pw (mX4_truth 2 8 t m) (fun q => q.1 = 63 ∧ WS 63 (n : Int) (TMw S ps) q.2 ∧ FTs 63 m q.2) := by
  refine p_mono (q_truth (s := 8) (t := t) ok (by omega) k2 sh ca (by decide) (by unfold txs; rw [if_pos rfl]; exact e12) h169 (fun x => absurd x (by decide)) tt hty) (fun q y => ?_)
  obtain ⟨y1, _, y3, _, y5⟩ := y
  rw [hn] at y3
  exact ⟨y1, y3, y5⟩
/-- cells that the guess's questions leave alone -/
def FG (M M' : Mem) : Prop := ∀ c j : Int, c ≤ 1 ∨ (3 ≤ c ∧ c ≤ 19) ∨ 65 ≤ c → mG M' c j = mG M c j
theorem q_gworlds {P : Nat → List Row} {ps : List Row} {vw : Nat} {F : Int → Int} (ok : (shp M).ok) (hn : (shp M).nf = (n : Int)) (k2 : K2 M) (sh : SHC (shp M) 4 M) (cb : CB (shp M) M) (g0 : ¬ mG M 3 12 = 0 ∧ 169 < mG M 3 12) (tt : TT ps (mG M 3 12) M) (hty : ty (shp M).nr (shp M).k1 (shp M).k2 [(0, 255)] ps) (hl : pw (mX4_lookUp 2 M) (fun q => (12 < n ∧ q.1 = 0 ∧ q.2 = M) ∨ (n ≤ 12 ∧ q.1 = 1 ∧ LK (shp M) P vw F M q.2))) : pw (mX4_countGuessWorlds 2 M) (fun q => (CB (shp q.2) q.2 ∧ FG M q.2) ∧ ((12 < n ∧ q.1 = -1) ∨ (n ≤ 12 ∧ q.1 = ((ctn (fun w => WDw (shp M) P vw F w && TMw (shp M) ps w) (2 ^ n) : Nat) : Int)))) := by
  obtain ⟨Q, hQ⟩ : ∃ Q : Int × Mem → Prop, Q = fun q => (CB (shp q.2) q.2 ∧ FG M q.2) ∧ ((12 < n ∧ q.1 = -1) ∨ (n ≤ 12 ∧ q.1 = ((ctn (fun w => WDw (shp M) P vw F w && TMw (shp M) ps w) (2 ^ n) : Nat) : Int))) := ⟨_, rfl⟩
  rw [← hQ]
  unfold mX4_countGuessWorlds
  refine p_gFc (ji := 0) rfl k2.c2_0 (p_gFc (ji := 12) rfl rfl (p_it0 g0.1 (p_gK (p_call hl (fun v m y => ?_)))))
  rcases y with ⟨a, b, c⟩ | ⟨a, b, c⟩
  · replace c : m = M := c
    subst c
    refine p_it1 b (p_ret ?_)
    rw [hQ]
    exact ⟨⟨cb, fun _ _ _ => rfl⟩, Or.inl ⟨a, rfl⟩⟩
  replace b : v = 1 := b
  obtain ⟨_, w34, ca, _, fl⟩ := c
  replace w34 : WS 34 (shp M).nf (WDw (shp M) P vw F) m := w34
  replace ca : CA (shp M) m := ca
  replace fl : FLK M m := fl
  rw [hn] at w34
  have km := k2.fl fl
  have e12 : mG m 3 12 = mG M 3 12 := fl 3 12 (nq_0 (by omega))
  refine p_it0 (show ¬ v = 0 by omega) (p_gFc (ji := 6) rfl km.c2_6 (p_gFc (ji := 0) rfl km.c2_0 (p_gFc (ji := 12) rfl e12 (p_gK (p_call (q_guess8 (t := mG M 3 12) ok hn a km (sh.fl fl) ca e12 g0.2 (tt.fl fl g0.2) hty) (fun r m2 y => ?_))))))
  obtain ⟨y1, y3, y5⟩ := y
  replace y1 : r = 63 := y1
  replace y3 : WS 63 (n : Int) (TMw (shp M) ps) m2 := y3
  replace y5 : FTs 63 m m2 := y5
  subst y1
  have g2 : ∀ c j : Int, ¬ c = 2 → ¬ (20 ≤ c ∧ c ≤ 23) → ¬ (63 ≤ c ∧ c ≤ 64) → mG m2 c j = mG m c j := fun c j a b d => y5 c j (by omega) (by omega) (by omega) (by omega) (by omega)
  have c26 : mG m2 2 6 = 34 := (y5 2 6 (by decide) (by decide) (by decide) (by decide) (by decide)).trans km.c2_6
  have v34 : WS 34 (n : Int) (WDw (shp M) P vw F) m2 := w34.kp (fun j => g2 34 j (by decide) (by decide) (by decide)) (fun j => g2 (34 + 1) j (by decide) (by decide) (by decide))
  refine p_gK (p_call (q_keepOnly (l := 34) (l1 := 63) ⟨by omega, by omega⟩ v34 y3 ⟨by decide, by decide⟩) (fun _ m3 y => ?_))
  obtain ⟨w3, f3⟩ := y
  replace w3 : WS 34 (n : Int) (fun w => WDw (shp M) P vw F w && TMw (shp M) ps w) m3 := w3
  replace f3 : FX 35 m2 m3 := f3
  have gg : ∀ c j : Int, c ≤ 1 ∨ (3 ≤ c ∧ c ≤ 19) ∨ (24 ≤ c ∧ c ≤ 31) ∨ 65 ≤ c → mG m3 c j = mG M c j := fun c j hc => (f3 c j (by omega)).trans ((g2 c j (by omega) (by omega) (by omega)).trans (fl c j (nq_0 (by omega))))
  refine p_gFc (ji := 6) rfl ((f3 2 6 (by decide)).trans c26) (p_gK (p_call (q_count (l := 34) ⟨by omega, by omega⟩ w3) (fun r m4 y => p_ret ?_)))
  obtain ⟨z1, z2⟩ := y
  replace z1 : m4 = m3 := z1
  replace z2 : r = ((ctn (fun w => WDw (shp M) P vw F w && TMw (shp M) ps w) (64 * uw (n : Int)) : Nat) : Int) := z2
  subst z1
  rw [ctn_uw a (fun w hw => by rw [wd_out hn hw]; rfl)] at z2
  have es : shp m4 = shp M := shp_go (fun b j x => gg b j (by omega))
  rw [hQ]
  exact ⟨⟨by rw [es]; exact cb.kp (fun c j hc => gg c j (by omega)), fun c j hc => gg c j (by omega)⟩, Or.inr ⟨a, z2⟩⟩
/-- the forms are picked, the guess is judged -/
theorem q_gpick {β : Type} {Q : β → Prop} {P : Nat → List Row} {ps : List Row} {vw : Nat} {F : Int → Int} {n0 : Nat} {K : Int → Mem → Option β} (ok : (shp M).ok) (hn : (shp M).nf = (n : Int)) (iM : I n0 M) (sh : SHC (shp M) 4 M) (cb : CB (shp M) M) (g0 : ¬ mG M 3 12 = 0 ∧ 169 < mG M 3 12) (tt : TT ps (mG M 3 12) M) (hty : ty (shp M).nr (shp M).k1 (shp M).k2 [(0, 255)] ps) (hl : pw (mX4_lookUp 2 M) (fun q => (12 < n ∧ q.1 = 0 ∧ q.2 = M) ∨ (n ≤ 12 ∧ q.1 = 1 ∧ LK (shp M) P vw F M q.2))) (k0 : 12 < n → pw (K (-1) M) Q) {L : Int → Int → Mem → Option β} (k1 : ∀ m, n ≤ 12 → WS 36 (n : Int) (fun w => WDw (shp M) P vw F w && isF (shp M) n w) m → WS 63 (n : Int) (TMw (shp M) ps) m → K2 m → CB (shp M) m → FG M m → pw (L 36 63 m) Q) : pw ((gK 4 M 2).bind fun _ =>
    (mX4_lookUp 2 M).bind fun q11 =>
    if q11.1 = 0 then
      K (-1) q11.2
    else
      (gK 4 q11.2 2).bind fun _ =>
      (mX4_pickForms 2 q11.2).bind fun q20 =>
      (gF 4 7 q20.2 2).bind fun a24 =>
      (gF 4 0 q20.2 2).bind fun a31 =>
      (gF 6 12 q20.2 a31).bind fun a34 =>
      (gK 4 q20.2 2).bind fun _ =>
      (mX4_truth 2 8 a34 q20.2).bind fun q37 => L a24 q37.1 q37.2) Q := by
  have k2 := K2.of iM
  refine p_gK (p_call (p_and hl (p_wp (s_X4_lookUp iM))) (fun v m y => ?_))
  obtain ⟨y, im, _⟩ := y
  replace im : I n0 m := im
  rcases y with ⟨a, b, c⟩ | ⟨a, b, c⟩
  · replace c : m = M := c
    subst c
    exact p_it1 b (k0 a)
  replace b : v = 1 := b
  have lk : LK (shp M) P vw F M m := c
  obtain ⟨_, _, ca, _, fl⟩ := c
  replace ca : CA (shp M) m := ca
  replace fl : FLK M m := fl
  refine p_it0 (show ¬ v = 0 by omega) (p_gK (p_call (p_and (q_picked ok hn a k2 sh cb lk) (p_wp (s_X4_pickForms im))) (fun _ m2 y => ?_)))
  obtain ⟨⟨w36, cb2, g2⟩, i2, _⟩ := y
  replace w36 : WS 36 (n : Int) (fun w => WDw (shp M) P vw F w && isF (shp M) n w) m2 := w36
  replace cb2 : CB (shp M) m2 := cb2
  replace g2 : ∀ c j : Int, ¬ (24 ≤ c ∧ c ≤ 30) → ¬ c = 37 → ¬ (c = 36 ∧ (j = 1 ∨ j = 2)) → mG m2 c j = mG m c j := g2
  replace i2 : I n0 m2 := i2
  have kk := K2.of i2
  have gM : ∀ c j : Int, c ≤ 1 ∨ (3 ≤ c ∧ c ≤ 19) ∨ 65 ≤ c → mG m2 c j = mG M c j := fun c j hc => (g2 c j (by omega) (by omega) (by omega)).trans (fl c j (nq_0 (by omega)))
  have e12 : mG m2 3 12 = mG M 3 12 := gM 3 12 (by decide)
  refine p_gFc (ji := 7) rfl kk.c2_7 (p_gFc (ji := 0) rfl kk.c2_0 (p_gFc (ji := 12) rfl e12 (p_gK (p_call (q_guess8 (t := mG M 3 12) ok hn a kk (sh.kp (fun c j c0 c1 => gM c j (by omega))) (ca.sk (fun c j hc => g2 c j (by omega) (by omega) (by omega))) e12 g0.2 (tt.of (fun b j b0 b1 => gM b j (by omega))) hty) (fun r m3 y => ?_)))))
  obtain ⟨y1, y3, y5⟩ := y
  replace y1 : r = 63 := y1
  replace y3 : WS 63 (n : Int) (TMw (shp M) ps) m3 := y3
  replace y5 : FTs 63 m2 m3 := y5
  subst y1
  have g3 : ∀ c j : Int, ¬ c = 2 → ¬ (20 ≤ c ∧ c ≤ 23) → ¬ (63 ≤ c ∧ c ≤ 64) → mG m3 c j = mG m2 c j := fun c j a b d => y5 c j (by omega) (by omega) (by omega) (by omega) (by omega)
  refine k1 m3 a (w36.kp (fun j => g3 36 j (by decide) (by decide) (by decide)) (fun j => g3 (36 + 1) j (by decide) (by decide) (by decide))) y3 (kk.fl (FTs.fl (s := 8) y5 (by decide))) (cb2.kp (fun c j hc => g3 c j (by omega) (by omega) (by omega))) (fun c j hc => (g3 c j (by omega) (by omega) (by omega)).trans (gM c j hc))
theorem q_gforms {P : Nat → List Row} {ps : List Row} {vw : Nat} {F : Int → Int} {n0 : Nat} (ok : (shp M).ok) (hn : (shp M).nf = (n : Int)) (iM : I n0 M) (sh : SHC (shp M) 4 M) (cb : CB (shp M) M) (g0 : ¬ mG M 3 12 = 0 ∧ 169 < mG M 3 12) (tt : TT ps (mG M 3 12) M) (hty : ty (shp M).nr (shp M).k1 (shp M).k2 [(0, 255)] ps) (hl : pw (mX4_lookUp 2 M) (fun q => (12 < n ∧ q.1 = 0 ∧ q.2 = M) ∨ (n ≤ 12 ∧ q.1 = 1 ∧ LK (shp M) P vw F M q.2))) : pw (mX4_countGuessForms 2 M) (fun q => (CB (shp q.2) q.2 ∧ FG M q.2) ∧ ((12 < n ∧ q.1 = -1) ∨ (n ≤ 12 ∧ q.1 = ((ctn (fun w => (WDw (shp M) P vw F w && isF (shp M) n w) && TMw (shp M) ps w) (2 ^ n) : Nat) : Int)))) := by
  have k2 := K2.of iM
  unfold mX4_countGuessForms
  refine p_gFc (ji := 0) rfl k2.c2_0 (p_gFc (ji := 12) rfl rfl (p_it0 g0.1 ?_))
  refine q_gpick (K := fun v m => some (v, m)) (L := fun a b m => (gK 7 m a).bind fun _ => (mX7_keepOnly a b m).bind fun q40 => (gF 4 7 q40.2 2).bind fun a44 => (gK 7 q40.2 a44).bind fun _ => (mX7_count a44 q40.2).bind fun q47 => some (q47.1, q47.2)) ok hn iM sh cb g0 tt hty hl (fun c => p_ret ⟨⟨cb, fun _ _ _ => rfl⟩, Or.inl ⟨c, rfl⟩⟩) (fun m n12 w36 w63 km cb2 fg => ?_)
  refine p_gK (p_call (q_keepOnly (l := 36) (l1 := 63) ⟨by omega, by omega⟩ w36 w63 ⟨by decide, by decide⟩) (fun _ m3 y => ?_))
  obtain ⟨w3, f3⟩ := y
  replace w3 : WS 36 (n : Int) (fun w => (WDw (shp M) P vw F w && isF (shp M) n w) && TMw (shp M) ps w) m3 := w3
  replace f3 : FX 37 m m3 := f3
  refine p_gFc (ji := 7) rfl ((f3 2 7 (by decide)).trans km.c2_7) (p_gK (p_call (q_count (l := 36) ⟨by omega, by omega⟩ w3) (fun r m4 y => p_ret ?_)))
  obtain ⟨z1, z2⟩ := y
  replace z1 : m4 = m3 := z1
  replace z2 : r = ((ctn (fun w => (WDw (shp M) P vw F w && isF (shp M) n w) && TMw (shp M) ps w) (64 * uw (n : Int)) : Nat) : Int) := z2
  subst z1
  rw [ctn_uw n12 (fun w hw => by rw [wd_out hn hw]; rfl)] at z2
  have gg : FG M m4 := fun c j hc => (f3 c j (by omega)).trans (fg c j hc)
  have es : shp m4 = shp M := shp_go (fun b j x => gg b j (by omega))
  exact ⟨⟨by rw [es]; exact cb2.kp (fun c j hc => f3 c j (by omega)), gg⟩, Or.inr ⟨n12, z2⟩⟩
theorem q_gagainst {P : Nat → List Row} {ps : List Row} {vw : Nat} {F : Int → Int} {n0 : Nat} (ok : (shp M).ok) (hn : (shp M).nf = (n : Int)) (iM : I n0 M) (sh : SHC (shp M) 4 M) (cb : CB (shp M) M) (g0 : ¬ mG M 3 12 = 0 ∧ 169 < mG M 3 12) (tt : TT ps (mG M 3 12) M) (hty : ty (shp M).nr (shp M).k1 (shp M).k2 [(0, 255)] ps) (hl : pw (mX4_lookUp 2 M) (fun q => (12 < n ∧ q.1 = 0 ∧ q.2 = M) ∨ (n ≤ 12 ∧ q.1 = 1 ∧ LK (shp M) P vw F M q.2))) : pw (mX4_formAgainst 2 M) (fun q => (CB (shp q.2) q.2 ∧ FG M q.2) ∧ ((12 < n ∧ q.1 = -1) ∨ (n ≤ 12 ∧ NTH (fun w => (WDw (shp M) P vw F w && isF (shp M) n w) && !TMw (shp M) ps w) (2 ^ n) 0 q.1))) := by
  have k2 := K2.of iM
  unfold mX4_formAgainst
  refine p_gFc (ji := 0) rfl k2.c2_0 (p_gFc (ji := 12) rfl rfl (p_it0 g0.1 ?_))
  refine q_gpick (K := fun v m => some (v, m)) (L := fun a b m => (gK 7 m a).bind fun _ => (mX7_drop a b m).bind fun q40 => (gF 4 7 q40.2 2).bind fun a44 => (gK 7 q40.2 a44).bind fun _ => (mX7_nth a44 0 q40.2).bind fun q48 => some (q48.1, q48.2)) ok hn iM sh cb g0 tt hty hl (fun c => p_ret ⟨⟨cb, fun _ _ _ => rfl⟩, Or.inl ⟨c, rfl⟩⟩) (fun m n12 w36 w63 km cb2 fg => ?_)
  refine p_gK (p_call (q_drop (l := 36) (l1 := 63) ⟨by omega, by omega⟩ w36 w63 ⟨by decide, by decide⟩) (fun _ m3 y => ?_))
  obtain ⟨w3, f3⟩ := y
  replace w3 : WS 36 (n : Int) (fun w => (WDw (shp M) P vw F w && isF (shp M) n w) && !TMw (shp M) ps w) m3 := w3
  replace f3 : FX 37 m m3 := f3
  refine p_gFc (ji := 7) rfl ((f3 2 7 (by decide)).trans km.c2_7) (p_gK (p_call (q_nth (l := 36) (k := 0) (by decide) ⟨by omega, by omega⟩ w3) (fun r m4 y => p_ret ?_)))
  obtain ⟨z1, z2⟩ := y
  replace z1 : m4 = m3 := z1
  replace z2 : NTH (fun w => (WDw (shp M) P vw F w && isF (shp M) n w) && !TMw (shp M) ps w) (2 ^ (n : Int).toNat) 0 r := z2
  subst z1
  rw [Int.toNat_natCast] at z2
  have gg : FG M m4 := fun c j hc => (f3 c j (by omega)).trans (fg c j hc)
  have es : shp m4 = shp M := shp_go (fun b j x => gg b j (by omega))
  exact ⟨⟨by rw [es]; exact cb2.kp (fun c j hc => f3 c j (by omega)), gg⟩, Or.inr ⟨n12, z2⟩⟩
theorem cb_holds {l : Int} (h : JB M) : pw (mX8_holds 1 l M) (fun q => CB (shp q.2) q.2) := by
  obtain ⟨P, n, ok, hn, k2, sh, tp, rf, ve, vlt, h1, hl⟩ := look h.1
  have iM := h.1.1.1.1
  unfold mX8_holds
  rcases guess_P h.1 with ⟨a, _⟩ | ⟨g0, ps, tt, _, hty⟩
  · refine p_if (fun _ => ?_) (fun _ => p_if (fun _ => ?_) (fun _ => p_ret h.2))
    · unfold mX4_countGuessWorlds
      exact p_gFc (ji := 0) rfl h1.1 (p_gK (p_call (P := fun q => q.2 = M) (p_gFc (ji := 0) rfl k2.c2_0 (p_gFc (ji := 12) rfl rfl (p_it1 a (p_ret rfl)))) (fun v m e => p_ret (by
        replace e : m = M := e
        show CB (shp m) m
        rw [e]; exact h.2))))
    · unfold mX4_countGuessForms
      exact p_gFc (ji := 0) rfl h1.1 (p_gK (p_call (P := fun q => q.2 = M) (p_gFc (ji := 0) rfl k2.c2_0 (p_gFc (ji := 12) rfl rfl (p_it1 a (p_ret rfl)))) (fun v m e => p_ret (by
        replace e : m = M := e
        show CB (shp m) m
        rw [e]; exact h.2))))
  · refine p_if (fun _ => ?_) (fun _ => p_if (fun _ => ?_) (fun _ => p_ret h.2))
    · exact p_gFc (ji := 0) rfl h1.1 (p_gK (p_call (q_gworlds ok hn k2 sh h.2 g0 tt hty hl) (fun v m y => p_ret y.1.1)))
    · exact p_gFc (ji := 0) rfl h1.1 (p_gK (p_call (q_gforms ok hn iM sh h.2 g0 tt hty hl) (fun v m y => p_ret y.1.1)))
theorem cb_against (h : JB M) : pw (mX8_against 1 M) (fun q => CB (shp q.2) q.2) := by
  obtain ⟨P, n, ok, hn, k2, sh, tp, rf, ve, vlt, h1, hl⟩ := look h.1
  have iM := h.1.1.1.1
  unfold mX8_against
  refine p_gFc (ji := 0) rfl h1.1 (p_gK (p_call (P := fun q => CB (shp q.2) q.2 ∧ I (mN M) q.2) (p_and ?_ (p_mono (p_wp (s_X4_formAgainst iM)) (fun q y => y.1))) (fun v m y => p_gK (p_call (cb_becomes y.2 y.1) (fun v m y => p_zR (fun _ => p_ret y))))))
  rcases guess_P h.1 with ⟨a, _⟩ | ⟨g0, ps, tt, _, hty⟩
  · unfold mX4_formAgainst
    exact p_gFc (ji := 0) rfl k2.c2_0 (p_gFc (ji := 12) rfl rfl (p_it1 a (p_ret h.2)))
  · exact p_mono (q_gagainst ok hn iM sh h.2 g0 tt hty hl) (fun q y => y.1.1)
end
end
section
/-! ===== JB is kept by every call ===== -/
section
variable {M : Mem}
theorem jb_size {l1 l2 : Int} (r1 : (-2147483648) ≤ l1 ∧ l1 ≤ 2147483647) (r2 : (-2147483648) ≤ l2 ∧ l2 ≤ 2147483647) (h : JB M) : wp (mX8_size 1 l1 l2 M) (fun q1 => wp (mX9_size 126 l1 l2 q1.2) (fun q2 => JB q2.2)) :=
  J3.ux h.1 (X := fun m => CB (shp m) m) (fun n M1 M2 i c g => CB.f9 i c g) (j3_size r1 r2 h.1) (hx_of h.1 (s_X8_size r1 r2 h.1.1.1.1) (fun b j z => by unfold W_X8_size at z; omega)) (cb_size r1 r2 h) (fun n m w i => s_X9_size r1 r2 i) (fun b j z => by unfold W_X9_size at z; omega)
theorem jb_relation {l1 l2 : Int} (r1 : (-2147483648) ≤ l1 ∧ l1 ≤ 2147483647) (r2 : (-2147483648) ≤ l2 ∧ l2 ≤ 2147483647) (h : JB M) : wp (mX8_relation 1 l1 l2 M) (fun q1 => wp (mX9_relation 126 l1 l2 q1.2) (fun q2 => JB q2.2)) :=
  J3.ux h.1 (X := fun m => CB (shp m) m) (fun n M1 M2 i c g => CB.f9 i c g) (j3_relation r1 r2 h.1) (hx_of h.1 (s_X8_relation r1 r2 h.1.1.1.1) (fun b j z => by unfold W_X8_relation at z; omega)) (cb_relation r1 r2 h) (fun n m w i => s_X9_relation r1 r2 i) (fun b j z => by unfold W_X9_relation at z; omega)
theorem jb_facts (h : JB M) : wp (mX8_facts 1 M) (fun q1 => wp (mX9_facts 126 q1.2) (fun q2 => JB q2.2)) :=
  J3.ux h.1 (X := fun m => CB (shp m) m) (fun n M1 M2 i c g => CB.f9 i c g) (j3_facts  h.1) (hx_of h.1 (s_X8_facts  h.1.1.1.1) (fun b j z => False.elim z)) (cb_of h (s_X8_facts  h.1.1.1.1) (fun b j z => False.elim z)) (fun n m w i => s_X9_facts  i) (fun b j z => by unfold W_X9_facts at z; omega)
theorem jb_tell {l1 l2 l3 l4 : Int} (r1 : (-2147483648) ≤ l1 ∧ l1 ≤ 2147483647) (r2 : (-2147483648) ≤ l2 ∧ l2 ≤ 2147483647) (r3 : (-2147483648) ≤ l3 ∧ l3 ≤ 2147483647) (r4 : 0 ≤ l4 ∧ l4 ≤ 1) (h : JB M) : wp (mX8_tell 1 l1 l2 l3 l4 M) (fun q1 => wp (mX9_tell 126 l1 l2 l3 l4 q1.2) (fun q2 => JB q2.2)) :=
  J3.ux h.1 (X := fun m => CB (shp m) m) (fun n M1 M2 i c g => CB.f9 i c g) (j3_tell r1 r2 r3 r4 h.1) (hx_of h.1 (s_X8_tell r1 r2 r3 r4 h.1.1.1.1) (fun b j z => by unfold W_X8_tell at z; omega)) (cb_of h (s_X8_tell r1 r2 r3 r4 h.1.1.1.1) (fun b j z => by unfold W_X8_tell at z; unfold NBC; omega)) (fun n m w i => s_X9_tell r1 r2 r3 r4 i) (fun b j z => by unfold W_X9_tell at z; omega)
theorem jb_fact {l1 l2 l3 : Int} (r1 : (-2147483648) ≤ l1 ∧ l1 ≤ 2147483647) (r2 : (-2147483648) ≤ l2 ∧ l2 ≤ 2147483647) (r3 : (-2147483648) ≤ l3 ∧ l3 ≤ 2147483647) (h : JB M) : wp (mX8_fact 1 l1 l2 l3 M) (fun q1 => wp (mX9_fact 126 l1 l2 l3 q1.2) (fun q2 => JB q2.2)) :=
  J3.ux h.1 (X := fun m => CB (shp m) m) (fun n M1 M2 i c g => CB.f9 i c g) (j3_fact r1 r2 r3 h.1) (hx_of h.1 (s_X8_fact r1 r2 r3 h.1.1.1.1) (fun b j z => False.elim z)) (cb_of h (s_X8_fact r1 r2 r3 h.1.1.1.1) (fun b j z => False.elim z)) (fun n m w i => s_X9_fact r1 r2 r3 i) (fun b j z => by unfold W_X9_fact at z; omega)
theorem jb_known {l1 l2 l3 l4 : Int} (r1 : (-2147483648) ≤ l1 ∧ l1 ≤ 2147483647) (r2 : (-2147483648) ≤ l2 ∧ l2 ≤ 2147483647) (r3 : (-2147483648) ≤ l3 ∧ l3 ≤ 2147483647) (r4 : 0 ≤ l4 ∧ l4 ≤ 1) (h : JB M) : wp (mX8_known 1 l1 l2 l3 l4 M) (fun q1 => wp (mX9_known 126 l1 l2 l3 l4 q1.2) (fun q2 => JB q2.2)) :=
  J3.ux h.1 (X := fun m => CB (shp m) m) (fun n M1 M2 i c g => CB.f9 i c g) (j3_known r1 r2 r3 r4 h.1) (hx_of h.1 (s_X8_known r1 r2 r3 r4 h.1.1.1.1) (fun b j z => by unfold W_X8_known at z; omega)) (cb_of h (s_X8_known r1 r2 r3 r4 h.1.1.1.1) (fun b j z => by unfold W_X8_known at z; unfold NBC; omega)) (fun n m w i => s_X9_known r1 r2 r3 r4 i) (fun b j z => by unfold W_X9_known at z; omega)
theorem jb_keep {l1 : Int} (r1 : (-2147483648) ≤ l1 ∧ l1 ≤ 2147483647) (h : JB M) : wp (mX8_keep 1 l1 M) (fun q1 => wp (mX9_keep 126 l1 q1.2) (fun q2 => JB q2.2)) :=
  J3.ux h.1 (X := fun m => CB (shp m) m) (fun n M1 M2 i c g => CB.f9 i c g) (j3_keep r1 h.1) (hx_of h.1 (s_X8_keep r1 h.1.1.1.1) (fun b j z => by unfold W_X8_keep at z; omega)) (cb_of h (s_X8_keep r1 h.1.1.1.1) (fun b j z => by unfold W_X8_keep at z; unfold NBC; omega)) (fun n m w i => s_X9_keep r1 i) (fun b j z => by unfold W_X9_keep at z; omega)
theorem jb_apart {l1 : Int} (r1 : (-2147483648) ≤ l1 ∧ l1 ≤ 2147483647) (h : JB M) : wp (mX8_apart 1 l1 M) (fun q1 => wp (mX9_apart 126 l1 q1.2) (fun q2 => JB q2.2)) :=
  J3.ux h.1 (X := fun m => CB (shp m) m) (fun n M1 M2 i c g => CB.f9 i c g) (j3_apart r1 h.1) (hx_of h.1 (s_X8_apart r1 h.1.1.1.1) (fun b j z => by unfold W_X8_apart at z; omega)) (cb_apart  h) (fun n m w i => s_X9_apart r1 i) (fun b j z => by unfold W_X9_apart at z; omega)
theorem jb_feed {l1 l2 l3 l4 l5 : Int} (r1 : (-2147483648) ≤ l1 ∧ l1 ≤ 2147483647) (r2 : (-2147483648) ≤ l2 ∧ l2 ≤ 2147483647) (r3 : (-2147483648) ≤ l3 ∧ l3 ≤ 2147483647) (r4 : (-2147483648) ≤ l4 ∧ l4 ≤ 2147483647) (r5 : (-2147483648) ≤ l5 ∧ l5 ≤ 2147483647) (h : JB M) : wp (mX8_feed 1 l1 l2 l3 l4 l5 M) (fun q1 => wp (mX9_feed 126 l1 l2 l3 l4 l5 q1.2) (fun q2 => JB q2.2)) :=
  J3.ux h.1 (X := fun m => CB (shp m) m) (fun n M1 M2 i c g => CB.f9 i c g) (j3_feed r1 r2 r3 r4 r5 h.1) (hx_of h.1 (s_X8_feed r1 r2 r3 r4 r5 h.1.1.1.1) (fun b j z => by unfold W_X8_feed at z; omega)) (cb_of h (s_X8_feed r1 r2 r3 r4 r5 h.1.1.1.1) (fun b j z => by unfold W_X8_feed at z; unfold NBC; omega)) (fun n m w i => s_X9_feed r1 r2 r3 r4 r5 i) (fun b j z => by unfold W_X9_feed at z; omega)
theorem jb_end {l1 : Int} (r1 : (-2147483648) ≤ l1 ∧ l1 ≤ 2147483647) (h : JB M) : wp (mX8_end 1 l1 M) (fun q1 => wp (mX9_end 126 l1 q1.2) (fun q2 => JB q2.2)) :=
  J3.ux h.1 (X := fun m => CB (shp m) m) (fun n M1 M2 i c g => CB.f9 i c g) (j3_end r1 h.1) (hx_of h.1 (s_X8_end r1 h.1.1.1.1) (fun b j z => by unfold W_X8_end at z; omega)) (cb_of h (s_X8_end r1 h.1.1.1.1) (fun b j z => by unfold W_X8_end at z; unfold NBC; omega)) (fun n m w i => s_X9_end r1 i) (fun b j z => by unfold W_X9_end at z; omega)
theorem jb_story (h : JB M) : wp (mX8_story 1 M) (fun q1 => wp (mX9_story 126 q1.2) (fun q2 => JB q2.2)) :=
  J3.ux h.1 (X := fun m => CB (shp m) m) (W9 := W_X9_story) (P9 := fun _ => True) (fun n M1 M2 i c g => CB.f9 i c g) (j3_story  h.1) (p_mono (p_wp (s_X8_story h.1.1.1.1)) (fun q y => by
    obtain ⟨⟨n, hn, i2, k2, _⟩, _⟩ := y
    exact ⟨⟨n, i2⟩, k2.f9 (by have := h.1.1.1.1.2.2.2.2.1; omega) (fun b j z => by unfold W_X8_story at z; omega)⟩)) (cb_story  h) (fun n m w i => w_mono (s_X9_story w i) (fun q z => ⟨z.1, z.2.1, True.intro⟩)) (fun b j z => by unfold W_X9_story at z; omega)
theorem jb_guess (h : JB M) : wp (mX8_guess 1 M) (fun q1 => wp (mX9_guess 126 q1.2) (fun q2 => JB q2.2)) :=
  J3.ux h.1 (X := fun m => CB (shp m) m) (W9 := W_X9_guess) (P9 := fun _ => True) (fun n M1 M2 i c g => CB.f9 i c g) (j3_guess  h.1) (p_mono (p_wp (s_X8_guess h.1.1.1.1)) (fun q y => by
    obtain ⟨⟨n, hn, i2, k2, _⟩, _⟩ := y
    exact ⟨⟨n, i2⟩, k2.f9 (by have := h.1.1.1.1.2.2.2.2.1; omega) (fun b j z => by unfold W_X8_guess at z; omega)⟩)) (cb_guess  h) (fun n m w i => w_mono (s_X9_guess w i) (fun q z => ⟨z.1, z.2.1, True.intro⟩)) (fun b j z => by unfold W_X9_guess at z; omega)
theorem jb_fault {l1 : Int} (r1 : (-2147483648) ≤ l1 ∧ l1 ≤ 2147483647) (h : JB M) : wp (mX8_fault 1 l1 M) (fun q1 => wp (mX9_fault 126 l1 q1.2) (fun q2 => JB q2.2)) :=
  J3.ux h.1 (X := fun m => CB (shp m) m) (fun n M1 M2 i c g => CB.f9 i c g) (j3_fault r1 h.1) (hx_of h.1 (s_X8_fault r1 h.1.1.1.1) (fun b j z => False.elim z)) (cb_of h (s_X8_fault r1 h.1.1.1.1) (fun b j z => False.elim z)) (fun n m w i => s_X9_fault r1 i) (fun b j z => by unfold W_X9_fault at z; omega)
theorem jb_strike {l1 : Int} (r1 : (-2147483648) ≤ l1 ∧ l1 ≤ 2147483647) (h : JB M) : wp (mX8_strike 1 l1 M) (fun q1 => wp (mX9_strike 126 l1 q1.2) (fun q2 => JB q2.2)) :=
  J3.ux h.1 (X := fun m => CB (shp m) m) (fun n M1 M2 i c g => CB.f9 i c g) (j3_strike r1 h.1) (hx_of h.1 (s_X8_strike r1 h.1.1.1.1) (fun b j z => by unfold W_X8_strike at z; omega)) (cb_of h (s_X8_strike r1 h.1.1.1.1) (fun b j z => by unfold W_X8_strike at z; unfold NBC; omega)) (fun n m w i => s_X9_strike r1 i) (fun b j z => by unfold W_X9_strike at z; omega)
theorem jb_day {l1 : Int} (r1 : (-2147483648) ≤ l1 ∧ l1 ≤ 2147483647) (h : JB M) : wp (mX8_day 1 l1 M) (fun q1 => wp (mX9_day 126 l1 q1.2) (fun q2 => JB q2.2)) :=
  J3.ux h.1 (X := fun m => CB (shp m) m) (fun n M1 M2 i c g => CB.f9 i c g) (j3_day r1 h.1) (hx_of h.1 (s_X8_day r1 h.1.1.1.1) (fun b j z => by unfold W_X8_day at z; omega)) (cb_of h (s_X8_day r1 h.1.1.1.1) (fun b j z => by unfold W_X8_day at z; unfold NBC; omega)) (fun n m w i => s_X9_day r1 i) (fun b j z => by unfold W_X9_day at z; omega)
theorem jb_view {l1 : Int} (r1 : (-2147483648) ≤ l1 ∧ l1 ≤ 2147483647) (h : JB M) : wp (mX8_view 1 l1 M) (fun q1 => wp (mX9_view 126 l1 q1.2) (fun q2 => JB q2.2)) :=
  J3.ux h.1 (X := fun m => CB (shp m) m) (fun n M1 M2 i c g => CB.f9 i c g) (j3_view r1 h.1) (hx_of h.1 (s_X8_view r1 h.1.1.1.1) (fun b j z => by unfold W_X8_view at z; omega)) (cb_of h (s_X8_view r1 h.1.1.1.1) (fun b j z => by unfold W_X8_view at z; unfold NBC; omega)) (fun n m w i => s_X9_view r1 i) (fun b j z => by unfold W_X9_view at z; omega)
theorem jb_so {l1 : Int} (r1 : (-2147483648) ≤ l1 ∧ l1 ≤ 2147483647) (h : JB M) : wp (mX8_so 1 l1 M) (fun q1 => wp (mX9_so 126 l1 q1.2) (fun q2 => JB q2.2)) :=
  J3.ux h.1 (X := fun m => CB (shp m) m) (fun n M1 M2 i c g => CB.f9 i c g) (j3_so r1 h.1) (hx_of h.1 (s_X8_so r1 h.1.1.1.1) (fun b j z => by unfold W_X8_so at z; omega)) (cb_of h (s_X8_so r1 h.1.1.1.1) (fun b j z => by unfold W_X8_so at z; unfold NBC; omega)) (fun n m w i => s_X9_so r1 w i) (fun b j z => by unfold W_X9_so at z; omega)
theorem jb_breaks {l1 l2 : Int} (r1 : (-2147483648) ≤ l1 ∧ l1 ≤ 2147483647) (r2 : (-2147483648) ≤ l2 ∧ l2 ≤ 2147483647) (h : JB M) : wp (mX8_breaks 1 l1 l2 M) (fun q1 => wp (mX9_breaks 126 l1 l2 q1.2) (fun q2 => JB q2.2)) :=
  J3.ux h.1 (X := fun m => CB (shp m) m) (fun n M1 M2 i c g => CB.f9 i c g) (j3_breaks r1 r2 h.1) (hx_of h.1 (s_X8_breaks r1 r2 h.1.1.1.1) (fun b j z => by unfold W_X8_breaks at z; omega)) (cb_of h (s_X8_breaks r1 r2 h.1.1.1.1) (fun b j z => by unfold W_X8_breaks at z; unfold NBC; omega)) (fun n m w i => s_X9_breaks r1 r2 w i) (fun b j z => by unfold W_X9_breaks at z; omega)
theorem jb_worlds (h : JB M) : wp (mX8_worlds 1 M) (fun q1 => wp (mX9_worlds 126 q1.2) (fun q2 => JB q2.2)) :=
  J3.ux h.1 (X := fun m => CB (shp m) m) (fun n M1 M2 i c g => CB.f9 i c g) (j3_worlds  h.1) (hx_of h.1 (s_X8_worlds  h.1.1.1.1) (fun b j z => by unfold W_X8_worlds at z; unfold isWS at z; omega)) (cb_worlds  h) (fun n m w i => s_X9_worlds  w i) (fun b j z => by unfold W_X9_worlds at z; omega)
theorem jb_forms (h : JB M) : wp (mX8_forms 1 M) (fun q1 => wp (mX9_forms 126 q1.2) (fun q2 => JB q2.2)) :=
  J3.ux h.1 (X := fun m => CB (shp m) m) (fun n M1 M2 i c g => CB.f9 i c g) (j3_forms  h.1) (hx_of h.1 (s_X8_forms  h.1.1.1.1) (fun b j z => by unfold W_X8_forms at z; unfold isWS at z; omega)) (cb_forms  h) (fun n m w i => s_X9_forms  w i) (fun b j z => by unfold W_X9_forms at z; omega)
theorem jb_form {l1 : Int} (r1 : (-2147483648) ≤ l1 ∧ l1 ≤ 2147483647) (h : JB M) : wp (mX8_form 1 l1 M) (fun q1 => wp (mX9_form 126 l1 q1.2) (fun q2 => JB q2.2)) :=
  J3.ux h.1 (X := fun m => CB (shp m) m) (fun n M1 M2 i c g => CB.f9 i c g) (j3_form r1 h.1) (hx_of h.1 (s_X8_form r1 h.1.1.1.1) (fun b j z => by unfold W_X8_form at z; unfold isWS at z; omega)) (cb_form r1 h) (fun n m w i => s_X9_form r1 w i) (fun b j z => by unfold W_X9_form at z; omega)
theorem jb_name (h : JB M) : wp (mX8_name 1 M) (fun q1 => wp (mX9_name 126 q1.2) (fun q2 => JB q2.2)) :=
  J3.ux h.1 (X := fun m => CB (shp m) m) (fun n M1 M2 i c g => CB.f9 i c g) (j3_name  h.1) (hx_of h.1 (s_X8_name  h.1.1.1.1) (fun b j z => by unfold W_X8_name at z; omega)) (cb_name  h) (fun n m w i => s_X9_name  i) (fun b j z => by unfold W_X9_name at z; omega)
theorem jb_least {l1 : Int} (r1 : (-2147483648) ≤ l1 ∧ l1 ≤ 2147483647) (h : JB M) : wp (mX8_least 1 l1 M) (fun q1 => wp (mX9_least 126 l1 q1.2) (fun q2 => JB q2.2)) :=
  J3.ux h.1 (X := fun m => CB (shp m) m) (fun n M1 M2 i c g => CB.f9 i c g) (j3_least r1 h.1) (hx_of h.1 (s_X8_least r1 h.1.1.1.1) (fun b j z => by unfold W_X8_least at z; omega)) (cb_of h (s_X8_least r1 h.1.1.1.1) (fun b j z => by unfold W_X8_least at z; unfold NBC; omega)) (fun n m w i => s_X9_least r1 w i) (fun b j z => by unfold W_X9_least at z; omega)
theorem jb_core {l1 : Int} (r1 : (-2147483648) ≤ l1 ∧ l1 ≤ 2147483647) (h : JB M) : wp (mX8_core 1 l1 M) (fun q1 => wp (mX9_core 126 l1 q1.2) (fun q2 => JB q2.2)) :=
  J3.ux h.1 (X := fun m => CB (shp m) m) (fun n M1 M2 i c g => CB.f9 i c g) (j3_core r1 h.1) (hx_of h.1 (s_X8_core r1 h.1.1.1.1) (fun b j z => by unfold W_X8_core at z; unfold isWS at z; omega)) (cb_core r1 h) (fun n m w i => s_X9_core r1 w i) (fun b j z => by unfold W_X9_core at z; omega)
theorem jb_sure {l1 l2 l3 : Int} (r1 : (-2147483648) ≤ l1 ∧ l1 ≤ 2147483647) (r2 : (-2147483648) ≤ l2 ∧ l2 ≤ 2147483647) (r3 : (-2147483648) ≤ l3 ∧ l3 ≤ 2147483647) (h : JB M) : wp (mX8_sure 1 l1 l2 l3 M) (fun q1 => wp (mX9_sure 126 l1 l2 l3 q1.2) (fun q2 => JB q2.2)) :=
  J3.ux h.1 (X := fun m => CB (shp m) m) (fun n M1 M2 i c g => CB.f9 i c g) (j3_sure r1 r2 r3 h.1) (hx_of h.1 (s_X8_sure r1 r2 r3 h.1.1.1.1) (fun b j z => by unfold W_X8_sure at z; unfold isWS at z; omega)) (cb_sure r2 r3 h) (fun n m w i => s_X9_sure r1 r2 r3 w i) (fun b j z => by unfold W_X9_sure at z; omega)
theorem jb_cause {l1 l2 l3 l4 : Int} (r1 : (-2147483648) ≤ l1 ∧ l1 ≤ 2147483647) (r2 : (-2147483648) ≤ l2 ∧ l2 ≤ 2147483647) (r3 : (-2147483648) ≤ l3 ∧ l3 ≤ 2147483647) (r4 : (-2147483648) ≤ l4 ∧ l4 ≤ 2147483647) (h : JB M) : wp (mX8_cause 1 l1 l2 l3 l4 M) (fun q1 => wp (mX9_cause 126 l1 l2 l3 l4 q1.2) (fun q2 => JB q2.2)) :=
  J3.ux h.1 (X := fun m => CB (shp m) m) (fun n M1 M2 i c g => CB.f9 i c g) (j3_cause r1 r2 r3 r4 h.1) (hx_of h.1 (s_X8_cause r1 r2 r3 r4 h.1.1.1.1) (fun b j z => by unfold W_X8_cause at z; unfold isWS at z; omega)) (cb_cause r2 r3 r4 h) (fun n m w i => s_X9_cause r1 r2 r3 r4 w i) (fun b j z => by unfold W_X9_cause at z; omega)
theorem jb_without {l1 : Int} (r1 : (-2147483648) ≤ l1 ∧ l1 ≤ 2147483647) (h : JB M) : wp (mX8_without 1 l1 M) (fun q1 => wp (mX9_without 126 l1 q1.2) (fun q2 => JB q2.2)) :=
  J3.ux h.1 (X := fun m => CB (shp m) m) (fun n M1 M2 i c g => CB.f9 i c g) (j3_without r1 h.1) (hx_of h.1 (s_X8_without r1 h.1.1.1.1) (fun b j z => by unfold W_X8_without at z; unfold isWS at z; omega)) (cb_without  h) (fun n m w i => s_X9_without r1 w i) (fun b j z => by unfold W_X9_without at z; omega)
theorem jb_questions (h : JB M) : wp (mX8_questions 1 M) (fun q1 => wp (mX9_questions 126 q1.2) (fun q2 => JB q2.2)) :=
  J3.ux h.1 (X := fun m => CB (shp m) m) (fun n M1 M2 i c g => CB.f9 i c g) (j3_questions  h.1) (hx_of h.1 (s_X8_questions  h.1.1.1.1) (fun b j z => by unfold W_X8_questions at z; unfold isWS at z; omega)) (cb_questions  h) (fun n m w i => s_X9_questions  w i) (fun b j z => by unfold W_X9_questions at z; omega)
theorem jb_settle {l1 : Int} (r1 : (-2147483648) ≤ l1 ∧ l1 ≤ 2147483647) (h : JB M) : wp (mX8_settle 1 l1 M) (fun q1 => wp (mX9_settle 126 l1 q1.2) (fun q2 => JB q2.2)) :=
  J3.ux h.1 (X := fun m => CB (shp m) m) (fun n M1 M2 i c g => CB.f9 i c g) (j3_settle r1 h.1) (hx_of h.1 (s_X8_settle r1 h.1.1.1.1) (fun b j z => by unfold W_X8_settle at z; unfold isWS at z; omega)) (cb_settle  h) (fun n m w i => s_X9_settle r1 w i) (fun b j z => by unfold W_X9_settle at z; omega)
theorem jb_near (h : JB M) : wp (mX8_near 1 M) (fun q1 => wp (mX9_near 126 q1.2) (fun q2 => JB q2.2)) :=
  J3.ux h.1 (X := fun m => CB (shp m) m) (fun n M1 M2 i c g => CB.f9 i c g) (j3_near  h.1) (hx_of h.1 (s_X8_near  h.1.1.1.1) (fun b j z => by unfold W_X8_near at z; unfold isWS at z; omega)) (cb_near  h) (fun n m w i => s_X9_near  w i) (fun b j z => by unfold W_X9_near at z; omega)
theorem jb_holds {l1 : Int} (r1 : (-2147483648) ≤ l1 ∧ l1 ≤ 2147483647) (h : JB M) : wp (mX8_holds 1 l1 M) (fun q1 => wp (mX9_holds 126 l1 q1.2) (fun q2 => JB q2.2)) :=
  J3.ux h.1 (X := fun m => CB (shp m) m) (fun n M1 M2 i c g => CB.f9 i c g) (j3_holds r1 h.1) (hx_of h.1 (s_X8_holds r1 h.1.1.1.1) (fun b j z => by unfold W_X8_holds at z; unfold isWS at z; omega)) (cb_holds  h) (fun n m w i => s_X9_holds r1 w i) (fun b j z => by unfold W_X9_holds at z; omega)
theorem jb_against (h : JB M) : wp (mX8_against 1 M) (fun q1 => wp (mX9_against 126 q1.2) (fun q2 => JB q2.2)) :=
  J3.ux h.1 (X := fun m => CB (shp m) m) (fun n M1 M2 i c g => CB.f9 i c g) (j3_against  h.1) (hx_of h.1 (s_X8_against  h.1.1.1.1) (fun b j z => by unfold W_X8_against at z; unfold isWS at z; omega)) (cb_against  h) (fun n m w i => s_X9_against  w i) (fun b j z => by unfold W_X9_against at z; omega)
theorem jb_many {l1 : Int} (r1 : (-2147483648) ≤ l1 ∧ l1 ≤ 2147483647) (h : JB M) : wp (mX8_many 1 l1 M) (fun q1 => wp (mX9_many 126 l1 q1.2) (fun q2 => JB q2.2)) :=
  J3.ux h.1 (X := fun m => CB (shp m) m) (fun n M1 M2 i c g => CB.f9 i c g) (j3_many r1 h.1) (hx_of h.1 (s_X8_many r1 h.1.1.1.1) (fun b j z => False.elim z)) (cb_of h (s_X8_many r1 h.1.1.1.1) (fun b j z => False.elim z)) (fun n m w i => s_X9_many r1 i) (fun b j z => by unfold W_X9_many at z; omega)
theorem jb_image {l1 : Int} (r1 : (-2147483648) ≤ l1 ∧ l1 ≤ 2147483647) (h : JB M) : wp (mX8_image 1 l1 M) (fun q1 => wp (mX9_image 126 l1 q1.2) (fun q2 => JB q2.2)) :=
  J3.ux h.1 (X := fun m => CB (shp m) m) (fun n M1 M2 i c g => CB.f9 i c g) (j3_image r1 h.1) (hx_of h.1 (s_X8_image r1 h.1.1.1.1) w8_image) (cb_image  h) (fun n m w i => s_X9_image i w) (fun b j z => by unfold W_X9_image at z; omega)
theorem jb_again {l1 : Int} (r1 : (-2147483648) ≤ l1 ∧ l1 ≤ 2147483647) (h : JB M) : wp (mX8_again 1 l1 M) (fun q1 => wp (mX9_again 126 l1 q1.2) (fun q2 => JB q2.2)) :=
  J3.ux h.1 (X := fun m => CB (shp m) m) (fun n M1 M2 i c g => CB.f9 i c g) (j3_again r1 h.1) (hx_of h.1 (s_X8_again r1 h.1.1.1.1) (fun b j z => by unfold W_X8_again at z; omega)) (cb_again  h) (fun n m w i => s_X9_again i w) (fun b j z => by unfold W_X9_again at z; omega)
end
theorem jb_formsE {M : Mem} (h : JB M) : wp (mX8_forms 1 M) (fun q1 => wp (mX9_forms 126 q1.2) (fun q2 => JB q2.2 ∧ EQ q1 q2)) := w_and3 (M := M) (jb_forms h) (eq_forms h)
end
