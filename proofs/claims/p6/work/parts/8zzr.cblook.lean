/-! ===== the calls that look up keep what OtherNumbers holds ===== -/
def CJ (n : Nat) (M : Mem) : Prop := I n M ∧ CB (shp M) M
def NBJ (b j : Int) : Prop := b ≤ 125 ∧ ¬ (24 ≤ b ∧ b ≤ 28) ∧ ¬ (4 ≤ b ∧ b ≤ 10)
section
variable {M : Mem}
theorem CJ.of (h : JB M) : CJ (mN M) M := ⟨h.1.1.1.1, h.2⟩
theorem CJ.kp {n : Nat} {M' : Mem} {W : Int → Int → Prop} (h : CJ n M) (i2 : I n M') (k : Keep n W M M') (d : ∀ b j, W b j → NBJ b j) : CJ n M' := by
  have hn : (169 : Int) ≤ (n : Int) := by have := h.1.2.2.2.2.1; omega
  exact ⟨i2, h.2.go h.1 (fun b j hb => k.2.2 b j (by omega) (fun z => by
    have := d b j z
    unfold NBJ at this
    omega))⟩
theorem cj_call {n : Nat} {β : Type} {Q : β → Prop} {x : Option (Int × Mem)} {f : Int × Mem → Option β} {W : Int → Int → Prop} {P : Int × Mem → Prop} (h : CJ n M) (hx : I n M → wp x (fun q => I n q.2 ∧ Keep n W M q.2 ∧ P q)) (d : ∀ b j, W b j → NBJ b j) (k : ∀ r m, CJ n m → P (r, m) → pw (f (r, m)) Q) : pw (x.bind f) Q :=
  p_call (p_wp (hx h.1)) (fun r m y => k r m (h.kp y.1 y.2.1 d) y.2.2)
theorem cj_look {β : Type} {Q : β → Prop} {f : Int × Mem → Option β} (h : JB M) (hf : ∀ m, FLK M m → CJ (mN M) m → pw (f (0, m)) Q) (ht : ∀ m, FLK M m → (shp m).nf ≤ 12 → CJ (mN M) m → pw (f (1, m)) Q) : pw ((mX4_lookUp 2 M).bind f) Q := by
  obtain ⟨P, n, ok, hn, k2, sh, tp, rf, ve, vlt, h1, hl⟩ := look h.1
  have iM := h.1.1.1.1
  refine p_call (p_and hl (p_wp (s_X4_lookUp iM))) (fun r m y => ?_)
  obtain ⟨y1, y2, y3, _⟩ := y
  rcases y1 with ⟨a, b, c⟩ | ⟨a, b, c⟩
  · replace c : m = M := c
    replace b : r = 0 := b
    subst c; subst b
    exact hf m FLK.rf ⟨iM, h.2⟩
  · replace b : r = 1 := b
    subst b
    obtain ⟨_, _, ca, _, fl⟩ := c
    replace fl : FLK M m := fl
    have e : shp m = shp M := shp_go (fun b j x => fl b j (nq_0 (by omega)))
    exact ht m fl (by rw [e, hn]; omega) ⟨y2, by rw [e]; exact h.2.fl fl⟩
theorem nbj_37 : ∀ b j : Int, b = 37 ∨ (b = 36 ∧ j = 1) ∨ (b = 36 ∧ j = 2) → NBJ b j := fun b j z => by
  unfold NBJ
  omega
theorem cb_worlds (h : JB M) : pw (mX8_worlds 1 M) (fun q => CB (shp q.2) q.2) := by
  unfold mX8_worlds
  refine p_gFc (ji := 0) rfl (vs_0 h.1).1 (p_gK (p_call (P := fun q => CJ (mN M) q.2) ?_ (fun v m y => p_ret y.2)))
  unfold mX4_countWorlds
  refine p_gK (cj_look h (fun m _ ci => p_it1 rfl (p_ret ci)) (fun m _ _ ci => p_it0 z_1 ?_))
  exact p_gFc (ji := 6) rfl (K2.of ci.1).c2_6 (p_gK (cj_call ci (fun i => s_X7_count (by unfold isWS; decide) i) (fun b j z => False.elim z) (fun r m c2 _ => p_ret c2)))
theorem cb_core {l : Int} (r1 : (-2147483648) ≤ l ∧ l ≤ 2147483647) (h : JB M) : pw (mX8_core 1 l M) (fun q => CB (shp q.2) q.2) := by
  unfold mX8_core
  refine p_gFc (ji := 0) rfl (vs_0 h.1).1 (p_gK (p_call (P := fun q => CJ (mN M) q.2 ∧ 0 ≤ q.1 ∧ q.1 ≤ 255) ?_ (fun v m y => cj_call y.1 (fun i => s_X8_nthBit y.2 r1 i) (fun b j z => False.elim z) (fun r m c2 _ => p_ret c2.2))))
  unfold mX4_coreStories
  refine p_gK (cj_look h (fun m _ ci => p_it1 rfl (p_ret ⟨ci, (by dsimp only; decide), (by dsimp only; decide)⟩)) (fun m _ _ ci => p_it0 z_1 (p_gFc (ji := 6) rfl (K2.of ci.1).c2_6 (p_gK (cj_call ci (fun i => s_X7_isNothing (by unfold isWS; decide) i) (fun b j z => False.elim z) (fun r m2 c2 _ => ?_))))))
  refine p_if (fun _ => p_ret ⟨c2, (by dsimp only; decide), (by dsimp only; decide)⟩) (fun _ => p_gFc (ji := 5) rfl (K2.of c2.1).c2_5 (p_gK (cj_call c2 (fun i => s_X4_fewestAgainst (by unfold isWS; decide) i) (fun b j z => False.elim z) (fun r m3 c3 y => p_ret ⟨c3, y.1⟩))))
theorem cb_sureness {p : Int} (hp : (-1) ≤ p ∧ p ≤ 35) (h : JB M) : pw (mX4_sureness 2 p M) (fun q => CJ (mN M) q.2 ∧ (-1) ≤ q.1 ∧ q.1 ≤ 1) := by
  unfold mX4_sureness
  refine p_if (fun _ => p_ret ⟨CJ.of h, (by dsimp only; decide), (by dsimp only; decide)⟩) (fun _ => p_gK (cj_look h (fun m _ ci => p_it1 rfl (p_ret ⟨ci, (by dsimp only; decide), (by dsimp only; decide)⟩)) (fun m _ _ ci => p_it0 z_1 (p_gFc (ji := 6) rfl (K2.of ci.1).c2_6 (p_gK (cj_call ci (fun i => s_X7_isNothing (by unfold isWS; decide) i) (fun b j z => False.elim z) (fun r m2 c2 _ => ?_)))))))
  refine p_if (fun _ => ?_) (fun _ => p_ret ⟨c2, (by dsimp only; decide), (by dsimp only; decide)⟩)
  have k2 := K2.of c2.1
  refine p_gFc (ji := 6) rfl k2.c2_6 (p_gFc (ji := 0) rfl k2.c2_0 (p_gFc (ji := 0) rfl k2.c3_0 (p_gK (cj_call c2 (fun i => s_X3_bit (l0 := 4) (Or.inl rfl) hp i) (fun b j z => False.elim z) (fun r m3 c3 y => p_gK (cj_call c3 (fun i => s_X7_countWhere (by unfold isWS; decide) y.1 i) (fun b j z => False.elim z) (fun r m4 c4 _ => ?_)))))))
  refine p_if (fun _ => p_ret ⟨c4, (by dsimp only; decide), (by dsimp only; decide)⟩) (fun _ => p_gFc (ji := 6) rfl (K2.of c4.1).c2_6 (p_gK (cj_call c4 (fun i => s_X7_count (by unfold isWS; decide) i) (fun b j z => False.elim z) (fun r m5 c5 _ => p_if (fun _ => p_ret ⟨c5, (by dsimp only; decide), (by dsimp only; decide)⟩) (fun _ => p_ret ⟨c5, (by dsimp only; decide), (by dsimp only; decide)⟩)))))
theorem cb_sure {a b c : Int} (r2 : (-2147483648) ≤ b ∧ b ≤ 2147483647) (r3 : (-2147483648) ≤ c ∧ c ≤ 2147483647) (h : JB M) : pw (mX8_sure 1 a b c M) (fun q => CB (shp q.2) q.2) := by
  have k2 := K2.of h.1.1.1.1
  unfold mX8_sure
  refine p_gFc (ji := 0) rfl (vs_0 h.1).1 (p_gFc (ji := 1) rfl (vs_0 h.1).2 (p_gFc (ji := 0) rfl k2.c3_0 (p_gK (p_call (pl_same r2 r3 h.1) (fun v m y => ?_)))))
  obtain ⟨y1, y2⟩ := y
  replace y1 : m = M := y1
  subst y1
  exact p_gK (p_call (cb_sureness y2 h) (fun v m y => p_ret y.1.2))
theorem cb_cause {a b c d : Int} (r2 : (-2147483648) ≤ b ∧ b ≤ 2147483647) (r3 : (-2147483648) ≤ c ∧ c ≤ 2147483647) (r4 : (-2147483648) ≤ d ∧ d ≤ 2147483647) (h : JB M) : pw (mX8_cause 1 a b c d M) (fun q => CB (shp q.2) q.2) := by
  have k2 := K2.of h.1.1.1.1
  unfold mX8_cause
  refine p_gFc (ji := 1) rfl (vs_0 h.1).2 (p_gFc (ji := 0) rfl k2.c3_0 (p_gK (p_call (pl_same r2 r3 h.1) (fun p m y => ?_))))
  obtain ⟨y1, y2⟩ := y
  replace y1 : m = M := y1
  replace y2 : (-1) ≤ p ∧ p ≤ 35 := y2
  subst y1
  refine p_gFc (ji := 0) rfl (vs_0 h.1).1 (p_gK (p_call (cb_sureness y2 h) (fun v m2 y => ?_)))
  obtain ⟨ci, z1, z2⟩ := y
  replace ci : CJ (mN m) m2 := ci
  refine p_if (fun _ => p_ret ci.2) (fun c1 => ?_)
  replace c1 : ¬ v = -1 := c1
  replace z1 : (-1) ≤ v := z1
  replace z2 : v ≤ 1 := z2
  have h1 : mG m2 1 0 = 2 := rd_VS_0 ci.1 (a := 1) rfl
  exact p_gFc (ji := 0) rfl h1 (p_gK (cj_call ci (fun i => s_X4_causeStories y2 (by omega) i) (fun b j z => nbj_37 b j z) (fun r m3 c3 y => cj_call c3 (fun i => s_X8_nthBit y.1 r4 i) (fun b j z => False.elim z) (fun r m4 c4 _ => p_ret c4.2))))
theorem cb_without {l : Int} (h : JB M) : pw (mX8_without 1 l M) (fun q => CB (shp q.2) q.2) := by
  have k2 := K2.of h.1.1.1.1
  have ci0 := CJ.of h
  unfold mX8_without
  refine p_gFc (ji := 0) rfl (vs_0 h.1).1 (p_gK (p_call (P := fun q => CJ (mN M) q.2) ?_ (fun v m y => p_ret y.2)))
  have loop : ∀ (fu k : Nat) (vw : Int) (m : Mem), k ≤ 8 → CJ (mN M) m → pw (mX4_countWithout_60 fu 2 l vw (k : Int) m) (fun q => CJ (mN M) q.2) := by
    intro fu
    induction fu with
    | zero => intro k vw m _ _; exact p_none
    | succ fu ih =>
      intro k vw m hk ci
      show pw (bX4_countWithout_60 (mX4_countWithout_60 fu) 2 l vw (k : Int) m) _
      have km := K2.of ci.1
      unfold bX4_countWithout_60
      have go : ∀ m2, CJ (mN M) m2 → k < 8 → pw (mX4_countWithout_96 (mX4_countWithout_60 fu) 2 l vw (k : Int) m2) (fun q => CJ (mN M) q.2) := fun m2 c2 k8 => by
        unfold mX4_countWithout_96
        rw [wI_s (p := k) (by omega)]
        exact ih (k + 1) vw m2 (by omega) c2
      refine p_if (fun c => p_gFc (ji := 7) rfl km.c2_7 (p_gK (cj_call ci (fun i => s_X7_count (by unfold isWS; decide) i) (fun b j z => False.elim z) (fun r m2 c2 _ => p_ret c2)))) (fun c => p_if (fun _ => go m ci (by omega)) (fun _ => p_if (fun _ => go m ci (by omega)) (fun _ => ?_)))
      have k8 : k < 8 := by omega
      refine p_gFc (ji := 7) rfl km.c2_7 (p_gFc (ji := 3) rfl km.c2_3 (p_aGc (km.ws (s := k) (by omega)).1 (p_gK (cj_call ci (fun i => s_X7_keepOnly (by unfold isWS; decide) (by unfold isWS; omega) i) (fun b j z => nbj_37 b j (Or.inl z)) (fun r m2 c2 _ => go m2 c2 k8)))))
  have s32 : ∀ (s vw : Int), pw (mX4_countWithout_32 2 l vw s M) (fun q => CJ (mN M) q.2) := fun s vw => by
    unfold mX4_countWithout_32
    refine p_if (fun _ => p_ret ci0) (fun _ => p_gK (cj_look h (fun m _ ci => p_it1 rfl (p_ret ci)) (fun m _ _ ci => p_it0 z_1 ?_)))
    have km := K2.of ci.1
    exact p_gFc (ji := 7) rfl km.c2_7 (p_gFc (ji := 5) rfl km.c2_5 (p_gK (cj_call ci (fun i => s_X7_copy (l0 := 36) (l1 := 32) (by unfold isWS; decide) (by unfold isWS; decide) i) (fun b j z => nbj_37 b j z) (fun r m2 c2 _ => loop FU 0 vw m2 (by omega) c2))))
  unfold mX4_countWithout
  refine p_gFc (ji := 0) rfl k2.c2_0 (p_gK (p_call (q_viewed k2 (rd_Told_11 h.1.1.1.1 (a := 3) rfl)) (fun v m y => ?_)))
  obtain ⟨y1, y2⟩ := y
  replace y1 : m = M := y1
  subst y1
  refine p_gFc (ji := 0) rfl k2.c2_0 (p_gK (p_call (hs_same (l := l)) (fun r m2 y => ?_)))
  replace y : m2 = m := y
  subst y
  unfold mX4_countWithout_31
  exact p_if (fun _ => s32 _ _) (fun _ => p_if (fun _ => s32 _ _) (fun _ => s32 _ _))
theorem cb_questions (h : JB M) : pw (mX8_questions 1 M) (fun q => CB (shp q.2) q.2) := by
  unfold mX8_questions
  refine p_gFc (ji := 0) rfl (vs_0 h.1).1 (p_gK (p_call (P := fun q => CJ (mN M) q.2) ?_ (fun v m y => p_ret y.2)))
  have loop : ∀ (fu k : Nat) (a : Int) (m : Mem), ((-2147483648) ≤ a ∧ a ≤ 2147483647) → k ≤ 5 → CJ (mN M) m → pw (mX4_fewestQuestions_38 fu 2 a (k : Int) m) (fun q => CJ (mN M) q.2) := by
    intro fu
    induction fu with
    | zero => intro k a m _ _ _; exact p_none
    | succ fu ih =>
      intro k a m ha hk ci
      show pw (bX4_fewestQuestions_38 (mX4_fewestQuestions_38 fu) 2 a (k : Int) m) _
      have km := K2.of ci.1
      unfold bX4_fewestQuestions_38
      refine p_if (fun c => p_ret ci) (fun c => p_gFc (ji := 11) rfl km.c2_11 (cj_call ci (fun i => s_gX4_suffice ha (by omega) (by omega) i) (fun b j z => False.elim z) (fun r m2 c2 _ => p_if (fun _ => ?_) (fun _ => p_ret c2))))
      rw [wI_s (p := k) (by omega)]
      exact ih (k + 1) a m2 ha (by omega) c2
  unfold mX4_fewestQuestions
  refine p_gK (cj_look h (fun m _ ci => p_it1 rfl (p_ret ci)) (fun m _ _ ci => p_it0 z_1 (p_gFc (ji := 6) rfl (K2.of ci.1).c2_6 (p_gK (cj_call ci (fun i => s_X7_isNothing (by unfold isWS; decide) i) (fun b j z => False.elim z) (fun r m2 c2 _ => ?_))))))
  refine p_if (fun _ => ?_) (fun _ => p_ret c2)
  refine p_gFc (ji := 6) rfl (K2.of c2.1).c2_6 (p_gK (cj_call c2 (fun i => s_X7_count (by unfold isWS; decide) i) (fun b j z => False.elim z) (fun r m3 c3 _ => p_if (fun _ => ?_) (fun _ => p_ret c3))))
  exact p_gK (cj_call c3 (fun i => s_X4_takeAsked i) (fun b j z => by unfold W_X4_takeAsked at z; unfold NBJ; omega) (fun r m4 c4 y => loop FU 0 r m4 y.1 (by omega) c4))
theorem cb_settle {l : Int} (h : JB M) : pw (mX8_settle 1 l M) (fun q => CB (shp q.2) q.2) := by
  unfold mX8_settle
  refine p_gFc (ji := 0) rfl (vs_0 h.1).1 (p_gK (p_call (P := fun q => CJ (mN M) q.2 ∧ (-1) ≤ q.1 ∧ q.1 ≤ 35) ?_ (fun v m y => ?_)))
  · have loop : ∀ (fu k : Nat) (a : Int) (m : Mem), ((-1) ≤ a ∧ a ≤ 35) → k ≤ 36 → CJ (mN M) m → pw (mX4_settlingPlace_23 fu 2 a (k : Int) m) (fun q => CJ (mN M) q.2 ∧ (-1) ≤ q.1 ∧ q.1 ≤ 35) := by
      intro fu
      induction fu with
      | zero => intro k a m _ _ _; exact p_none
      | succ fu ih =>
        intro k a m ha hk ci
        show pw (bX4_settlingPlace_23 (mX4_settlingPlace_23 fu) 2 a (k : Int) m) _
        have km := K2.of ci.1
        have n36 := rd_Shape_7 ci.1 (a := 4) rfl
        unfold bX4_settlingPlace_23
        refine p_gFc (ji := 0) rfl km.c2_0 (p_gFc (ji := 0) rfl km.c3_0 (p_gF (ji := 7) rfl (fun f hf => p_if (fun c => p_ret ⟨ci, ha⟩) (fun c => ?_))))
        have k35 : k < 36 := by omega
        have go : ∀ (v : Int) (m2 : Mem), ((-1) ≤ v ∧ v ≤ 35) → CJ (mN M) m2 → pw (mX4_settlingPlace_57 (mX4_settlingPlace_23 fu) 2 v (k : Int) m2) (fun q => CJ (mN M) q.2 ∧ (-1) ≤ q.1 ∧ q.1 ≤ 35) := fun v m2 hv c2 => by
          unfold mX4_settlingPlace_57
          rw [wI_s (p := k) (by omega)]
          exact ih (k + 1) v m2 hv (by omega) c2
        refine p_if (fun c1 => ?_) (fun c1 => p_gK (cj_call ci (fun i => s_X4_greaterAt (l1 := (k : Int)) (by omega) i) (fun b j z => False.elim z) (fun r m2 c2 _ => p_gK (cj_call c2 (fun i => s_X4_greaterAt (l1 := a) (by omega) i) (fun b j z => False.elim z) (fun r m3 c3 _ => p_if (fun _ => go a m3 ha c3) (fun _ => ?_))))))
        · unfold mX4_settlingPlace_55
          exact go (k : Int) m (by omega) ci
        · unfold mX4_settlingPlace_55
          exact go (k : Int) m3 (by omega) c3
    unfold mX4_settlingPlace
    refine p_gK (cj_look h (fun m _ ci => p_it1 rfl (p_ret ⟨ci, (by dsimp only; decide), (by dsimp only; decide)⟩)) (fun m _ _ ci => p_it0 z_1 (p_gFc (ji := 6) rfl (K2.of ci.1).c2_6 (p_gK (cj_call ci (fun i => s_X7_isNothing (by unfold isWS; decide) i) (fun b j z => False.elim z) (fun r m2 c2 _ => ?_))))))
    exact p_if (fun _ => loop FU 0 (-1) m2 (by decide) (by omega) c2) (fun _ => p_ret ⟨c2, (by dsimp only; decide), (by dsimp only; decide)⟩)
  · obtain ⟨ci, y1, y2⟩ := y
    replace ci : CJ (mN M) m := ci
    replace y1 : (-1) ≤ v := y1
    replace y2 : v ≤ 35 := y2
    refine p_if (fun _ => p_ret ci.2) (fun c => ?_)
    replace c : ¬ v = -1 := c
    have h1 : ∀ m, CJ (mN M) m → mG m 1 0 = 2 ∧ mG m 1 1 = 3 := fun m c => ⟨rd_VS_0 c.1 (a := 1) rfl, rd_VS_1 c.1 (a := 1) rfl⟩
    refine p_gFc (ji := 1) rfl (h1 m ci).2 (p_gFc (ji := 0) rfl (K2.of ci.1).c3_0 (p_gK (cj_call ci (fun i => s_X3_relationAt (l0 := 4) (l1 := v) (Or.inl rfl) (by omega) i) (fun b j z => False.elim z) (fun r m2 c2 y => ?_))))
    refine p_if (fun _ => p_ret c2.2) (fun _ => p_if (fun _ => ?_) (fun _ => p_if (fun _ => ?_) (fun _ => p_if (fun _ => ?_) (fun _ => p_ret c2.2))))
    · exact p_gFc (ji := 1) rfl (h1 m2 c2).2 (p_gFc (ji := 0) rfl (K2.of c2.1).c3_0 (p_gK (cj_call c2 (fun i => s_X3_firstAt (l0 := 4) (Or.inl rfl) y.1 (by omega) i) (fun b j z => False.elim z) (fun r m3 c3 _ => p_ret c3.2))))
    · exact p_gFc (ji := 1) rfl (h1 m2 c2).2 (p_gFc (ji := 0) rfl (K2.of c2.1).c3_0 (p_gK (cj_call c2 (fun i => s_X3_secondAt (l0 := 4) (Or.inl rfl) y.1 (by omega) i) (fun b j z => False.elim z) (fun r m3 c3 _ => p_ret c3.2))))
    · exact p_gFc (ji := 0) rfl (h1 m2 c2).1 (p_gK (cj_call c2 (fun i => s_X4_greaterAt (l1 := v) (by omega) i) (fun b j z => False.elim z) (fun r m3 c3 _ => p_ret c3.2)))
theorem cb_near (h : JB M) : pw (mX8_near 1 M) (fun q => CB (shp q.2) q.2) := by
  unfold mX8_near
  refine p_gFc (ji := 0) rfl (vs_0 h.1).1 (p_gK (p_call (P := fun q => CJ (mN M) q.2) ?_ (fun v m y => ?_)))
  · have loop : ∀ (fu k : Nat) (a b : Int) (m : Mem), k ≤ 4096 → CJ (mN M) m → pw (mX4_nearestWorld_16 fu 2 a b (k : Int) m) (fun q => CJ (mN M) q.2) := by
      intro fu
      induction fu with
      | zero => intro k a b m _ _; exact p_none
      | succ fu ih =>
        intro k a b m hk ci
        show pw (bX4_nearestWorld_16 (mX4_nearestWorld_16 fu) 2 a b (k : Int) m) _
        have km := K2.of ci.1
        unfold bX4_nearestWorld_16
        refine p_gFc (ji := 6) rfl km.c2_6 (p_gK (cj_call ci (fun i => s_X7_most (by unfold isWS; decide) i) (fun b j z => False.elim z) (fun r m2 c2 y => p_if (fun c => p_ret c2) (fun c => ?_))))
        have y1 : r ≤ 4096 := y.1.2
        have c : ¬ r ≤ (k : Int) := c
        have k2 := K2.of c2.1
        have go : ∀ (a b : Int) (m3 : Mem), CJ (mN M) m3 → pw (mX4_nearestWorld_64 (mX4_nearestWorld_16 fu) 2 a b (k : Int) m3) (fun q => CJ (mN M) q.2) := fun a b m3 c3 => by
          unfold mX4_nearestWorld_64
          rw [wI_s (p := k) (by omega)]
          exact ih (k + 1) a b m3 (by omega) c3
        refine p_gFc (ji := 0) rfl k2.c2_0 (p_gF (ji := 1) rfl (fun w hw => p_call (q_bitCount _ m2) (fun r2 m3 y => ?_)))
        obtain ⟨y3, _⟩ := y
        replace y3 : m3 = m2 := y3
        subst y3
        refine p_if (fun _ => go a b m3 c2) (fun _ => p_gFc (ji := 6) rfl k2.c2_6 (p_gK (cj_call c2 (fun i => s_X7_has (l1 := (k : Int)) (by unfold isWS; decide) (by omega) i) (fun b j z => False.elim z) (fun r4 m4 c4 _ => p_if (fun _ => go a b m4 c4) (fun _ => go _ _ m4 c4)))))
    unfold mX4_nearestWorld
    exact p_gK (cj_look h (fun m _ ci => p_it1 rfl (p_ret ci)) (fun m _ _ ci => p_it0 z_1 (loop FU 0 (-1) 13 m (by omega) ci)))
  · replace y : CJ (mN M) m := y
    have h1 : mG m 1 1 = 3 := rd_VS_1 y.1 (a := 1) rfl
    refine p_if (fun _ => p_ret y.2) (fun _ => p_gFc (ji := 1) rfl h1 (p_gF (ji := 1) rfl (fun w hw => p_call (q_bitCount _ m) (fun r2 m3 z => ?_))))
    obtain ⟨z1, _⟩ := z
    replace z1 : m3 = m := z1
    subst z1
    refine p_gFc (ji := 1) rfl h1 (p_pF (ji := 1) rfl (fun m4 h4 => p_ret ?_))
    exact y.2.go y.1 (fun b j hb => st_ne h4 (fun w => by omega))
end
