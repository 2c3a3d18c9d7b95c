/-! ===== every call of the class keeps what it has judged ===== -/
section
variable {M : Mem}
theorem vs_0 (h : J3 M) : mG M 1 0 = 2 ∧ mG M 1 1 = 3 := ⟨rd_VS_0 h.1.1.1 (a := 1) rfl, rd_VS_1 h.1.1.1 (a := 1) rfl⟩
theorem z_1 : ¬ (1 : Int) = 0 := by decide
theorem ca_worlds (h : J3 M) : pw (mX8_worlds 1 M) (fun q => CA (shp q.2) q.2) := by
  unfold mX8_worlds
  refine p_gFc (ji := 0) rfl (vs_0 h).1 (p_gK (p_call (P := fun q => CI (mN M) q.2) ?_ (fun v m y => p_ret y.2.1)))
  unfold mX4_countWorlds
  refine p_gK (ci_look h (fun m _ ci => p_it1 rfl (p_ret ci)) (fun m _ _ ci => p_it0 z_1 ?_))
  exact p_gFc (ji := 6) rfl (K2.of ci.1).c2_6 (p_gK (ci_call ci (fun i => s_X7_count (by unfold isWS; decide) i) (fun b j z => False.elim z) (fun r m c2 _ => p_ret c2)))
theorem nb_pick : ∀ b j, W_X4_pickForms b j → NB b j := fun b j z => by
  unfold W_X4_pickForms at z
  unfold NB CC
  omega
theorem nb_37 : ∀ b j : Int, b = 37 ∨ (b = 36 ∧ j = 1) ∨ (b = 36 ∧ j = 2) → NB b j := fun b j z => by
  unfold NB CC
  omega
theorem ca_forms (h : J3 M) : pw (mX8_forms 1 M) (fun q => CA (shp q.2) q.2) := by
  unfold mX8_forms
  refine p_gFc (ji := 0) rfl (vs_0 h).1 (p_gK (p_call (P := fun q => CI (mN M) q.2) ?_ (fun v m y => p_ret y.2.1)))
  unfold mX4_countForms
  refine p_gK (ci_look h (fun m _ ci => p_it1 rfl (p_ret ci)) (fun m _ _ ci => p_it0 z_1 (p_gK (ci_call ci (fun i => s_X4_pickForms i) nb_pick (fun _ m2 ci2 _ => ?_)))))
  exact p_gFc (ji := 7) rfl (K2.of ci2.1).c2_7 (p_gK (ci_call ci2 (fun i => s_X7_count (by unfold isWS; decide) i) (fun b j z => False.elim z) (fun r m c2 _ => p_ret c2)))
theorem ca_becomes {n : Nat} {v : Int} {m : Mem} (ci : CI n m) : pw (mX8_becomes 1 v m) (fun q => CA (shp q.2) q.2) := by
  have h1 : mG m 1 1 = 3 := rd_VS_1 ci.1 (a := 1) rfl
  unfold mX8_becomes
  refine p_if (fun c => p_ret ci.2.1) (fun c => p_gFc (ji := 1) rfl h1 (p_pF (ji := 1) rfl (fun m2 h2 => p_ret ?_)))
  exact ci.2.1.go ci.1 (fun b j _ hc => st_ne h2 (fun w => by unfold CC at hc; omega))
theorem ca_form {l : Int} (r1 : (-2147483648) ≤ l ∧ l ≤ 2147483647) (h : J3 M) : pw (mX8_form 1 l M) (fun q => CA (shp q.2) q.2) := by
  unfold mX8_form
  refine p_gFc (ji := 0) rfl (vs_0 h).1 (p_gK (p_call (P := fun q => CI (mN M) q.2) ?_ (fun v m y => p_gK (p_call (ca_becomes y) (fun v m y => p_zR (fun _ => p_ret y))))))
  unfold mX4_nthForm
  refine p_gK (ci_look h (fun m _ ci => p_it1 rfl (p_ret ci)) (fun m _ _ ci => p_it0 z_1 (p_gK (ci_call ci (fun i => s_X4_pickForms i) nb_pick (fun _ m2 ci2 _ => ?_)))))
  exact p_gFc (ji := 7) rfl (K2.of ci2.1).c2_7 (p_gK (ci_call ci2 (fun i => s_X7_nth (by unfold isWS; decide) r1 i) (fun b j z => False.elim z) (fun r m c2 _ => p_ret c2)))
theorem ca_core {l : Int} (r1 : (-2147483648) ≤ l ∧ l ≤ 2147483647) (h : J3 M) : pw (mX8_core 1 l M) (fun q => CA (shp q.2) q.2) := by
  unfold mX8_core
  refine p_gFc (ji := 0) rfl (vs_0 h).1 (p_gK (p_call (P := fun q => CI (mN M) q.2 ∧ 0 ≤ q.1 ∧ q.1 ≤ 255) ?_ (fun v m y => ci_call y.1 (fun i => s_X8_nthBit y.2 r1 i) (fun b j z => False.elim z) (fun r m c2 _ => p_ret c2.2.1))))
  unfold mX4_coreStories
  refine p_gK (ci_look h (fun m _ ci => p_it1 rfl (p_ret ⟨ci, (by dsimp only; decide), (by dsimp only; decide)⟩)) (fun m _ _ ci => p_it0 z_1 (p_gFc (ji := 6) rfl (K2.of ci.1).c2_6 (p_gK (ci_call ci (fun i => s_X7_isNothing (by unfold isWS; decide) i) (fun b j z => False.elim z) (fun r m2 c2 _ => ?_))))))
  refine p_if (fun _ => p_ret ⟨c2, (by dsimp only; decide), (by dsimp only; decide)⟩) (fun _ => p_gFc (ji := 5) rfl (K2.of c2.1).c2_5 (p_gK (ci_call c2 (fun i => s_X4_fewestAgainst (by unfold isWS; decide) i) (fun b j z => False.elim z) (fun r m3 c3 y => p_ret ⟨c3, y.1⟩))))
theorem pl_same {a b c : Int} (r2 : (-2147483648) ≤ b ∧ b ≤ 2147483647) (r3 : (-2147483648) ≤ c ∧ c ≤ 2147483647) (h : J3 M) : pw (mX3_place 4 a b c M) (fun q => q.2 = M ∧ (-1) ≤ q.1 ∧ q.1 ≤ 35) := by
  have ci := CI.of h
  exact p_mono (p_and (q_place (shp_ok ci.1) ci.2.2.1) (p_wp (s_X3_place (l1 := a) (Or.inl rfl) r2 r3 ci.1))) (fun q y => ⟨y.1.1, y.2.2.2.1⟩)
theorem ca_sureness {p : Int} (hp : (-1) ≤ p ∧ p ≤ 35) (h : J3 M) : pw (mX4_sureness 2 p M) (fun q => CI (mN M) q.2 ∧ (-1) ≤ q.1 ∧ q.1 ≤ 1) := by
  unfold mX4_sureness
  refine p_if (fun _ => p_ret ⟨CI.of h, (by dsimp only; decide), (by dsimp only; decide)⟩) (fun _ => p_gK (ci_look h (fun m _ ci => p_it1 rfl (p_ret ⟨ci, (by dsimp only; decide), (by dsimp only; decide)⟩)) (fun m _ _ ci => p_it0 z_1 (p_gFc (ji := 6) rfl (K2.of ci.1).c2_6 (p_gK (ci_call ci (fun i => s_X7_isNothing (by unfold isWS; decide) i) (fun b j z => False.elim z) (fun r m2 c2 _ => ?_)))))))
  refine p_if (fun _ => ?_) (fun _ => p_ret ⟨c2, (by dsimp only; decide), (by dsimp only; decide)⟩)
  have k2 := K2.of c2.1
  refine p_gFc (ji := 6) rfl k2.c2_6 (p_gFc (ji := 0) rfl k2.c2_0 (p_gFc (ji := 0) rfl k2.c3_0 (p_gK (ci_call c2 (fun i => s_X3_bit (l0 := 4) (Or.inl rfl) hp i) (fun b j z => False.elim z) (fun r m3 c3 y => p_gK (ci_call c3 (fun i => s_X7_countWhere (by unfold isWS; decide) y.1 i) (fun b j z => False.elim z) (fun r m4 c4 _ => ?_)))))))
  refine p_if (fun _ => p_ret ⟨c4, (by dsimp only; decide), (by dsimp only; decide)⟩) (fun _ => p_gFc (ji := 6) rfl (K2.of c4.1).c2_6 (p_gK (ci_call c4 (fun i => s_X7_count (by unfold isWS; decide) i) (fun b j z => False.elim z) (fun r m5 c5 _ => p_if (fun _ => p_ret ⟨c5, (by dsimp only; decide), (by dsimp only; decide)⟩) (fun _ => p_ret ⟨c5, (by dsimp only; decide), (by dsimp only; decide)⟩)))))
theorem ca_sure {a b c : Int} (r2 : (-2147483648) ≤ b ∧ b ≤ 2147483647) (r3 : (-2147483648) ≤ c ∧ c ≤ 2147483647) (h : J3 M) : pw (mX8_sure 1 a b c M) (fun q => CA (shp q.2) q.2) := by
  have k2 := K2.of h.1.1.1
  unfold mX8_sure
  refine p_gFc (ji := 0) rfl (vs_0 h).1 (p_gFc (ji := 1) rfl (vs_0 h).2 (p_gFc (ji := 0) rfl k2.c3_0 (p_gK (p_call (pl_same r2 r3 h) (fun v m y => ?_)))))
  obtain ⟨y1, y2⟩ := y
  replace y1 : m = M := y1
  subst y1
  exact p_gK (p_call (ca_sureness y2 h) (fun v m y => p_ret y.1.2.1))
theorem ca_cause {a b c d : Int} (r2 : (-2147483648) ≤ b ∧ b ≤ 2147483647) (r3 : (-2147483648) ≤ c ∧ c ≤ 2147483647) (r4 : (-2147483648) ≤ d ∧ d ≤ 2147483647) (h : J3 M) : pw (mX8_cause 1 a b c d M) (fun q => CA (shp q.2) q.2) := by
  have k2 := K2.of h.1.1.1
  unfold mX8_cause
  refine p_gFc (ji := 1) rfl (vs_0 h).2 (p_gFc (ji := 0) rfl k2.c3_0 (p_gK (p_call (pl_same r2 r3 h) (fun p m y => ?_))))
  obtain ⟨y1, y2⟩ := y
  replace y1 : m = M := y1
  replace y2 : (-1) ≤ p ∧ p ≤ 35 := y2
  subst y1
  refine p_gFc (ji := 0) rfl (vs_0 h).1 (p_gK (p_call (ca_sureness y2 h) (fun v m2 y => ?_)))
  obtain ⟨ci, z1, z2⟩ := y
  replace ci : CI (mN m) m2 := ci
  refine p_if (fun _ => p_ret ci.2.1) (fun c1 => ?_)
  replace c1 : ¬ v = -1 := c1
  replace z1 : (-1) ≤ v := z1
  replace z2 : v ≤ 1 := z2
  have h1 : mG m2 1 0 = 2 := rd_VS_0 ci.1 (a := 1) rfl
  exact p_gFc (ji := 0) rfl h1 (p_gK (ci_call ci (fun i => s_X4_causeStories y2 (by omega) i) (fun b j z => nb_37 b j z) (fun r m3 c3 y => ci_call c3 (fun i => s_X8_nthBit y.1 r4 i) (fun b j z => False.elim z) (fun r m4 c4 _ => p_ret c4.2.1))))
theorem hs_same {l : Int} : pw (mX6_hasStory 3 l M) (fun q => q.2 = M) := by
  unfold mX6_hasStory
  exact p_if (fun _ => p_ret rfl) (fun _ => p_gF (ji := 11) rfl (fun _ _ => p_if (fun _ => p_ret rfl) (fun _ => p_ret rfl)))
theorem ca_without {l : Int} (h : J3 M) : pw (mX8_without 1 l M) (fun q => CA (shp q.2) q.2) := by
  have k2 := K2.of h.1.1.1
  have ci0 := CI.of h
  unfold mX8_without
  refine p_gFc (ji := 0) rfl (vs_0 h).1 (p_gK (p_call (P := fun q => CI (mN M) q.2) ?_ (fun v m y => p_ret y.2.1)))
  have loop : ∀ (fu k : Nat) (vw : Int) (m : Mem), k ≤ 8 → CI (mN M) m → pw (mX4_countWithout_60 fu 2 l vw (k : Int) m) (fun q => CI (mN M) q.2) := by
    intro fu
    induction fu with
    | zero => intro k vw m _ _; exact p_none
    | succ fu ih =>
      intro k vw m hk ci
      show pw (bX4_countWithout_60 (mX4_countWithout_60 fu) 2 l vw (k : Int) m) _
      have km := K2.of ci.1
      unfold bX4_countWithout_60
      have go : ∀ m2, CI (mN M) m2 → k < 8 → pw (mX4_countWithout_96 (mX4_countWithout_60 fu) 2 l vw (k : Int) m2) (fun q => CI (mN M) q.2) := fun m2 c2 k8 => by
        unfold mX4_countWithout_96
        rw [wI_s (p := k) (by omega)]
        exact ih (k + 1) vw m2 (by omega) c2
      refine p_if (fun c => p_gFc (ji := 7) rfl km.c2_7 (p_gK (ci_call ci (fun i => s_X7_count (by unfold isWS; decide) i) (fun b j z => False.elim z) (fun r m2 c2 _ => p_ret c2)))) (fun c => p_if (fun _ => go m ci (by omega)) (fun _ => p_if (fun _ => go m ci (by omega)) (fun _ => ?_)))
      have k8 : k < 8 := by omega
      refine p_gFc (ji := 7) rfl km.c2_7 (p_gFc (ji := 3) rfl km.c2_3 (p_aGc (km.ws (s := k) (by omega)).1 (p_gK (ci_call ci (fun i => s_X7_keepOnly (by unfold isWS; decide) (by unfold isWS; omega) i) (fun b j z => nb_37 b j (Or.inl z)) (fun r m2 c2 _ => go m2 c2 k8)))))
  have s32 : ∀ (s vw : Int), pw (mX4_countWithout_32 2 l vw s M) (fun q => CI (mN M) q.2) := fun s vw => by
    unfold mX4_countWithout_32
    refine p_if (fun _ => p_ret ci0) (fun _ => p_gK (ci_look h (fun m _ ci => p_it1 rfl (p_ret ci)) (fun m _ _ ci => p_it0 z_1 ?_)))
    have km := K2.of ci.1
    exact p_gFc (ji := 7) rfl km.c2_7 (p_gFc (ji := 5) rfl km.c2_5 (p_gK (ci_call ci (fun i => s_X7_copy (l0 := 36) (l1 := 32) (by unfold isWS; decide) (by unfold isWS; decide) i) (fun b j z => nb_37 b j z) (fun r m2 c2 _ => loop FU 0 vw m2 (by omega) c2))))
  unfold mX4_countWithout
  refine p_gFc (ji := 0) rfl k2.c2_0 (p_gK (p_call (q_viewed k2 (rd_Told_11 h.1.1.1 (a := 3) rfl)) (fun v m y => ?_)))
  obtain ⟨y1, y2⟩ := y
  replace y1 : m = M := y1
  subst y1
  refine p_gFc (ji := 0) rfl k2.c2_0 (p_gK (p_call (hs_same (l := l)) (fun r m2 y => ?_)))
  replace y : m2 = m := y
  subst y
  unfold mX4_countWithout_31
  exact p_if (fun _ => s32 _ _) (fun _ => p_if (fun _ => s32 _ _) (fun _ => s32 _ _))
theorem ca_questions (h : J3 M) : pw (mX8_questions 1 M) (fun q => CA (shp q.2) q.2) := by
  unfold mX8_questions
  refine p_gFc (ji := 0) rfl (vs_0 h).1 (p_gK (p_call (P := fun q => CI (mN M) q.2) ?_ (fun v m y => p_ret y.2.1)))
  have loop : ∀ (fu k : Nat) (a : Int) (m : Mem), ((-2147483648) ≤ a ∧ a ≤ 2147483647) → k ≤ 5 → CI (mN M) m → pw (mX4_fewestQuestions_38 fu 2 a (k : Int) m) (fun q => CI (mN M) q.2) := by
    intro fu
    induction fu with
    | zero => intro k a m _ _ _; exact p_none
    | succ fu ih =>
      intro k a m ha hk ci
      show pw (bX4_fewestQuestions_38 (mX4_fewestQuestions_38 fu) 2 a (k : Int) m) _
      have km := K2.of ci.1
      unfold bX4_fewestQuestions_38
      refine p_if (fun c => p_ret ci) (fun c => p_gFc (ji := 11) rfl km.c2_11 (ci_call ci (fun i => s_gX4_suffice ha (by omega) (by omega) i) (fun b j z => False.elim z) (fun r m2 c2 _ => p_if (fun _ => ?_) (fun _ => p_ret c2))))
      rw [wI_s (p := k) (by omega)]
      exact ih (k + 1) a m2 ha (by omega) c2
  unfold mX4_fewestQuestions
  refine p_gK (ci_look h (fun m _ ci => p_it1 rfl (p_ret ci)) (fun m _ _ ci => p_it0 z_1 (p_gFc (ji := 6) rfl (K2.of ci.1).c2_6 (p_gK (ci_call ci (fun i => s_X7_isNothing (by unfold isWS; decide) i) (fun b j z => False.elim z) (fun r m2 c2 _ => ?_))))))
  refine p_if (fun _ => ?_) (fun _ => p_ret c2)
  refine p_gFc (ji := 6) rfl (K2.of c2.1).c2_6 (p_gK (ci_call c2 (fun i => s_X7_count (by unfold isWS; decide) i) (fun b j z => False.elim z) (fun r m3 c3 _ => p_if (fun _ => ?_) (fun _ => p_ret c3))))
  exact p_gK (ci_call c3 (fun i => s_X4_takeAsked i) (fun b j z => by unfold W_X4_takeAsked at z; unfold NB CC; omega) (fun r m4 c4 y => loop FU 0 r m4 y.1 (by omega) c4))
theorem ca_settle {l : Int} (h : J3 M) : pw (mX8_settle 1 l M) (fun q => CA (shp q.2) q.2) := by
  unfold mX8_settle
  refine p_gFc (ji := 0) rfl (vs_0 h).1 (p_gK (p_call (P := fun q => CI (mN M) q.2 ∧ (-1) ≤ q.1 ∧ q.1 ≤ 35) ?_ (fun v m y => ?_)))
  · have loop : ∀ (fu k : Nat) (a : Int) (m : Mem), ((-1) ≤ a ∧ a ≤ 35) → k ≤ 36 → CI (mN M) m → pw (mX4_settlingPlace_23 fu 2 a (k : Int) m) (fun q => CI (mN M) q.2 ∧ (-1) ≤ q.1 ∧ q.1 ≤ 35) := by
      intro fu
      induction fu with
      | zero => intro k a m _ _ _; exact p_none
      | succ fu ih =>
        intro k a m ha hk ci
        show pw (bX4_settlingPlace_23 (mX4_settlingPlace_23 fu) 2 a (k : Int) m) _
        have km := K2.of ci.1
        have n36 := rd_Shape_7 ci.1 (a := 4) rfl
        unfold bX4_settlingPlace_23
        refine p_gFc (ji := 0) rfl km.c2_0 (p_gFc (ji := 0) rfl km.c3_0 (p_gF (ji := 7) rfl (fun f hf => p_if (fun c => p_ret ⟨ci, ha⟩) (fun c => ?_))))
        have k35 : k < 36 := by omega
        have go : ∀ (v : Int) (m2 : Mem), ((-1) ≤ v ∧ v ≤ 35) → CI (mN M) m2 → pw (mX4_settlingPlace_57 (mX4_settlingPlace_23 fu) 2 v (k : Int) m2) (fun q => CI (mN M) q.2 ∧ (-1) ≤ q.1 ∧ q.1 ≤ 35) := fun v m2 hv c2 => by
          unfold mX4_settlingPlace_57
          rw [wI_s (p := k) (by omega)]
          exact ih (k + 1) v m2 hv (by omega) c2
        refine p_if (fun c1 => ?_) (fun c1 => p_gK (ci_call ci (fun i => s_X4_greaterAt (l1 := (k : Int)) (by omega) i) (fun b j z => False.elim z) (fun r m2 c2 _ => p_gK (ci_call c2 (fun i => s_X4_greaterAt (l1 := a) (by omega) i) (fun b j z => False.elim z) (fun r m3 c3 _ => p_if (fun _ => go a m3 ha c3) (fun _ => ?_))))))
        · unfold mX4_settlingPlace_55
          exact go (k : Int) m (by omega) ci
        · unfold mX4_settlingPlace_55
          exact go (k : Int) m3 (by omega) c3
    unfold mX4_settlingPlace
    refine p_gK (ci_look h (fun m _ ci => p_it1 rfl (p_ret ⟨ci, (by dsimp only; decide), (by dsimp only; decide)⟩)) (fun m _ _ ci => p_it0 z_1 (p_gFc (ji := 6) rfl (K2.of ci.1).c2_6 (p_gK (ci_call ci (fun i => s_X7_isNothing (by unfold isWS; decide) i) (fun b j z => False.elim z) (fun r m2 c2 _ => ?_))))))
    exact p_if (fun _ => loop FU 0 (-1) m2 (by decide) (by omega) c2) (fun _ => p_ret ⟨c2, (by dsimp only; decide), (by dsimp only; decide)⟩)
  · obtain ⟨ci, y1, y2⟩ := y
    replace ci : CI (mN M) m := ci
    replace y1 : (-1) ≤ v := y1
    replace y2 : v ≤ 35 := y2
    refine p_if (fun _ => p_ret ci.2.1) (fun c => ?_)
    replace c : ¬ v = -1 := c
    have h1 : ∀ m, CI (mN M) m → mG m 1 0 = 2 ∧ mG m 1 1 = 3 := fun m c => ⟨rd_VS_0 c.1 (a := 1) rfl, rd_VS_1 c.1 (a := 1) rfl⟩
    refine p_gFc (ji := 1) rfl (h1 m ci).2 (p_gFc (ji := 0) rfl (K2.of ci.1).c3_0 (p_gK (ci_call ci (fun i => s_X3_relationAt (l0 := 4) (l1 := v) (Or.inl rfl) (by omega) i) (fun b j z => False.elim z) (fun r m2 c2 y => ?_))))
    refine p_if (fun _ => p_ret c2.2.1) (fun _ => p_if (fun _ => ?_) (fun _ => p_if (fun _ => ?_) (fun _ => p_if (fun _ => ?_) (fun _ => p_ret c2.2.1))))
    · exact p_gFc (ji := 1) rfl (h1 m2 c2).2 (p_gFc (ji := 0) rfl (K2.of c2.1).c3_0 (p_gK (ci_call c2 (fun i => s_X3_firstAt (l0 := 4) (Or.inl rfl) y.1 (by omega) i) (fun b j z => False.elim z) (fun r m3 c3 _ => p_ret c3.2.1))))
    · exact p_gFc (ji := 1) rfl (h1 m2 c2).2 (p_gFc (ji := 0) rfl (K2.of c2.1).c3_0 (p_gK (ci_call c2 (fun i => s_X3_secondAt (l0 := 4) (Or.inl rfl) y.1 (by omega) i) (fun b j z => False.elim z) (fun r m3 c3 _ => p_ret c3.2.1))))
    · exact p_gFc (ji := 0) rfl (h1 m2 c2).1 (p_gK (ci_call c2 (fun i => s_X4_greaterAt (l1 := v) (by omega) i) (fun b j z => False.elim z) (fun r m3 c3 _ => p_ret c3.2.1)))
theorem ca_near (h : J3 M) : pw (mX8_near 1 M) (fun q => CA (shp q.2) q.2) := by
  unfold mX8_near
  refine p_gFc (ji := 0) rfl (vs_0 h).1 (p_gK (p_call (P := fun q => CI (mN M) q.2) ?_ (fun v m y => ?_)))
  · have loop : ∀ (fu k : Nat) (a b : Int) (m : Mem), k ≤ 4096 → CI (mN M) m → pw (mX4_nearestWorld_16 fu 2 a b (k : Int) m) (fun q => CI (mN M) q.2) := by
      intro fu
      induction fu with
      | zero => intro k a b m _ _; exact p_none
      | succ fu ih =>
        intro k a b m hk ci
        show pw (bX4_nearestWorld_16 (mX4_nearestWorld_16 fu) 2 a b (k : Int) m) _
        have km := K2.of ci.1
        unfold bX4_nearestWorld_16
        refine p_gFc (ji := 6) rfl km.c2_6 (p_gK (ci_call ci (fun i => s_X7_most (by unfold isWS; decide) i) (fun b j z => False.elim z) (fun r m2 c2 y => p_if (fun c => p_ret c2) (fun c => ?_))))
        have y1 : r ≤ 4096 := y.1.2
        have c : ¬ r ≤ (k : Int) := c
        have k2 := K2.of c2.1
        have go : ∀ (a b : Int) (m3 : Mem), CI (mN M) m3 → pw (mX4_nearestWorld_64 (mX4_nearestWorld_16 fu) 2 a b (k : Int) m3) (fun q => CI (mN M) q.2) := fun a b m3 c3 => by
          unfold mX4_nearestWorld_64
          rw [wI_s (p := k) (by omega)]
          exact ih (k + 1) a b m3 (by omega) c3
        refine p_gFc (ji := 0) rfl k2.c2_0 (p_gF (ji := 1) rfl (fun w hw => p_call (q_bitCount _ m2) (fun r2 m3 y => ?_)))
        obtain ⟨y3, _⟩ := y
        replace y3 : m3 = m2 := y3
        subst y3
        refine p_if (fun _ => go a b m3 c2) (fun _ => p_gFc (ji := 6) rfl k2.c2_6 (p_gK (ci_call c2 (fun i => s_X7_has (l1 := (k : Int)) (by unfold isWS; decide) (by omega) i) (fun b j z => False.elim z) (fun r4 m4 c4 _ => p_if (fun _ => go a b m4 c4) (fun _ => go _ _ m4 c4)))))
    unfold mX4_nearestWorld
    exact p_gK (ci_look h (fun m _ ci => p_it1 rfl (p_ret ci)) (fun m _ _ ci => p_it0 z_1 (loop FU 0 (-1) 13 m (by omega) ci)))
  · replace y : CI (mN M) m := y
    have h1 : mG m 1 1 = 3 := rd_VS_1 y.1 (a := 1) rfl
    refine p_if (fun _ => p_ret y.2.1) (fun _ => p_gFc (ji := 1) rfl h1 (p_gF (ji := 1) rfl (fun w hw => p_call (q_bitCount _ m) (fun r2 m3 z => ?_))))
    obtain ⟨z1, _⟩ := z
    replace z1 : m3 = m := z1
    subst z1
    refine p_gFc (ji := 1) rfl h1 (p_pF (ji := 1) rfl (fun m4 h4 => p_ret ?_))
    exact y.2.1.go y.1 (fun b j _ hc => st_ne h4 (fun w => by unfold CC at hc; omega))
theorem ca_holds {l : Int} (h : J3 M) : pw (mX8_holds 1 l M) (fun q => CA (shp q.2) q.2) := by
  have k2 := K2.of h.1.1.1
  have ci0 := CI.of h
  unfold mX8_holds
  refine p_if (fun _ => ?_) (fun _ => p_if (fun _ => ?_) (fun _ => p_ret ci0.2.1))
  · refine p_gFc (ji := 0) rfl (vs_0 h).1 (p_gK (p_call (P := fun q => CI (mN M) q.2) ?_ (fun v m y => p_ret y.2.1)))
    unfold mX4_countGuessWorlds
    refine p_gFc (ji := 0) rfl k2.c2_0 (p_gF (ji := 12) rfl (fun g hg => p_if (fun _ => p_ret ci0) (fun g0 => p_gK (ci_look h (fun m _ ci => p_it1 rfl (p_ret ci)) (fun m fl n12 ci => p_it0 z_1 ?_)))))
    have km := K2.of ci.1
    have e12 : mG m 3 12 = mG M 3 12 := fl 3 12 (nq_0 (by omega))
    refine p_gFc (ji := 6) rfl km.c2_6 (p_gFc (ji := 0) rfl km.c2_0 (p_gFc (ji := 12) rfl rfl (p_gK (ci_truth8 ci n12 (by rw [e12, hg]; exact g0) (fun m2 c2 => p_gK (ci_call c2 (fun i => s_X7_keepOnly (l1 := 63) (by unfold isWS; decide) (by unfold isWS; decide) i) (fun b j z => by unfold W_X7_keepOnly at z; unfold NB CC; omega) (fun r m3 c3 _ => ?_)))))))
    exact p_gFc (ji := 6) rfl (K2.of c3.1).c2_6 (p_gK (ci_call c3 (fun i => s_X7_count (by unfold isWS; decide) i) (fun b j z => False.elim z) (fun r m c2 _ => p_ret c2)))
  · refine p_gFc (ji := 0) rfl (vs_0 h).1 (p_gK (p_call (P := fun q => CI (mN M) q.2) ?_ (fun v m y => p_ret y.2.1)))
    unfold mX4_countGuessForms
    refine p_gFc (ji := 0) rfl k2.c2_0 (p_gF (ji := 12) rfl (fun g hg => p_if (fun _ => p_ret ci0) (fun g0 => p_gK (ci_look h (fun m _ ci => p_it1 rfl (p_ret ci)) (fun m fl n12 ci => p_it0 z_1 (p_gK (p_call (p_wp (s_X4_pickForms ci.1)) (fun _ m2 y => ?_))))))))
    obtain ⟨i2, kp, _⟩ := y
    replace kp : Keep (mN M) W_X4_pickForms m m2 := kp
    have hn : (169 : Int) ≤ ((mN M : Nat) : Int) := by have := ci.1.2.2.2.2.1; omega
    have c2 := ci.kp i2 kp nb_pick
    have km := K2.of c2.1
    have g2 : ∀ b j : Int, 3 ≤ b → b ≤ 10 → mG m2 b j = mG M b j := fun b j b0 b1 => (kp.2.2 b j (by omega) (fun z => by unfold W_X4_pickForms at z; omega)).trans (fl b j (nq_0 (by omega)))
    have e12 : mG m2 3 12 = mG M 3 12 := g2 3 12 (by decide) (by decide)
    have es : shp m2 = shp m := shp_go (fun b j x => (g2 b j (by omega) (by omega)).trans (fl b j (nq_0 (by omega))).symm)
    refine p_gFc (ji := 7) rfl km.c2_7 (p_gFc (ji := 0) rfl km.c2_0 (p_gFc (ji := 12) rfl rfl (p_gK (ci_truth8 c2 (by rw [es]; exact n12) (by rw [e12, hg]; exact g0) (fun m2 c2 => p_gK (ci_call c2 (fun i => s_X7_keepOnly (l1 := 63) (by unfold isWS; decide) (by unfold isWS; decide) i) (fun b j z => nb_37 b j (Or.inl z)) (fun r m3 c3 _ => ?_)))))))
    exact p_gFc (ji := 7) rfl (K2.of c3.1).c2_7 (p_gK (ci_call c3 (fun i => s_X7_count (by unfold isWS; decide) i) (fun b j z => False.elim z) (fun r m c2 _ => p_ret c2)))
theorem ca_against (h : J3 M) : pw (mX8_against 1 M) (fun q => CA (shp q.2) q.2) := by
  have k2 := K2.of h.1.1.1
  have ci0 := CI.of h
  unfold mX8_against
  refine p_gFc (ji := 0) rfl (vs_0 h).1 (p_gK (p_call (P := fun q => CI (mN M) q.2) ?_ (fun v m y => p_gK (p_call (ca_becomes y) (fun v m y => p_zR (fun _ => p_ret y))))))
  unfold mX4_formAgainst
  refine p_gFc (ji := 0) rfl k2.c2_0 (p_gF (ji := 12) rfl (fun g hg => p_if (fun _ => p_ret ci0) (fun g0 => p_gK (ci_look h (fun m _ ci => p_it1 rfl (p_ret ci)) (fun m fl n12 ci => p_it0 z_1 (p_gK (p_call (p_wp (s_X4_pickForms ci.1)) (fun _ m2 y => ?_))))))))
  obtain ⟨i2, kp, _⟩ := y
  replace kp : Keep (mN M) W_X4_pickForms m m2 := kp
  have hn : (169 : Int) ≤ ((mN M : Nat) : Int) := by have := ci.1.2.2.2.2.1; omega
  have c2 := ci.kp i2 kp nb_pick
  have km := K2.of c2.1
  have g2 : ∀ b j : Int, 3 ≤ b → b ≤ 10 → mG m2 b j = mG M b j := fun b j b0 b1 => (kp.2.2 b j (by omega) (fun z => by unfold W_X4_pickForms at z; omega)).trans (fl b j (nq_0 (by omega)))
  have e12 : mG m2 3 12 = mG M 3 12 := g2 3 12 (by decide) (by decide)
  have es : shp m2 = shp m := shp_go (fun b j x => (g2 b j (by omega) (by omega)).trans (fl b j (nq_0 (by omega))).symm)
  refine p_gFc (ji := 7) rfl km.c2_7 (p_gFc (ji := 0) rfl km.c2_0 (p_gFc (ji := 12) rfl rfl (p_gK (ci_truth8 c2 (by rw [es]; exact n12) (by rw [e12, hg]; exact g0) (fun m2 c2 => p_gK (ci_call c2 (fun i => s_X7_drop (l1 := 63) (by unfold isWS; decide) (by unfold isWS; decide) i) (fun b j z => nb_37 b j (Or.inl z)) (fun r m3 c3 _ => ?_)))))))
  exact p_gFc (ji := 7) rfl (K2.of c3.1).c2_7 (p_gK (ci_call c3 (fun i => s_X7_nth (by unfold isWS; decide) (by decide) i) (fun b j z => False.elim z) (fun r m c2 _ => p_ret c2)))
end
