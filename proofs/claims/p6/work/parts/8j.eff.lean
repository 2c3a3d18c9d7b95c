/-! ===== what a few calls do, on both sides ===== -/
section
variable {n : Nat} {M : Mem} {l l1 l2 : Int}
theorem p2_clearWorlds (e3 : mG M 3 3 = 12) : pw (mX6_clearWorlds 3 M) (fun q => mG q.2 3 1 = 0 ∧ ∀ p : Int, 0 ≤ p → p < 4 → mG q.2 12 p = 0) := by
  have key : ∀ (fu : Nat) (l : Int) (M : Mem), 0 ≤ l → l ≤ 4 → mG M 3 3 = 12 → mG M 3 1 = 0 → (∀ p : Int, 0 ≤ p → p < l → mG M 12 p = 0) → pw (mX6_clearWorlds_7 fu 3 l M) (fun q => mG q.2 3 1 = 0 ∧ ∀ p : Int, 0 ≤ p → p < 4 → mG q.2 12 p = 0) := by
    intro fu
    induction fu with
    | zero => intro l M _ _ _ _ _; exact p_none
    | succ fu ih =>
      intro l M l0 l4 e3 e1 h
      show pw (bX6_clearWorlds_7 (mX6_clearWorlds_7 fu) 3 l M) _
      unfold bX6_clearWorlds_7
      refine p_if (fun c => p_ret ⟨e1, fun p p0 p1 => h p p0 (by omega)⟩) (fun c => p_gFc (ji := 3) rfl e3 (p_aSZ (fun M1 h1 => ?_)))
      rw [wI_id (x := l + 1) (by omega) (by omega)]
      refine ih _ M1 (by omega) (by omega) ((st_ne h1 (by omega)).trans e3) ((st_ne h1 (by omega)).trans e1) (fun p p0 p1 => ?_)
      by_cases e : p = l
      · rw [e]; exact st_eq h1
      · rw [st_ne h1 (by omega)]; exact h p p0 (by omega)
  unfold mX6_clearWorlds
  refine p_pF (ji := 1) rfl (fun M1 h1 => key FU 0 M1 (by decide) (by decide) ((st_ne h1 (by omega)).trans e3) (st_eq h1) (fun p p0 p1 => absurd p1 (by omega)))
theorem p2_tail (i : I n M) {f : Mem → Int} : pw ((gF 8 1 M 1).bind fun a18 => (gK 6 M a18).bind fun _ => (mX6_clearWorlds a18 M).bind fun q21 => (gF 8 0 q21.2 1).bind fun a25 => (gK 4 q21.2 a25).bind fun _ => (mX4_forget a25 q21.2).bind fun q28 => some (f q28.2, q28.2)) (fun q => mG q.2 3 1 = 0 ∧ ∀ p : Int, 0 ≤ p → p < 4 → mG q.2 12 p = 0) := by
  have e3 := rd_Told_3 i (a := 3) rfl
  refine p_gFc (ji := 1) rfl (rd_VS_1 i (a := 1) rfl) (p_gK (p_call (p_and (pl_clearWorlds' e3) (p2_clearWorlds e3)) (fun r m h => ?_)))
  obtain ⟨g, h1, h2⟩ := h
  replace g : ∀ b j : Int, ¬ (b = 3 ∧ j = 1) → ¬ b = 12 → mG m b j = mG M b j := g
  refine p_gFc (ji := 0) rfl ((g 1 0 (by omega) (by decide)).trans (rd_VS_0 i (a := 1) rfl)) (p_gK (p_call (pl_forget' ((g 2 2 (by omega) (by decide)).trans (rd_Solver_2 i (a := 2) rfl))) (fun r m3 g3 => p_ret ?_)))
  replace g3 : ∀ b j : Int, ¬ b = 2 → ¬ b = 24 → mG m3 b j = mG m b j := g3
  exact ⟨(g3 3 1 (by decide) (by decide)).trans h1, fun p p0 p1 => (g3 12 p (by decide) (by decide)).trans (h2 p p0 p1)⟩
theorem p2_size (iM : I n M) (r1 : (-2147483648) ≤ l1 ∧ l1 ≤ 2147483647) (r2 : (-2147483648) ≤ l2 ∧ l2 ≤ 2147483647) : pw (mX8_size 1 l1 l2 M) (fun q => q.1 = 0 ∨ (mG q.2 3 1 = 0 ∧ ∀ p : Int, 0 ≤ p → p < 4 → mG q.2 12 p = 0)) := by
  unfold mX8_size
  refine p_gFc (ji := 1) rfl (rd_VS_1 iM (a := 1) rfl) (p_gFc (ji := 0) rfl (rd_Told_0 iM (a := 3) rfl) (p_gK (p_call (p_wp (s_X3_resize (Or.inl rfl) r1 r2 iM)) (fun r m h => ?_))))
  have i : I n m := h.1
  exact p_if (fun _ => p_ret (Or.inl rfl)) (fun _ => p_mono (p2_tail i (f := fun _ => 1)) (fun q z => Or.inr z))
theorem p2_relation (iM : I n M) (r1 : (-2147483648) ≤ l1 ∧ l1 ≤ 2147483647) (r2 : (-2147483648) ≤ l2 ∧ l2 ≤ 2147483647) : pw (mX8_relation 1 l1 l2 M) (fun q => q.1 = -1 ∨ (mG q.2 3 1 = 0 ∧ ∀ p : Int, 0 ≤ p → p < 4 → mG q.2 12 p = 0)) := by
  unfold mX8_relation mX8_relation_32
  refine p_gFc (ji := 1) rfl (rd_VS_1 iM (a := 1) rfl) (p_gFc (ji := 0) rfl (rd_Told_0 iM (a := 3) rfl) (p_gK (p_call (p_wp (s_X3_addRelation (Or.inl rfl) r1 r2 iM)) (fun r m h => ?_))))
  have i : I n m := h.1
  exact p_if (fun c => p_ret (Or.inl c)) (fun _ => p_mono (p2_tail i (f := fun _ => r)) (fun q z => Or.inr z))
/-- the world and what is kept are cleared, nothing else of their cells -/
def CW (M0 : Mem) (k p : Int) (M : Mem) : Prop := (∀ j : Int, 0 ≤ j → j < k → mG M 137 j = 0) ∧ (∀ j : Int, 0 ≤ j → j < p → mG M 151 j = 0) ∧ ∀ b j : Int, ¬ (b = 137 ∧ 0 ≤ j ∧ j < 36) → ¬ (b = 151 ∧ 0 ≤ j ∧ j < 4) → mG M b j = mG M0 b j
theorem r2_clearWorld (a11 : mG M 126 11 = 137) (a25 : mG M 126 25 = 151) : pw (mX9_clearWorld 126 M) (fun q => CW M 36 4 q.2) := by
  have k2 : ∀ (fu : Nat) (l : Int) (M1 : Mem), 0 ≤ l → l ≤ 4 → CW M 36 l M1 → pw (mX9_clearWorld_23 fu 126 l M1) (fun q => CW M 36 4 q.2) := by
    intro fu
    induction fu with
    | zero => intro l M1 _ _ _; exact p_none
    | succ fu ih =>
      intro l M1 l0 l4 h
      show pw (bX9_clearWorld_23 (mX9_clearWorld_23 fu) 126 l M1) _
      unfold bX9_clearWorld_23
      refine p_if (fun c => p_ret ((Int.le_antisymm l4 c : l = 4) ▸ h)) (fun c => p_gFc (ji := 25) rfl ((h.2.2 126 25 (by omega) (by omega)).trans a25) (p_aSZ (fun M2 h2 => ?_)))
      rw [wI_id (x := l + 1) (by omega) (by omega)]
      refine ih _ M2 (by omega) (by omega) ⟨fun j j0 j1 => (st_ne h2 (by omega)).trans (h.1 j j0 j1), fun j j0 j1 => ?_, fun b j x y => (st_ne h2 (by omega)).trans (h.2.2 b j x y)⟩
      by_cases e : j = l
      · rw [e]; exact st_eq h2
      · rw [st_ne h2 (by omega)]; exact h.2.1 j j0 (by omega)
  have k1 : ∀ (fu : Nat) (l : Int) (M1 : Mem), 0 ≤ l → l ≤ 36 → CW M l 0 M1 → pw (mX9_clearWorld_2 fu 126 l M1) (fun q => CW M 36 4 q.2) := by
    intro fu
    induction fu with
    | zero => intro l M1 _ _ _; exact p_none
    | succ fu ih =>
      intro l M1 l0 l4 h
      show pw (bX9_clearWorld_2 (mX9_clearWorld_2 fu) 126 l M1) _
      unfold bX9_clearWorld_2
      refine p_if (fun c => k2 FU 0 M1 (by decide) (by decide) ((Int.le_antisymm l4 c : l = 36) ▸ h)) (fun c => p_gFc (ji := 11) rfl ((h.2.2 126 11 (by omega) (by omega)).trans a11) (p_aSZ (fun M2 h2 => ?_)))
      rw [wI_id (x := l + 1) (by omega) (by omega)]
      refine ih _ M2 (by omega) (by omega) ⟨fun j j0 j1 => ?_, fun j j0 j1 => absurd j1 (by omega), fun b j x y => (st_ne h2 (by omega)).trans (h.2.2 b j x y)⟩
      by_cases e : j = l
      · rw [e]; exact st_eq h2
      · rw [st_ne h2 (by omega)]; exact h.1 j j0 (by omega)
  unfold mX9_clearWorld
  exact k1 FU 0 M (by decide) (by decide) ⟨fun j j0 j1 => absurd j1 (by omega), fun j j0 j1 => absurd j1 (by omega), fun _ _ _ _ => rfl⟩
def CZ (M M' : Mem) : Prop := (∀ k : Int, 0 ≤ k → k < 36 → mG M' 137 k = 0) ∧ (∀ p : Int, 0 ≤ p → p < 4 → mG M' 151 p = 0) ∧ ∀ b j : Int, (b = 137 ∧ ¬ (0 ≤ j ∧ j < 36)) ∨ (b = 151 ∧ ¬ (0 ≤ j ∧ j < 4)) → mG M' b j = mG M b j
theorem r2_size (iM : I n M) : pw (mX9_size 126 l1 l2 M) (fun q => q.1 = 0 ∨ CZ M q.2) := by
  unfold mX9_size
  refine p_pF (ji := 0) rfl (fun M1 h1 => p_same (p_mono pr_in (fun q z => z.1)) (fun r => p_if (fun _ => p_ret (Or.inl rfl)) (fun _ => ?_)))
  refine p_same (p_mono pr_in (fun q z => z.1)) (fun r => p_if (fun _ => p_ret (Or.inl rfl)) (fun _ => ?_))
  have f1 : ∀ j : Int, ¬ j = 0 → mG M1 126 j = mG M 126 j := fun j hj => st_ne h1 (fun z => hj z.2)
  have e7 : mG M1 126 7 = 133 := (f1 7 (by decide)).trans (rd_Model_7 iM (a := 126) rfl)
  refine p_gFc (ji := 7) rfl e7 (p_aG (fun v _ => p_if (fun _ => p_ret (Or.inl rfl)) (fun _ => p_gFc (ji := 7) rfl e7 (p_aS (fun M2 h2 => p_gK ?_)))))
  replace h2 : M2 = mS M1 133 l1 l2 := h2
  have f2 : ∀ j : Int, ¬ j = 0 → mG M2 126 j = mG M 126 j := fun j hj => (st_ne h2 (by omega)).trans (f1 j hj)
  refine p_call (r2_clearWorld ((f2 11 (by decide)).trans (rd_Model_11 iM (a := 126) rfl)) ((f2 25 (by decide)).trans (rd_Model_25 iM (a := 126) rfl))) (fun r m h => p_ret (Or.inr ⟨h.1, h.2.1, fun b j z => ?_⟩))
  exact (h.2.2 b j (by omega) (by omega)).trans ((st_ne h2 (by omega)).trans (st_ne h1 (by omega)))
theorem r2_relation (iM : I n M) : pw (mX9_relation 126 l1 l2 M) (fun q => q.1 = -1 ∨ CZ M q.2) := by
  unfold mX9_relation
  refine p_pF (ji := 0) rfl (fun M1 h1 => ?_)
  have f1 : ∀ j : Int, ¬ j = 0 → mG M1 126 j = mG M 126 j := fun j hj => st_ne h1 (fun z => hj z.2)
  have e8 : mG M1 126 8 = 134 := (f1 8 (by decide)).trans (rd_Model_8 iM (a := 126) rfl)
  refine p_gFc (ji := 8) rfl e8 (p_aG (fun v _ => p_if (fun _ => p_ret (Or.inl rfl)) (fun _ => ?_)))
  refine p_same (p_mono pr_in (fun q z => z.1)) (fun r => p_if (fun _ => p_ret (Or.inl rfl)) (fun _ => ?_))
  refine p_same (p_mono pr_in (fun q z => z.1)) (fun r => p_if (fun _ => p_ret (Or.inl rfl)) (fun _ => ?_))
  refine p_gFc (ji := 8) rfl e8 (p_aG (fun v2 _ => p_gFc (ji := 8) rfl e8 (p_aG (fun v3 _ => p_aS (fun M2 h2 => ?_)))))
  replace h2 : M2 = mS M1 134 0 (wI (v3 + 1)) := h2
  have f2 : ∀ j : Int, ¬ j = 0 → mG M2 126 j = mG M 126 j := fun j hj => (st_ne h2 (by omega)).trans (f1 j hj)
  refine p_gFc (ji := 9) rfl ((f2 9 (by decide)).trans (rd_Model_9 iM (a := 126) rfl)) (p_aS (fun M3 h3 => ?_))
  replace h3 : M3 = mS M2 135 v2 l1 := h3
  have f3 : ∀ j : Int, ¬ j = 0 → mG M3 126 j = mG M 126 j := fun j hj => (st_ne h3 (by omega)).trans (f2 j hj)
  refine p_gFc (ji := 10) rfl ((f3 10 (by decide)).trans (rd_Model_10 iM (a := 126) rfl)) (p_aS (fun M4 h4 => p_gK ?_))
  replace h4 : M4 = mS M3 136 v2 l2 := h4
  have f4 : ∀ j : Int, ¬ j = 0 → mG M4 126 j = mG M 126 j := fun j hj => (st_ne h4 (by omega)).trans (f3 j hj)
  refine p_call (r2_clearWorld ((f4 11 (by decide)).trans (rd_Model_11 iM (a := 126) rfl)) ((f4 25 (by decide)).trans (rd_Model_25 iM (a := 126) rfl))) (fun r m h => p_ret (Or.inr ⟨h.1, h.2.1, fun b j z => ?_⟩))
  exact (h.2.2 b j (by omega) (by omega)).trans ((st_ne h4 (by omega)).trans ((st_ne h3 (by omega)).trans ((st_ne h2 (by omega)).trans (st_ne h1 (by omega)))))
theorem p2_keep (iM : I n M) : pw (mX8_keep 1 l M) (fun q => (q.1 = 0 ∧ ¬ (0 ≤ l ∧ l ≤ 3) ∧ q.2 = M) ∨ (q.1 = 1 ∧ (0 ≤ l ∧ l ≤ 3) ∧ mG q.2 11 l = mG M 3 1 ∧ mG q.2 12 l = 1 ∧ ∀ b j : Int, ¬ (b = 11 ∧ j = l) → ¬ (b = 12 ∧ j = l) → mG q.2 b j = mG M b j)) := by
  have i1 : mG M 1 1 = 3 := rd_VS_1 iM (a := 1) rfl
  unfold mX8_keep
  refine p_if (fun c => p_ret (Or.inl ⟨rfl, by omega, rfl⟩)) (fun c => p_if (fun c2 => ?_) (fun c2 => p_ret (Or.inl ⟨rfl, by omega, rfl⟩)))
  refine p_gFc (ji := 1) rfl i1 (p_gFc (ji := 2) rfl (rd_Told_2 iM (a := 3) rfl) (p_gFc (ji := 1) rfl i1 (p_gFc (ji := 1) rfl (rfl : mG M 3 1 = mG M 3 1) (p_aS (fun M1 h1 => ?_)))))
  replace h1 : M1 = mS M 11 l (mG M 3 1) := h1
  refine p_gFc (ji := 1) rfl ((st_ne h1 (by omega)).trans i1) (p_gFc (ji := 3) rfl ((st_ne h1 (by omega)).trans (rd_Told_3 iM (a := 3) rfl)) (p_aSZ (fun M2 h2 => ?_)))
  replace h2 : M2 = mS M1 12 l 1 := h2
  exact p_ret (Or.inr ⟨rfl, by omega, (st_ne h2 (by omega)).trans (st_eq h1), st_eq h2, fun b j x y => (st_ne h2 y).trans (st_ne h1 x)⟩)
theorem r2_keep (iM : I n M) : pw (mX9_keep 126 l M) (fun q => (q.1 = 0 ∧ ¬ (0 ≤ l ∧ l ≤ 3) ∧ ∀ b j : Int, ¬ b = 126 → mG q.2 b j = mG M b j) ∨ (q.1 = 1 ∧ (0 ≤ l ∧ l ≤ 3) ∧ mG q.2 151 l = 1 ∧ (∀ k : Int, 0 ≤ k → k < 36 → mG q.2 150 (36 * l + k) = mG M 137 k) ∧ ∀ b j : Int, ¬ b = 126 → ¬ (b = 151 ∧ j = l) → ¬ (b = 150 ∧ 36 * l ≤ j ∧ j < 36 * l + 36) → mG q.2 b j = mG M b j)) := by
  unfold mX9_keep
  refine p_pF (ji := 0) rfl (fun M1 h1 => ?_)
  have g1 : ∀ b j : Int, ¬ b = 126 → mG M1 b j = mG M b j := fun b j hb => st_ne h1 (fun z => hb z.1)
  have f1 : ∀ j : Int, ¬ j = 0 → mG M1 126 j = mG M 126 j := fun j hj => st_ne h1 (fun z => hj z.2)
  refine p_call pr_in (fun r m h => ?_)
  obtain ⟨e, h⟩ := h
  replace e : m = M1 := e
  subst e
  rcases h with ⟨hr, h⟩ | ⟨hr, h⟩
  · replace hr : r = 1 := hr
    subst hr
    refine p_it0 (show ¬ (1 : Int) = 0 by decide) (p_gFc (ji := 25) rfl ((f1 25 (by decide)).trans (rd_Model_25 iM (a := 126) rfl)) (p_aSZ (fun M2 h2 => ?_)))
    replace h2 : M2 = mS m 151 l 1 := h2
    have key : ∀ (fu : Nat) (k : Int) (M3 : Mem), 0 ≤ k → k ≤ 36 → (∀ b j : Int, ¬ (b = 150 ∧ 36 * l ≤ j ∧ j < 36 * l + 36) → mG M3 b j = mG M2 b j) → (∀ j : Int, 0 ≤ j → j < k → mG M3 150 (36 * l + j) = mG M 137 j) → pw (mX9_keep_25 fu 126 l k M3) (fun q => q.1 = 1 ∧ (∀ j : Int, 0 ≤ j → j < 36 → mG q.2 150 (36 * l + j) = mG M 137 j) ∧ ∀ b j : Int, ¬ (b = 150 ∧ 36 * l ≤ j ∧ j < 36 * l + 36) → mG q.2 b j = mG M2 b j) := by
      intro fu
      induction fu with
      | zero => intro k M3 _ _ _ _; exact p_none
      | succ fu ih =>
        intro k M3 k0 k1 g hk
        show pw (bX9_keep_25 (mX9_keep_25 fu) 126 l k M3) _
        unfold bX9_keep_25
        refine p_if (fun c => p_ret ⟨rfl, fun j j0 j1 => hk j j0 (by omega), g⟩) (fun c => ?_)
        have f3 : ∀ j : Int, ¬ j = 0 → mG M3 126 j = mG M 126 j := fun j hj => (g 126 j (by omega)).trans ((st_ne h2 (by omega)).trans (f1 j hj))
        have e137 : mG M3 137 k = mG M 137 k := (g 137 k (by omega)).trans ((st_ne h2 (by omega)).trans (g1 137 k (by decide)))
        refine p_gFc (ji := 24) rfl ((f3 24 (by decide)).trans (rd_Model_24 iM (a := 126) rfl)) (p_gFc (ji := 11) rfl ((f3 11 (by decide)).trans (rd_Model_11 iM (a := 126) rfl)) (p_aGc e137 (p_aSZ (fun M4 h4 => ?_))))
        rw [wI_id (x := 36 * l) (by omega) (by omega), wI_id (x := 36 * l + k) (by omega) (by omega)] at h4
        rw [wI_id (x := k + 1) (by omega) (by omega)]
        refine ih _ M4 (by omega) (by omega) (fun b j x => (st_ne h4 (by omega)).trans (g b j x)) (fun j j0 j1 => ?_)
        by_cases e : j = k
        · rw [e]; exact st_eq h4
        · rw [st_ne h4 (by omega)]; exact hk j j0 (by omega)
    refine p_mono (key FU 0 M2 (by decide) (by decide) (fun _ _ _ => rfl) (fun j j0 j1 => absurd j1 (by omega))) (fun q z => Or.inr ⟨z.1, by omega, ?_, z.2.1, fun b j x y w => ?_⟩)
    · exact (z.2.2 151 l (by omega)).trans (st_eq h2)
    · rw [z.2.2 b j w, st_ne h2 y]; exact g1 b j x
  · replace hr : r = 0 := hr
    subst hr
    exact p_it1 rfl (p_ret (Or.inl ⟨rfl, by omega, g1⟩))
theorem p2_strike (iM : I n M) : pw (mX8_strike 1 l M) (fun q => (q.1 = 0 ∧ ¬ ((0 ≤ l ∧ l < mG M 3 11) ∧ mG M 16 l = -1) ∧ q.2 = M) ∨ (q.1 = 1 ∧ ((0 ≤ l ∧ l < mG M 3 11) ∧ mG M 16 l = -1) ∧ q.2 = mS M 16 l (mG M 3 13))) := by
  have i1 : mG M 1 1 = 3 := rd_VS_1 iM (a := 1) rfl
  have h10 : mG M 3 10 = 16 := rd_Told_10 iM (a := 3) rfl
  unfold mX8_strike mX6_hasStory
  refine p_gFc (ji := 1) rfl i1 (p_gK ?_)
  refine p_call (P := fun q => q.2 = M ∧ ((q.1 = 1 ∧ 0 ≤ l ∧ l < mG M 3 11) ∨ (q.1 = 0 ∧ ¬ (0 ≤ l ∧ l < mG M 3 11)))) ?_ (fun r m h => ?_)
  · refine p_if (fun c => p_ret ⟨rfl, Or.inr ⟨rfl, by omega⟩⟩) (fun c => p_gF (ji := 11) rfl (fun v hv => p_if (fun c2 => p_ret ⟨rfl, Or.inr ⟨rfl, by omega⟩⟩) (fun c2 => p_ret ⟨rfl, Or.inl ⟨rfl, by omega, by omega⟩⟩)))
  · obtain ⟨e, h⟩ := h
    replace e : m = M := e
    subst e
    rcases h with ⟨hr, h⟩ | ⟨hr, h⟩
    · replace hr : r = 1 := hr
      subst hr
      refine p_it0 (show ¬ (1 : Int) = 0 by decide) (p_gFc (ji := 1) rfl i1 (p_gFc (ji := 10) rfl h10 (p_aG (fun v hv => p_if (fun c => ?_) (fun c => ?_)))))
      · exact p_gFc (ji := 1) rfl i1 (p_gFc (ji := 10) rfl h10 (p_gFc (ji := 1) rfl i1 (p_gFc (ji := 13) rfl rfl (p_aS (fun M1 h1 => p_ret (Or.inr ⟨rfl, ⟨h, hv.trans c⟩, h1⟩))))))
      · exact p_ret (Or.inl ⟨rfl, fun z => c (hv.symm.trans z.2), rfl⟩)
    · replace hr : r = 0 := hr
      subst hr
      exact p_it1 rfl (p_ret (Or.inl ⟨rfl, fun z => h z.1, rfl⟩))
theorem r2_strike (iM : I n M) : pw (mX9_strike 126 l M) (fun q => (q.1 = 0 ∧ ¬ ((0 ≤ l ∧ l < mG M 138 0) ∧ mG M 140 l = -1) ∧ ∀ b j : Int, ¬ b = 126 → mG q.2 b j = mG M b j) ∨ (q.1 = 1 ∧ ((0 ≤ l ∧ l < mG M 138 0) ∧ mG M 140 l = -1) ∧ mG q.2 140 l = mG M 131 0 ∧ ∀ b j : Int, ¬ b = 126 → ¬ (b = 140 ∧ j = l) → mG q.2 b j = mG M b j)) := by
  have r0 := rd_Mstories iM (a := 138) (i := 0) rfl
  unfold mX9_strike
  refine p_pF (ji := 0) rfl (fun M1 h1 => ?_)
  have g1 : ∀ b j : Int, ¬ b = 126 → mG M1 b j = mG M b j := fun b j hb => st_ne h1 (fun z => hb z.1)
  have f1 : ∀ j : Int, ¬ j = 0 → mG M1 126 j = mG M 126 j := fun j hj => st_ne h1 (fun z => hj z.2)
  have e14 : mG M1 126 14 = 140 := (f1 14 (by decide)).trans (rd_Model_14 iM (a := 126) rfl)
  refine p_gFc (ji := 12) rfl ((f1 12 (by decide)).trans (rd_Model_12 iM (a := 126) rfl)) (p_aGc (g1 138 0 (by decide)) ?_)
  rw [wI_id (x := mG M 138 0 - 1) (by omega) (by omega)]
  refine p_call pr_in (fun r m h => ?_)
  obtain ⟨e, h⟩ := h
  replace e : m = M1 := e
  subst e
  rcases h with ⟨hr, h⟩ | ⟨hr, h⟩
  · replace hr : r = 1 := hr
    subst hr
    refine p_it0 (show ¬ (1 : Int) = 0 by decide) (p_gFc (ji := 14) rfl e14 (p_aGc (g1 140 l (by decide)) (p_if (fun c => ?_) (fun c => ?_))))
    · refine p_gFc (ji := 14) rfl e14 (p_gFc (ji := 5) rfl ((f1 5 (by decide)).trans (rd_Model_5 iM (a := 126) rfl)) (p_aGc (g1 131 0 (by decide)) (p_aS (fun M2 h2 => p_ret (Or.inr ⟨rfl, ⟨by omega, c⟩, st_eq h2, fun b j x y => (st_ne h2 y).trans (g1 b j x)⟩)))))
    · exact p_ret (Or.inl ⟨rfl, fun z => c z.2, g1⟩)
  · replace hr : r = 0 := hr
    subst hr
    exact p_it1 rfl (p_ret (Or.inl ⟨rfl, fun z => h ⟨z.1.1, by omega⟩, g1⟩))
end
