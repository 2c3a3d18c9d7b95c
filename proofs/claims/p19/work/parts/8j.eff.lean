section
/-! ===== what a few calls do, on both sides ===== -/
section
variable {n : Nat} {M : Mem} {l l1 l2 : Int}
theorem p2_clearWorlds (e3 : mG M 3 3 = 12) : pw (mX6_clearWorlds 3 M) (fun q => mG q.2 3 1 = 0 ∧ ∀ p : Int, 0 ≤ p → p < 4 → mG q.2 12 p = 0) := by
  have key : ∀ (fu : Nat) (l : Int) (M : Mem), 0 ≤ l → l ≤ 4 → mG M 3 3 = 12 → mG M 3 1 = 0 → (∀ p : Int, 0 ≤ p → p < l → mG M 12 p = 0) → pw (mX6_clearWorlds_7 fu 3 l M) (fun q => mG q.2 3 1 = 0 ∧ ∀ p : Int, 0 ≤ p → p < 4 → mG q.2 12 p = 0) := by
    intro fu
    induction fu with
    | zero => intro l M _ _ _ _ _; exact p_none
    | succ fu ih =>
      intro l M l0 l4 e3 e1 h
      show pw (bX6_clearWorlds_7 (mX6_clearWorlds_7 fu) 3 l M) _
      unfold bX6_clearWorlds_7
      refine p_if (fun c => p_ret ⟨e1, fun p p0 p1 => h p p0 (by omega)⟩) (fun c => p_gFc (ji := 3) rfl e3 (p_aSZ (fun M1 h1 => ?_)))
      rw [wI_id (x := l + 1) (by omega) (by omega)]
      refine ih _ M1 (by omega) (by omega) ((st_ne h1 (by omega)).trans e3) ((st_ne h1 (by omega)).trans e1) (fun p p0 p1 => ?_)
      by_cases e : p = l
      · rw [e]; exact st_eq h1
      · rw [st_ne h1 (by omega)]; exact h p p0 (by omega)
  unfold mX6_clearWorlds
  refine p_pF (ji := 1) rfl (fun M1 h1 => key FU 0 M1 (by decide) (by decide) ((st_ne h1 (by omega)).trans e3) (st_eq h1) (fun p p0 p1 => absurd p1 (by omega)))
theorem p2_tail (i : I n M) {f : Mem → Int} : pw ((gF 8 1 M 1).bind fun a18 => (gK 6 M a18).bind fun _ => (mX6_clearWorlds a18 M).bind fun q21 => (gF 8 0 q21.2 1).bind fun a25 => (gK 4 q21.2 a25).bind fun _ => (mX4_forget a25 q21.2).bind fun q28 => some (f q28.2, q28.2)) (fun q => mG q.2 3 1 = 0 ∧ ∀ p : Int, 0 ≤ p → p < 4 → mG q.2 12 p = 0) := by
  have e3 := rd_Told_3 i (a := 3) rfl
  refine p_gFc (ji := 1) rfl (rd_VS_1 i (a := 1) rfl) (p_gK (p_call (p_and (pl_clearWorlds' e3) (p2_clearWorlds e3)) (fun r m h => ?_)))
  obtain ⟨g, h1, h2⟩ := h
  replace g : ∀ b j : Int, ¬ (b = 3 ∧ j = 1) → ¬ b = 12 → mG m b j = mG M b j := g
  refine p_gFc (ji := 0) rfl ((g 1 0 (by omega) (by decide)).trans (rd_VS_0 i (a := 1) rfl)) (p_gK (p_call (pl_forget' ((g 2 2 (by omega) (by decide)).trans (rd_Solver_2 i (a := 2) rfl))) (fun r m3 g3 => p_ret ?_)))
  replace g3 : ∀ b j : Int, ¬ b = 2 → ¬ b = 24 → mG m3 b j = mG m b j := g3
  exact ⟨(g3 3 1 (by decide) (by decide)).trans h1, fun p p0 p1 => (g3 12 p (by decide) (by decide)).trans (h2 p p0 p1)⟩
theorem p2_size (iM : I n M) (r1 : (-2147483648) ≤ l1 ∧ l1 ≤ 2147483647) (r2 : (-2147483648) ≤ l2 ∧ l2 ≤ 2147483647) : pw (mX8_size 1 l1 l2 M) (fun q => q.1 = 0 ∨ (mG q.2 3 1 = 0 ∧ ∀ p : Int, 0 ≤ p → p < 4 → mG q.2 12 p = 0)) := by
  unfold mX8_size
  refine p_gFc (ji := 1) rfl (rd_VS_1 iM (a := 1) rfl) (p_gFc (ji := 0) rfl (rd_Told_0 iM (a := 3) rfl) (p_gK (p_call (p_wp (s_X3_resize (Or.inl rfl) r1 r2 iM)) (fun r m h => ?_))))
  have i : I n m := h.1
  exact p_if (fun _ => p_ret (Or.inl rfl)) (fun _ => p_mono (p2_tail i (f := fun _ => 1)) (fun q z => Or.inr z))
theorem p2_relation (iM : I n M) (r1 : (-2147483648) ≤ l1 ∧ l1 ≤ 2147483647) (r2 : (-2147483648) ≤ l2 ∧ l2 ≤ 2147483647) : pw (mX8_relation 1 l1 l2 M) (fun q => q.1 = -1 ∨ (mG q.2 3 1 = 0 ∧ ∀ p : Int, 0 ≤ p → p < 4 → mG q.2 12 p = 0)) := by
  unfold mX8_relation mX8_relation_32
  refine p_gFc (ji := 1) rfl (rd_VS_1 iM (a := 1) rfl) (p_gFc (ji := 0) rfl (rd_Told_0 iM (a := 3) rfl) (p_gK (p_call (p_wp (s_X3_addRelation (Or.inl rfl) r1 r2 iM)) (fun r m h => ?_))))
  have i : I n m := h.1
  exact p_if (fun c => p_ret (Or.inl c)) (fun _ => p_mono (p2_tail i (f := fun _ => r)) (fun q z => Or.inr z))
/-- the world and what is kept are cleared, nothing else of their cells -/
def CW (M0 : Mem) (k p : Int) (M : Mem) : Prop := (∀ j : Int, 0 ≤ j → j < k → mG M 137 j = 0) ∧ (∀ j : Int, 0 ≤ j → j < p → mG M 151 j = 0) ∧ ∀ b j : Int, ¬ (b = 137 ∧ 0 ≤ j ∧ j < 36) → ¬ (b = 151 ∧ 0 ≤ j ∧ j < 4) → mG M b j = mG M0 b j
theorem r2_clearWorld (a11 : mG M 126 11 = 137) (a25 : mG M 126 25 = 151) : pw (mX9_clearWorld 126 M) (fun q => CW M 36 4 q.2) := by
  have k2 : ∀ (fu : Nat) (l : Int) (M1 : Mem), 0 ≤ l → l ≤ 4 → CW M 36 l M1 → pw (mX9_clearWorld_23 fu 126 l M1) (fun q => CW M 36 4 q.2) := by
    intro fu
    induction fu with
    | zero => intro l M1 _ _ _; exact p_none
    | succ fu ih =>
      intro l M1 l0 l4 h
      show pw (bX9_clearWorld_23 (mX9_clearWorld_23 fu) 126 l M1) _
      unfold bX9_clearWorld_23
      refine p_if (fun c => p_ret ((Int.le_antisymm l4 c : l = 4) ▸ h)) (fun c => p_gFc (ji := 25) rfl ((h.2.2 126 25 (by omega) (by omega)).trans a25) (p_aSZ (fun M2 h2 => ?_)))
      rw [wI_id (x := l + 1) (by omega) (by omega)]
      refine ih _ M2 (by omega) (by omega) ⟨fun j j0 j1 => (st_ne h2 (by omega)).trans (h.1 j j0 j1), fun j j0 j1 => ?_, fun b j x y => (st_ne h2 (by omega)).trans (h.2.2 b j x y)⟩
      by_cases e : j = l
      · rw [e]; exact st_eq h2
      · rw [st_ne h2 (by omega)]; exact h.2.1 j j0 (by omega)
  have k1 : ∀ (fu : Nat) (l : Int) (M1 : Mem), 0 ≤ l → l ≤ 36 → CW M l 0 M1 → pw (mX9_clearWorld_2 fu 126 l M1) (fun q => CW M 36 4 q.2) := by
    intro fu
    induction fu with
    | zero => intro l M1 _ _ _; exact p_none
    | succ fu ih =>
      intro l M1 l0 l4 h
      show pw (bX9_clearWorld_2 (mX9_clearWorld_2 fu) 126 l M1) _
      unfold bX9_clearWorld_2
      refine p_if (fun c => k2 FU 0 M1 (by decide) (by decide) ((Int.le_antisymm l4 c : l = 36) ▸ h)) (fun c => p_gFc (ji := 11) rfl ((h.2.2 126 11 (by omega) (by omega)).trans a11) (p_aSZ (fun M2 h2 => ?_)))
      rw [wI_id (x := l + 1) (by omega) (by omega)]
      refine ih _ M2 (by omega) (by omega) ⟨fun j j0 j1 => ?_, fun j j0 j1 => absurd j1 (by omega), fun b j x y => (st_ne h2 (by omega)).trans (h.2.2 b j x y)⟩
      by_cases e : j = l
      · rw [e]; exact st_eq h2
      · rw [st_ne h2 (by omega)]; exact h.1 j j0 (by omega)
  unfold mX9_clearWorld
  exact k1 FU 0 M (by decide) (by decide) ⟨fun j j0 j1 => absurd j1 (by omega), fun j j0 j1 => absurd j1 (by omega), fun _ _ _ _ => rfl⟩
def CZ (M M' : Mem) : Prop := (∀ k : Int, 0 ≤ k → k < 36 → mG M' 137 k = 0) ∧ (∀ p : Int, 0 ≤ p → p < 4 → mG M' 151 p = 0) ∧ ∀ b j : Int, (b = 137 ∧ ¬ (0 ≤ j ∧ j < 36)) ∨ (b = 151 ∧ ¬ (0 ≤ j ∧ j < 4)) → mG M' b j = mG M b j
theorem r2_size (iM : I n M) : pw (mX9_size 126 l1 l2 M) (fun q => q.1 = 0 ∨ CZ M q.2) := by
  unfold mX9_size
  refine p_pF (ji := 0) rfl (fun M1 h1 => p_same (p_mono pr_in (fun q z => z.1)) (fun r => p_if (fun _ => p_ret (Or.inl rfl)) (fun _ => ?_)))
  refine p_same (p_mono pr_in (fun q z => z.1)) (fun r => p_if (fun _ => p_ret (Or.inl rfl)) (fun _ => ?_))
  have f1 : ∀ j : Int, ¬ j = 0 → mG M1 126 j = mG M 126 j := fun j hj => st_ne h1 (fun z => hj z.2)
  have e7 : mG M1 126 7 = 133 := (f1 7 (by decide)).trans (rd_Model_7 iM (a := 126) rfl)
  refine p_gFc (ji := 7) rfl e7 (p_aG (fun v _ => p_if (fun _ => p_ret (Or.inl rfl)) (fun _ => p_gFc (ji := 7) rfl e7 (p_aS (fun M2 h2 => p_gK ?_)))))
  replace h2 : M2 = mS M1 133 l1 l2 := h2
  have f2 : ∀ j : Int, ¬ j = 0 → mG M2 126 j = mG M 126 j := fun j hj => (st_ne h2 (by omega)).trans (f1 j hj)
  refine p_call (r2_clearWorld ((f2 11 (by decide)).trans (rd_Model_11 iM (a := 126) rfl)) ((f2 25 (by decide)).trans (rd_Model_25 iM (a := 126) rfl))) (fun r m h => p_ret (Or.inr ⟨h.1, h.2.1, fun b j z => ?_⟩))
  exact (h.2.2 b j (by omega) (by omega)).trans ((st_ne h2 (by omega)).trans (st_ne h1 (by omega)))
theorem r2_relation (iM : I n M) : pw (mX9_relation 126 l1 l2 M) (fun q => q.1 = -1 ∨ CZ M q.2) := by
  unfold mX9_relation
  refine p_pF (ji := 0) rfl (fun M1 h1 => ?_)
  have f1 : ∀ j : Int, ¬ j = 0 → mG M1 126 j = mG M 126 j := fun j hj => st_ne h1 (fun z => hj z.2)
  have e8 : mG M1 126 8 = 134 := (f1 8 (by decide)).trans (rd_Model_8 iM (a := 126) rfl)
  refine p_gFc (ji := 8) rfl e8 (p_aG (fun v _ => p_if (fun _ => p_ret (Or.inl rfl)) (fun _ => ?_)))
  refine p_same (p_mono pr_in (fun q z => z.1)) (fun r => p_if (fun _ => p_ret (Or.inl rfl)) (fun _ => ?_))
  refine p_same (p_mono pr_in (fun q z => z.1)) (fun r => p_if (fun _ => p_ret (Or.inl rfl)) (fun _ => ?_))
  refine p_gFc (ji := 8) rfl e8 (p_aG (fun v2 _ => p_gFc (ji := 8) rfl e8 (p_aG (fun v3 _ => p_aS (fun M2 h2 => ?_)))))
  replace h2 : M2 = mS M1 134 0 (wI (v3 + 1)) := h2
  have f2 : ∀ j : Int, ¬ j = 0 → mG M2 126 j = mG M 126 j := fun j hj => (st_ne h2 (by omega)).trans (f1 j hj)
  refine p_gFc (ji := 9) rfl ((f2 9 (by decide)).trans (rd_Model_9 iM (a := 126) rfl)) (p_aS (fun M3 h3 => ?_))
  replace h3 : M3 = mS M2 135 v2 l1 := h3
  have f3 : ∀ j : Int, ¬ j = 0 → mG M3 126 j = mG M 126 j := fun j hj => (st_ne h3 (by omega)).trans (f2 j hj)
  refine p_gFc (ji := 10) rfl ((f3 10 (by decide)).trans (rd_Model_10 iM (a := 126) rfl)) (p_aS (fun M4 h4 => p_gK ?_))
  replace h4 : M4 = mS M3 136 v2 l2 := h4
  have f4 : ∀ j : Int, ¬ j = 0 → mG M4 126 j = mG M 126 j := fun j hj => (st_ne h4 (by omega)).trans (f3 j hj)
  refine p_call (r2_clearWorld ((f4 11 (by decide)).trans (rd_Model_11 iM (a := 126) rfl)) ((f4 25 (by decide)).trans (rd_Model_25 iM (a := 126) rfl))) (fun r m h => p_ret (Or.inr ⟨h.1, h.2.1, fun b j z => ?_⟩))
  exact (h.2.2 b j (by omega) (by omega)).trans ((st_ne h4 (by omega)).trans ((st_ne h3 (by omega)).trans ((st_ne h2 (by omega)).trans (st_ne h1 (by omega)))))
theorem p2_keep (iM : I n M) : pw (mX8_keep 1 l M) (fun q => (q.1 = 0 ∧ ¬ (0 ≤ l ∧ l ≤ 3) ∧ q.2 = M) ∨ (q.1 = 1 ∧ (0 ≤ l ∧ l ≤ 3) ∧ mG q.2 11 l = mG M 3 1 ∧ mG q.2 12 l = 1 ∧ ∀ b j : Int, ¬ (b = 11 ∧ j = l) → ¬ (b = 12 ∧ j = l) → mG q.2 b j = mG M b j)) := by
  have i1 : mG M 1 1 = 3 := rd_VS_1 iM (a := 1) rfl
  unfold mX8_keep
  refine p_if (fun c => p_ret (Or.inl ⟨rfl, by omega, rfl⟩)) (fun c => p_if (fun c2 => ?_) (fun c2 => p_ret (Or.inl ⟨rfl, by omega, rfl⟩)))
  refine p_gFc (ji := 1) rfl i1 (p_gFc (ji := 2) rfl (rd_Told_2 iM (a := 3) rfl) (p_gFc (ji := 1) rfl i1 (p_gFc (ji := 1) rfl (rfl : mG M 3 1 = mG M 3 1) (p_aS (fun M1 h1 => ?_)))))
  replace h1 : M1 = mS M 11 l (mG M 3 1) := h1
  refine p_gFc (ji := 1) rfl ((st_ne h1 (by omega)).trans i1) (p_gFc (ji := 3) rfl ((st_ne h1 (by omega)).trans (rd_Told_3 iM (a := 3) rfl)) (p_aSZ (fun M2 h2 => ?_)))
  replace h2 : M2 = mS M1 12 l 1 := h2
  exact p_ret (Or.inr ⟨rfl, by omega, (st_ne h2 (by omega)).trans (st_eq h1), st_eq h2, fun b j x y => (st_ne h2 y).trans (st_ne h1 x)⟩)
theorem r2_keep (iM : I n M) : pw (mX9_keep 126 l M) (fun q => (q.1 = 0 ∧ ¬ (0 ≤ l ∧ l ≤ 3) ∧ ∀ b j : Int, ¬ b = 126 → mG q.2 b j = mG M b j) ∨ (q.1 = 1 ∧ (0 ≤ l ∧ l ≤ 3) ∧ mG q.2 151 l = 1 ∧ (∀ k : Int, 0 ≤ k → k < 36 → mG q.2 150 (36 * l + k) = mG M 137 k) ∧ ∀ b j : Int, ¬ b = 126 → ¬ (b = 151 ∧ j = l) → ¬ (b = 150 ∧ 36 * l ≤ j ∧ j < 36 * l + 36) → mG q.2 b j = mG M b j)) := by
  unfold mX9_keep
  refine p_pF (ji := 0) rfl (fun M1 h1 => ?_)
  have g1 : ∀ b j : Int, ¬ b = 126 → mG M1 b j = mG M b j := fun b j hb => st_ne h1 (fun z => hb z.1)
  have f1 : ∀ j : Int, ¬ j = 0 → mG M1 126 j = mG M 126 j := fun j hj => st_ne h1 (fun z => hj z.2)
  refine p_call pr_in (fun r m h => ?_)
  obtain ⟨e, h⟩ := h
  replace e : m = M1 := e
  subst e
  rcases h with ⟨hr, h⟩ | ⟨hr, h⟩
  · replace hr : r = 1 := hr
    subst hr
    refine p_it0 (show ¬ (1 : Int) = 0 by decide) (p_gFc (ji := 25) rfl ((f1 25 (by decide)).trans (rd_Model_25 iM (a := 126) rfl)) (p_aSZ (fun M2 h2 => ?_)))
    replace h2 : M2 = mS m 151 l 1 := h2
    have key : ∀ (fu : Nat) (k : Int) (M3 : Mem), 0 ≤ k → k ≤ 36 → (∀ b j : Int, ¬ (b = 150 ∧ 36 * l ≤ j ∧ j < 36 * l + 36) → mG M3 b j = mG M2 b j) → (∀ j : Int, 0 ≤ j → j < k → mG M3 150 (36 * l + j) = mG M 137 j) → pw (mX9_keep_25 fu 126 l k M3) (fun q => q.1 = 1 ∧ (∀ j : Int, 0 ≤ j → j < 36 → mG q.2 150 (36 * l + j) = mG M 137 j) ∧ ∀ b j : Int, ¬ (b = 150 ∧ 36 * l ≤ j ∧ j < 36 * l + 36) → mG q.2 b j = mG M2 b j) := by
      intro fu
      induction fu with
      | zero => intro k M3 _ _ _ _; exact p_none
      | succ fu ih =>
        intro k M3 k0 k1 g hk
        show pw (bX9_keep_25 (mX9_keep_25 fu) 126 l k M3) _
        unfold bX9_keep_25
        refine p_if (fun c => p_ret ⟨rfl, fun j j0 j1 => hk j j0 (by omega), g⟩) (fun c => ?_)
        have f3 : ∀ j : Int, ¬ j = 0 → mG M3 126 j = mG M 126 j := fun j hj => (g 126 j (by omega)).trans ((st_ne h2 (by omega)).trans (f1 j hj))
        have e137 : mG M3 137 k = mG M 137 k := (g 137 k (by omega)).trans ((st_ne h2 (by omega)).trans (g1 137 k (by decide)))
        refine p_gFc (ji := 24) rfl ((f3 24 (by decide)).trans (rd_Model_24 iM (a := 126) rfl)) (p_gFc (ji := 11) rfl ((f3 11 (by decide)).trans (rd_Model_11 iM (a := 126) rfl)) (p_aGc e137 (p_aSZ (fun M4 h4 => ?_))))
        rw [wI_id (x := 36 * l) (by omega) (by omega), wI_id (x := 36 * l + k) (by omega) (by omega)] at h4
        rw [wI_id (x := k + 1) (by omega) (by omega)]
        refine ih _ M4 (by omega) (by omega) (fun b j x => (st_ne h4 (by omega)).trans (g b j x)) (fun j j0 j1 => ?_)
        by_cases e : j = k
        · rw [e]; exact st_eq h4
        · rw [st_ne h4 (by omega)]; exact hk j j0 (by omega)
    refine p_mono (key FU 0 M2 (by decide) (by decide) (fun _ _ _ => rfl) (fun j j0 j1 => absurd j1 (by omega))) (fun q z => Or.inr ⟨z.1, by omega, ?_, z.2.1, fun b j x y w => ?_⟩)
    · exact (z.2.2 151 l (by omega)).trans (st_eq h2)
    · rw [z.2.2 b j w, st_ne h2 y]; exact g1 b j x
  · replace hr : r = 0 := hr
    subst hr
    exact p_it1 rfl (p_ret (Or.inl ⟨rfl, by omega, g1⟩))
theorem p2_strike (iM : I n M) : pw (mX8_strike 1 l M) (fun q => (q.1 = 0 ∧ ¬ ((0 ≤ l ∧ l < mG M 3 11) ∧ mG M 16 l = -1) ∧ q.2 = M) ∨ (q.1 = 1 ∧ ((0 ≤ l ∧ l < mG M 3 11) ∧ mG M 16 l = -1) ∧ q.2 = mS M 16 l (mG M 3 13))) := by
  have i1 : mG M 1 1 = 3 := rd_VS_1 iM (a := 1) rfl
  have h10 : mG M 3 10 = 16 := rd_Told_10 iM (a := 3) rfl
  unfold mX8_strike mX6_hasStory
  refine p_gFc (ji := 1) rfl i1 (p_gK ?_)
  refine p_call (P := fun q => q.2 = M ∧ ((q.1 = 1 ∧ 0 ≤ l ∧ l < mG M 3 11) ∨ (q.1 = 0 ∧ ¬ (0 ≤ l ∧ l < mG M 3 11)))) ?_ (fun r m h => ?_)
  · refine p_if (fun c => p_ret ⟨rfl, Or.inr ⟨rfl, by omega⟩⟩) (fun c => p_gF (ji := 11) rfl (fun v hv => p_if (fun c2 => p_ret ⟨rfl, Or.inr ⟨rfl, by omega⟩⟩) (fun c2 => p_ret ⟨rfl, Or.inl ⟨rfl, by omega, by omega⟩⟩)))
  · obtain ⟨e, h⟩ := h
    replace e : m = M := e
    subst e
    rcases h with ⟨hr, h⟩ | ⟨hr, h⟩
    · replace hr : r = 1 := hr
      subst hr
      refine p_it0 (show ¬ (1 : Int) = 0 by decide) (p_gFc (ji := 1) rfl i1 (p_gFc (ji := 10) rfl h10 (p_aG (fun v hv => p_if (fun c => ?_) (fun c => ?_)))))
      · exact p_gFc (ji := 1) rfl i1 (p_gFc (ji := 10) rfl h10 (p_gFc (ji := 1) rfl i1 (p_gFc (ji := 13) rfl rfl (p_aS (fun M1 h1 => p_ret (Or.inr ⟨rfl, ⟨h, hv.trans c⟩, h1⟩))))))
      · exact p_ret (Or.inl ⟨rfl, fun z => c (hv.symm.trans z.2), rfl⟩)
    · replace hr : r = 0 := hr
      subst hr
      exact p_it1 rfl (p_ret (Or.inl ⟨rfl, fun z => h z.1, rfl⟩))
theorem r2_strike (iM : I n M) : pw (mX9_strike 126 l M) (fun q => (q.1 = 0 ∧ ¬ ((0 ≤ l ∧ l < mG M 138 0) ∧ mG M 140 l = -1) ∧ ∀ b j : Int, ¬ b = 126 → mG q.2 b j = mG M b j) ∨ (q.1 = 1 ∧ ((0 ≤ l ∧ l < mG M 138 0) ∧ mG M 140 l = -1) ∧ mG q.2 140 l = mG M 131 0 ∧ ∀ b j : Int, ¬ b = 126 → ¬ (b = 140 ∧ j = l) → mG q.2 b j = mG M b j)) := by
  have r0 := rd_Mstories iM (a := 138) (i := 0) rfl
  unfold mX9_strike
  refine p_pF (ji := 0) rfl (fun M1 h1 => ?_)
  have g1 : ∀ b j : Int, ¬ b = 126 → mG M1 b j = mG M b j := fun b j hb => st_ne h1 (fun z => hb z.1)
  have f1 : ∀ j : Int, ¬ j = 0 → mG M1 126 j = mG M 126 j := fun j hj => st_ne h1 (fun z => hj z.2)
  have e14 : mG M1 126 14 = 140 := (f1 14 (by decide)).trans (rd_Model_14 iM (a := 126) rfl)
  refine p_gFc (ji := 12) rfl ((f1 12 (by decide)).trans (rd_Model_12 iM (a := 126) rfl)) (p_aGc (g1 138 0 (by decide)) ?_)
  rw [wI_id (x := mG M 138 0 - 1) (by omega) (by omega)]
  refine p_call pr_in (fun r m h => ?_)
  obtain ⟨e, h⟩ := h
  replace e : m = M1 := e
  subst e
  rcases h with ⟨hr, h⟩ | ⟨hr, h⟩
  · replace hr : r = 1 := hr
    subst hr
    refine p_it0 (show ¬ (1 : Int) = 0 by decide) (p_gFc (ji := 14) rfl e14 (p_aGc (g1 140 l (by decide)) (p_if (fun c => ?_) (fun c => ?_))))
    · refine p_gFc (ji := 14) rfl e14 (p_gFc (ji := 5) rfl ((f1 5 (by decide)).trans (rd_Model_5 iM (a := 126) rfl)) (p_aGc (g1 131 0 (by decide)) (p_aS (fun M2 h2 => p_ret (Or.inr ⟨rfl, ⟨by omega, c⟩, st_eq h2, fun b j x y => (st_ne h2 y).trans (g1 b j x)⟩)))))
    · exact p_ret (Or.inl ⟨rfl, fun z => c z.2, g1⟩)
  · replace hr : r = 0 := hr
    subst hr
    exact p_it1 rfl (p_ret (Or.inl ⟨rfl, fun z => h ⟨z.1.1, by omega⟩, g1⟩))
end
end
section
/-! ===== both sides alike: tapes, stories, guess, what is known, what is kept ===== -/
theorem rowOK.mono {nr nr' sc bo : Int} {k1 k2 k1' k2' : Int → Int} {r : Row} (h : rowOK nr k1 k2 sc bo r) (hn : nr ≤ nr') (e : ∀ r, 0 ≤ r → r < nr → k1' r = k1 r ∧ k2' r = k2 r) : rowOK nr' k1' k2' sc bo r := by
  unfold rowOK at h ⊢
  rcases h with h | h | h | ⟨a, b, c, d, f, g⟩ | ⟨a, b, c, d, f⟩ | ⟨a, b, c, d, f, g⟩ | ⟨a, b, c, d, f, g⟩
  · exact Or.inl h
  · exact Or.inr (Or.inl h)
  · exact Or.inr (Or.inr (Or.inl h))
  · obtain ⟨e1, e2⟩ := e _ d.1 d.2
    exact Or.inr (Or.inr (Or.inr (Or.inl ⟨a, b, c, ⟨d.1, by omega⟩, by rw [e1, e2]; exact f, g⟩)))
  · obtain ⟨e1, e2⟩ := e _ d.1 d.2
    exact Or.inr (Or.inr (Or.inr (Or.inr (Or.inl ⟨a, b, c, ⟨d.1, by omega⟩, by rw [e1, e2]; exact f⟩))))
  · obtain ⟨e1, e2⟩ := e _ d.1 d.2
    exact Or.inr (Or.inr (Or.inr (Or.inr (Or.inr (Or.inl ⟨a, b, c, ⟨d.1, by omega⟩, by rw [e2]; exact f, g⟩)))))
  · obtain ⟨e1, e2⟩ := e _ d.1 d.2
    exact Or.inr (Or.inr (Or.inr (Or.inr (Or.inr (Or.inr ⟨a, b, c, ⟨d.1, by omega⟩, by rw [e2]; exact f, g⟩)))))
theorem ty.mono {nr nr' : Int} {k1 k2 k1' k2' : Int → Int} (hn : nr ≤ nr') (e : ∀ r, 0 ≤ r → r < nr → k1' r = k1 r ∧ k2' r = k2 r) : ∀ (ps : List Row) (ws : List (Int × Int)), ty nr k1 k2 ws ps → ty nr' k1' k2' ws ps := by
  intro ps
  induction ps with
  | nil =>
    intro ws h
    cases ws with
    | nil => exact rfl
    | cons x ws => exact h
  | cons p ps ih =>
    intro ws h
    cases ws with
    | nil => exact absurd h id
    | cons x ws => exact ⟨h.1.mono hn e, ih _ h.2⟩
/-- one text on both sides -/
def TXR (i t u : Int) (M : Mem) : Prop := ¬ t = 0 ∧ ∃ ps : List Row, TT ps t M ∧ RT ps u M ∧ ty (mG M 134 i) (fun r => mG M 135 (4 * i + r)) (fun r => mG M 136 (4 * i + r)) [(0, 255)] ps
theorem TXR.go {n : Nat} {i i' t u u' : Int} {M M' : Mem} (h : TXR i t u M) (ht : 169 < t ∧ t + 5 ≤ (n : Int)) (g : ∀ b j : Int, 169 < b → b ≤ (n : Int) → mG M' b j = mG M b j) (g1 : mG M' 141 u' = mG M 141 u) (g2 : ∀ c j : Int, 142 ≤ c → c ≤ 145 → 0 ≤ j → j < 40 → mG M' c (40 * u' + j) = mG M c (40 * u + j)) (g3 : mG M 134 i ≤ mG M' 134 i') (g4 : ∀ c r : Int, 135 ≤ c → c ≤ 136 → 0 ≤ r → r < mG M 134 i → mG M' c (4 * i' + r) = mG M c (4 * i + r)) : TXR i' t u' M' := by
  obtain ⟨h0, ps, h1, h2, h3⟩ := h
  exact ⟨h0, ps, h1.of (fun b j b0 b1 => g b j (by omega) (by omega)), h2.of h1.1.1 g1 g2, ty.mono g3 (fun r r0 r1 => ⟨g4 135 r (by decide) (by decide) r0 r1, g4 136 r (by decide) (by decide) r0 r1⟩) _ _ h3⟩
def Sa (i : Int) (M : Mem) : Prop := ∀ j : Int, 0 ≤ j → j < mG M 128 i → mG M (sOf i + 10) j = iand (mG M 127 (400 * i + j)) 255
def Sb (i : Int) (M : Mem) : Prop := mG M (sOf i) 11 = mG M 138 i ∧ ∀ s : Int, 0 ≤ s → s < mG M 138 i → mG M (sOf i + 12) s = mG M 139 (8 * i + s) ∧ mG M (sOf i + 13) s = mG M 140 (8 * i + s) ∧ TXR i (mG M (sOf i + 11) s) (9 * i + s) M
def Sc (i : Int) (M : Mem) : Prop := (mG M (sOf i) 12 = 0 ∧ mG M 141 (9 * i + 8) = 0) ∨ TXR i (mG M (sOf i) 12) (9 * i + 8) M
def Sd (i : Int) (M : Mem) : Prop := ∀ k : Int, 0 ≤ k → k < mG M 146 i → mG M (sOf i + 14) k = mG M 147 (40 * i + k) ∧ mG M (sOf i + 15) k = mG M 148 (40 * i + k) ∧ mG M (sOf i + 16) k = mG M 149 (40 * i + k)
def Se (i : Int) (M : Mem) : Prop := ∀ p : Int, 0 ≤ p → p < 4 → mG M (sOf i + 9) p = mG M 151 (4 * i + p)
def S2 (i : Int) (M : Mem) : Prop := Sa i M ∧ Sb i M ∧ Sc i M ∧ Sd i M ∧ Se i M
def Rel2 (M : Mem) : Prop := ∀ i : Int, 0 ≤ i → i < 4 → (i = 0 ∨ mG M 169 (i - 1) = 1) → S2 i M
def J2 (M : Mem) : Prop := J M ∧ Rel2 M
theorem isTold_s {i : Int} (h0 : 0 ≤ i) (h1 : i < 4) : isTold (sOf i) := by
  unfold isTold
  rcases sOf_c h0 h1 with ⟨e, e2⟩ | ⟨e, e2⟩
  · exact Or.inl e2
  · rw [e2]; omega
/-- where a text of a slot stands -/
theorem tx_at {n : Nat} {i s : Int} {M : Mem} (iM : I n M) (h0 : 0 ≤ i) (h1 : i < 4) (s0 : 0 ≤ s) (s1 : s < 8) (h : ¬ mG M (sOf i + 11) s = 0) : 169 < mG M (sOf i + 11) s ∧ mG M (sOf i + 11) s + 5 ≤ (n : Int) := by
  have := iM.2.2.1.1 (sOf i) s (isTold_s h0 h1) s0 s1
  rcases this with z | ⟨a, b, _⟩
  · exact absurd z h
  · exact ⟨a, b⟩
theorem tx_gu {n : Nat} {i : Int} {M : Mem} (iM : I n M) (h0 : 0 ≤ i) (h1 : i < 4) (h : ¬ mG M (sOf i) 12 = 0) : 169 < mG M (sOf i) 12 ∧ mG M (sOf i) 12 + 5 ≤ (n : Int) := by
  have := iM.2.2.1.2.1 (sOf i) (isTold_s h0 h1)
  rcases this with z | ⟨a, b, _⟩
  · exact absurd z h
  · exact ⟨a, b⟩
section
variable {n : Nat} {i i' : Int} {M M' : Mem}
theorem Sa.go (h : Sa i M) (iM : I n M) (hn : mG M' 128 i' = mG M 128 i) (g8 : ∀ j : Int, 0 ≤ j → j < 400 → mG M' (sOf i' + 10) j = mG M (sOf i + 10) j) (g9 : ∀ j : Int, 0 ≤ j → j < 400 → mG M' 127 (400 * i' + j) = mG M 127 (400 * i + j)) : Sa i' M' := fun j j0 j1 => by
  have r := rd_Msize iM (a := 128) (i := i) rfl
  rw [hn] at j1
  rw [g8 j j0 (by omega), g9 j j0 (by omega)]
  exact h j j0 j1
theorem Sb.go (h : Sb i M) (iM : I n M) (i0 : 0 ≤ i ∧ i < 4) (g : ∀ b j : Int, 169 < b → b ≤ (n : Int) → mG M' b j = mG M b j) (hn : mG M' 138 i' = mG M 138 i) (hc : mG M' (sOf i') 11 = mG M (sOf i) 11) (g8 : ∀ d j : Int, 11 ≤ d → d ≤ 13 → 0 ≤ j → j < 8 → mG M' (sOf i' + d) j = mG M (sOf i + d) j) (g9 : ∀ c j : Int, 139 ≤ c → c ≤ 140 → 0 ≤ j → j < 8 → mG M' c (8 * i' + j) = mG M c (8 * i + j)) (g41 : ∀ j : Int, 0 ≤ j → j < 8 → mG M' 141 (9 * i' + j) = mG M 141 (9 * i + j)) (g2 : ∀ c j : Int, 142 ≤ c → c ≤ 145 → 0 ≤ j → j < 320 → mG M' c (360 * i' + j) = mG M c (360 * i + j)) (g3 : mG M 134 i ≤ mG M' 134 i') (g4 : ∀ c r : Int, 135 ≤ c → c ≤ 136 → 0 ≤ r → r < mG M 134 i → mG M' c (4 * i' + r) = mG M c (4 * i + r)) : Sb i' M' := by
  have r := rd_Mstories iM (a := 138) (i := i) rfl
  refine ⟨by rw [hc, hn]; exact h.1, fun s s0 s1 => ?_⟩
  rw [hn] at s1
  obtain ⟨a, b, c⟩ := h.2 s s0 s1
  rw [g8 12 s (by decide) (by decide) s0 (by omega), g8 13 s (by decide) (by decide) s0 (by omega), g8 11 s (by decide) (by decide) s0 (by omega), g9 139 s (by decide) (by decide) s0 (by omega), g9 140 s (by decide) (by decide) s0 (by omega)]
  refine ⟨a, b, c.go (n := n) (tx_at iM i0.1 i0.2 s0 (by omega) c.1) g (g41 s s0 (by omega)) (fun c' j c0 c1 j0 j1 => ?_) g3 g4⟩
  have := g2 c' (40 * s + j) c0 c1 (by omega) (by omega)
  rw [show 40 * (9 * i' + s) + j = 360 * i' + (40 * s + j) by omega, show 40 * (9 * i + s) + j = 360 * i + (40 * s + j) by omega]
  exact this
theorem Sc.go (h : Sc i M) (iM : I n M) (i0 : 0 ≤ i ∧ i < 4) (g : ∀ b j : Int, 169 < b → b ≤ (n : Int) → mG M' b j = mG M b j) (hc : mG M' (sOf i') 12 = mG M (sOf i) 12) (g41 : mG M' 141 (9 * i' + 8) = mG M 141 (9 * i + 8)) (g2 : ∀ c j : Int, 142 ≤ c → c ≤ 145 → 320 ≤ j → j < 360 → mG M' c (360 * i' + j) = mG M c (360 * i + j)) (g3 : mG M 134 i ≤ mG M' 134 i') (g4 : ∀ c r : Int, 135 ≤ c → c ≤ 136 → 0 ≤ r → r < mG M 134 i → mG M' c (4 * i' + r) = mG M c (4 * i + r)) : Sc i' M' := by
  unfold Sc
  rw [hc]
  rcases h with h | h
  · exact Or.inl ⟨h.1, g41.trans h.2⟩
  · refine Or.inr (h.go (n := n) (tx_gu iM i0.1 i0.2 h.1) g g41 (fun c' j c0 c1 j0 j1 => ?_) g3 g4)
    have := g2 c' (320 + j) c0 c1 (by omega) (by omega)
    rw [show 40 * (9 * i' + 8) + j = 360 * i' + (320 + j) by omega, show 40 * (9 * i + 8) + j = 360 * i + (320 + j) by omega]
    exact this
theorem Sd.go (h : Sd i M) (iM : I n M) (hn : mG M' 146 i' = mG M 146 i) (g8 : ∀ d j : Int, 14 ≤ d → d ≤ 16 → 0 ≤ j → j < 40 → mG M' (sOf i' + d) j = mG M (sOf i + d) j) (g9 : ∀ c j : Int, 147 ≤ c → c ≤ 149 → 0 ≤ j → j < 40 → mG M' c (40 * i' + j) = mG M c (40 * i + j)) : Sd i' M' := fun k k0 k1 => by
  have r := rd_Mknowns iM (a := 146) (i := i) rfl
  rw [hn] at k1
  rw [g8 14 k (by decide) (by decide) k0 (by omega), g8 15 k (by decide) (by decide) k0 (by omega), g8 16 k (by decide) (by decide) k0 (by omega), g9 147 k (by decide) (by decide) k0 (by omega), g9 148 k (by decide) (by decide) k0 (by omega), g9 149 k (by decide) (by decide) k0 (by omega)]
  exact h k k0 k1
theorem Se.go (h : Se i M) (g8 : ∀ j : Int, 0 ≤ j → j < 4 → mG M' (sOf i' + 9) j = mG M (sOf i + 9) j) (g9 : ∀ j : Int, 0 ≤ j → j < 4 → mG M' 151 (4 * i' + j) = mG M 151 (4 * i + j)) : Se i' M' := fun p p0 p1 => by
  rw [g8 p p0 p1, g9 p p0 p1]; exact h p p0 p1
end
/-- the cells of a slot that S2 sees -/
def V2 (n : Nat) (i b j : Int) : Prop := (b = sOf i ∧ (j = 11 ∨ j = 12)) ∨ (sOf i + 9 ≤ b ∧ b ≤ sOf i + 16) ∨ (169 < b ∧ b ≤ (n : Int)) ∨ (b = 127 ∧ 400 * i ≤ j ∧ j < 400 * i + 400) ∨ ((b = 128 ∨ b = 134 ∨ b = 138 ∨ b = 146) ∧ j = i) ∨ ((b = 135 ∨ b = 136 ∨ b = 151) ∧ 4 * i ≤ j ∧ j < 4 * i + 4) ∨ ((b = 139 ∨ b = 140) ∧ 8 * i ≤ j ∧ j < 8 * i + 8) ∨ (b = 141 ∧ 9 * i ≤ j ∧ j < 9 * i + 9) ∨ ((142 ≤ b ∧ b ≤ 145) ∧ 360 * i ≤ j ∧ j < 360 * i + 360) ∨ ((147 ≤ b ∧ b ≤ 149) ∧ 40 * i ≤ j ∧ j < 40 * i + 40)
section
variable {n : Nat} {i : Int} {M M' : Mem}
theorem v_c {b j : Int} (h : sOf i + 9 ≤ b ∧ b ≤ sOf i + 16) : V2 n i b j := Or.inr (Or.inl h)
theorem v_f {j : Int} (h : j = 11 ∨ j = 12) : V2 n i (sOf i) j := Or.inl ⟨rfl, h⟩
theorem v_t {b j : Int} (h : 169 < b) (h2 : b ≤ (n : Int)) : V2 n i b j := Or.inr (Or.inr (Or.inl ⟨h, h2⟩))
theorem v_127 {j : Int} (h : 400 * i ≤ j ∧ j < 400 * i + 400) : V2 n i 127 j := Or.inr (Or.inr (Or.inr (Or.inl ⟨rfl, h⟩)))
theorem v_1 {b : Int} (h : b = 128 ∨ b = 134 ∨ b = 138 ∨ b = 146) : V2 n i b i := Or.inr (Or.inr (Or.inr (Or.inr (Or.inl ⟨h, rfl⟩))))
theorem v_4 {b j : Int} (h : b = 135 ∨ b = 136 ∨ b = 151) (h2 : 4 * i ≤ j ∧ j < 4 * i + 4) : V2 n i b j := Or.inr (Or.inr (Or.inr (Or.inr (Or.inr (Or.inl ⟨h, h2⟩)))))
theorem v_8 {b j : Int} (h : b = 139 ∨ b = 140) (h2 : 8 * i ≤ j ∧ j < 8 * i + 8) : V2 n i b j := Or.inr (Or.inr (Or.inr (Or.inr (Or.inr (Or.inr (Or.inl ⟨h, h2⟩))))))
theorem v_9 {j : Int} (h2 : 9 * i ≤ j ∧ j < 9 * i + 9) : V2 n i 141 j := Or.inr (Or.inr (Or.inr (Or.inr (Or.inr (Or.inr (Or.inr (Or.inl ⟨rfl, h2⟩)))))))
theorem v_360 {b j : Int} (h : 142 ≤ b ∧ b ≤ 145) (h2 : 360 * i ≤ j ∧ j < 360 * i + 360) : V2 n i b j := Or.inr (Or.inr (Or.inr (Or.inr (Or.inr (Or.inr (Or.inr (Or.inr (Or.inl ⟨h, h2⟩))))))))
theorem v_40 {b j : Int} (h : 147 ≤ b ∧ b ≤ 149) (h2 : 40 * i ≤ j ∧ j < 40 * i + 40) : V2 n i b j := Or.inr (Or.inr (Or.inr (Or.inr (Or.inr (Or.inr (Or.inr (Or.inr (Or.inr ⟨h, h2⟩))))))))
theorem S2.fr (h : S2 i M) (iM : I n M) (i0 : 0 ≤ i ∧ i < 4) (g : ∀ b j : Int, V2 n i b j → mG M' b j = mG M b j) : S2 i M' := by
  have hr := rd_Mrelations iM (a := 134) (i := i) rfl
  have gt : ∀ b j : Int, 169 < b → b ≤ (n : Int) → mG M' b j = mG M b j := fun b j b0 b1 => g b j (v_t b0 b1)
  have e134 : mG M' 134 i = mG M 134 i := g _ _ (v_1 (by decide))
  have g4 : ∀ c r : Int, 135 ≤ c → c ≤ 136 → 0 ≤ r → r < mG M 134 i → mG M' c (4 * i + r) = mG M c (4 * i + r) := fun c r c0 c1 r0 r1 => g _ _ (v_4 (by omega) (by omega))
  refine ⟨h.1.go iM (g _ _ (v_1 (by decide))) (fun j j0 j1 => g _ _ (v_c (by omega))) (fun j j0 j1 => g _ _ (v_127 (by omega))), h.2.1.go iM i0 gt (g _ _ (v_1 (by decide))) (g _ _ (v_f (by decide))) (fun d j d0 d1 j0 j1 => g _ _ (v_c (by omega))) (fun c j c0 c1 j0 j1 => g _ _ (v_8 (by omega) (by omega))) (fun j j0 j1 => g _ _ (v_9 (by omega))) (fun c j c0 c1 j0 j1 => g _ _ (v_360 ⟨c0, c1⟩ (by omega))) (Int.le_of_eq e134.symm) g4, h.2.2.1.go iM i0 gt (g _ _ (v_f (by decide))) (g _ _ (v_9 (by omega))) (fun c j c0 c1 j0 j1 => g _ _ (v_360 ⟨c0, c1⟩ (by omega))) (Int.le_of_eq e134.symm) g4, h.2.2.2.1.go iM (g _ _ (v_1 (by decide))) (fun d j d0 d1 j0 j1 => g _ _ (v_c (by omega))) (fun c j c0 c1 j0 j1 => g _ _ (v_40 ⟨c0, c1⟩ (by omega))), h.2.2.2.2.go (fun j j0 j1 => g _ _ (v_c (by omega))) (fun j j0 j1 => g _ _ (v_4 (by decide) (by omega)))⟩
/-- all cells that Rel2 sees -/
def RC2 (n : Nat) (b j : Int) : Prop := (b = 3 ∧ (j = 11 ∨ j = 12)) ∨ (12 ≤ b ∧ b ≤ 19) ∨ (74 ≤ b ∧ b ≤ 125) ∨ (127 ≤ b ∧ b ≤ 128) ∨ (134 ≤ b ∧ b ≤ 136) ∨ (138 ≤ b ∧ b ≤ 149) ∨ b = 151 ∨ b = 169 ∨ (169 < b ∧ b ≤ (n : Int))
theorem V2.rc {b j : Int} (i0 : 0 ≤ i ∧ i < 4) (h : V2 n i b j) : RC2 n b j := by
  unfold V2 at h
  unfold RC2
  rcases h with h | h | h | h | h | h | h | h | h | h
  · rcases sOf_c i0.1 i0.2 with ⟨e, e2⟩ | ⟨e, e2⟩
    · rw [e2] at h; exact Or.inl h
    · rw [e2] at h; exact Or.inr (Or.inr (Or.inl (by omega)))
  · rcases sOf_c i0.1 i0.2 with ⟨e, e2⟩ | ⟨e, e2⟩
    · rw [e2] at h; exact Or.inr (Or.inl (by omega))
    · rw [e2] at h; exact Or.inr (Or.inr (Or.inl (by omega)))
  · exact Or.inr (Or.inr (Or.inr (Or.inr (Or.inr (Or.inr (Or.inr (Or.inr h)))))))
  · exact Or.inr (Or.inr (Or.inr (Or.inl (by omega))))
  · obtain ⟨h, _⟩ := h
    rcases h with h | h | h | h
    · exact Or.inr (Or.inr (Or.inr (Or.inl (by omega))))
    · exact Or.inr (Or.inr (Or.inr (Or.inr (Or.inl (by omega)))))
    · exact Or.inr (Or.inr (Or.inr (Or.inr (Or.inr (Or.inl (by omega))))))
    · exact Or.inr (Or.inr (Or.inr (Or.inr (Or.inr (Or.inl (by omega))))))
  · obtain ⟨h, _⟩ := h
    rcases h with h | h | h
    · exact Or.inr (Or.inr (Or.inr (Or.inr (Or.inl (by omega)))))
    · exact Or.inr (Or.inr (Or.inr (Or.inr (Or.inl (by omega)))))
    · exact Or.inr (Or.inr (Or.inr (Or.inr (Or.inr (Or.inr (Or.inl h))))))
  · exact Or.inr (Or.inr (Or.inr (Or.inr (Or.inr (Or.inl (by omega))))))
  · exact Or.inr (Or.inr (Or.inr (Or.inr (Or.inr (Or.inl (by omega))))))
  · exact Or.inr (Or.inr (Or.inr (Or.inr (Or.inr (Or.inl (by omega))))))
  · exact Or.inr (Or.inr (Or.inr (Or.inr (Or.inr (Or.inl (by omega))))))
theorem rc_169 {j : Int} : RC2 n 169 j := Or.inr (Or.inr (Or.inr (Or.inr (Or.inr (Or.inr (Or.inr (Or.inl rfl)))))))
theorem Rel2.fr (h : Rel2 M) (iM : I n M) (g : ∀ b j : Int, RC2 n b j → mG M' b j = mG M b j) : Rel2 M' := fun i i0 i1 hi => by
  rw [g 169 _ rc_169] at hi
  exact (h i i0 i1 hi).fr iM ⟨i0, i1⟩ (fun b j z => g b j (z.rc ⟨i0, i1⟩))
/-- slot 0 is told anew, the images are as they were -/
theorem Rel2.r0 (h : Rel2 M) (iM : I n M) (h0 : S2 0 M') (g : ∀ b j : Int, (74 ≤ b ∧ b ≤ 125) ∨ b = 169 ∨ (169 < b ∧ b ≤ (n : Int)) → mG M' b j = mG M b j) (g9 : ∀ i b j : Int, 1 ≤ i → i < 4 → 126 < b → b ≤ 151 → V2 n i b j → mG M' b j = mG M b j) : Rel2 M' := fun i i0 i1 hi => by
  rw [g 169 _ (Or.inr (Or.inl rfl))] at hi
  by_cases e : i = 0
  · rw [e]; exact h0
  refine (h i i0 i1 hi).fr iM ⟨i0, i1⟩ (fun b j z => ?_)
  rcases sOf_c i0 i1 with ⟨e1, _⟩ | ⟨e1, e2⟩
  · exact absurd e1 e
  by_cases hb : 126 < b ∧ b ≤ 151
  · exact g9 i b j e1 i1 hb.1 hb.2 z
  · refine g b j ?_
    unfold V2 at z
    rw [e2] at z
    rcases z with z | z | z | z | z | z | z | z | z | z
    · exact Or.inl (by omega)
    · exact Or.inl (by omega)
    · exact Or.inr (Or.inr z)
    · exfalso; omega
    · obtain ⟨z, _⟩ := z; exfalso; omega
    · obtain ⟨z, _⟩ := z; exfalso; omega
    · obtain ⟨z, _⟩ := z; exfalso; omega
    · exfalso; omega
    · exfalso; omega
    · exfalso; omega
/-- cells of images' slots lie behind -/
theorem v_far {b j : Int} (i1 : 1 ≤ i) (i4 : i < 4) (hb : 126 < b) (hb2 : b ≤ 151) (h : V2 n i b j) : (b = 127 → 400 ≤ j) ∧ (b = 128 ∨ b = 134 ∨ b = 138 ∨ b = 146 → 1 ≤ j) ∧ (b = 135 ∨ b = 136 ∨ b = 151 → 4 ≤ j) ∧ (b = 139 ∨ b = 140 → 8 ≤ j) ∧ (b = 141 → 9 ≤ j) ∧ (142 ≤ b ∧ b ≤ 145 → 360 ≤ j) ∧ (147 ≤ b ∧ b ≤ 149 → 40 ≤ j) ∧ (127 ≤ b ∧ b ≤ 128 ∨ 134 ≤ b ∧ b ≤ 136 ∨ 138 ≤ b ∧ b ≤ 149 ∨ b = 151) := by
  unfold V2 at h
  rcases sOf_c (i := i) (by omega) i4 with ⟨e1, _⟩ | ⟨_, e2⟩
  · omega
  rw [e2] at h
  rcases h with h | h | h | h | h | h | h | h | h | h
  · exfalso; omega
  · exfalso; omega
  · exfalso; omega
  · omega
  · obtain ⟨h, h2⟩ := h; omega
  · obtain ⟨h, h2⟩ := h; omega
  · obtain ⟨h, h2⟩ := h; omega
  · omega
  · omega
  · omega
end
def SAFE8b (b j : Int) : Prop := b ≤ 2 ∨ (b = 3 ∧ (j = 1 ∨ j = 6 ∨ j = 7 ∨ j = 13 ∨ j = 14)) ∨ (4 ≤ b ∧ b ≤ 11) ∨ (20 ≤ b ∧ b ≤ 73)
def SAFE9b (b j : Int) : Prop := b = 126 ∨ (129 ≤ b ∧ b ≤ 133) ∨ b = 137 ∨ b = 150 ∨ (152 ≤ b ∧ b ≤ 168)
theorem safe8b_rc {n : Nat} {b j : Int} (h : SAFE8b b j) : ¬ RC2 n b j := by
  unfold SAFE8b at h
  intro z
  unfold RC2 at z
  rcases h with h | ⟨h, h2⟩ | h | h
  · omega
  · rcases z with ⟨_, z⟩ | z
    · omega
    · omega
  · omega
  · omega
theorem safe9b_rc {n : Nat} {b j : Int} (h : SAFE9b b j) : ¬ RC2 n b j := by
  unfold SAFE9b at h
  intro z
  unfold RC2 at z
  omega
theorem w_and3 {M : Mem} {x : Option (Int × Mem)} {y : Mem → Option (Int × Mem)} {A B : Int × Mem → Int × Mem → Prop} (h : wp x (fun q1 => wp (y q1.2) (A q1))) (k : pw x (fun q1 => pw (y q1.2) (B q1))) : wp x (fun q1 => wp (y q1.2) (fun q2 => A q1 q2 ∧ B q1 q2)) := by
  obtain ⟨q1, e1, q2, e2, a⟩ := h
  exact ⟨q1, e1, q2, e2, a, k q1 e1 q2 e2⟩
theorem rc2_n {n : Nat} {b j : Int} (h : RC2 n b j) (hn : 169 ≤ n) : b ≤ (n : Int) := by unfold RC2 at h; omega
/-- a call that changes nothing that Rel2 sees, on either side -/
theorem J2.un {M : Mem} {x : Option (Int × Mem)} {y : Mem → Option (Int × Mem)} {W8 W9 : Int → Int → Prop} {P8 P9 : Int × Mem → Prop} {A : Int × Mem → Int × Mem → Prop} (h : J2 M) (hj : wp x (fun q1 => wp (y q1.2) (A q1))) (hx : I (mN M) M → wp x (fun q => I (mN M) q.2 ∧ Keep (mN M) W8 M q.2 ∧ P8 q)) (d8 : ∀ b j, W8 b j → SAFE8b b j) (hy : ∀ M1, WF M1 → I (mN M) M1 → wp (y M1) (fun q => I (mN M) q.2 ∧ Keep (mN M) W9 M1 q.2 ∧ P9 q)) (d9 : ∀ b j, W9 b j → SAFE9b b j) : wp x (fun q1 => wp (y q1.2) (fun q2 => A q1 q2 ∧ Rel2 q2.2)) := by
  obtain ⟨⟨iM, wf, _⟩, rel⟩ := h
  refine w_and3 (M := M) hj (p_mono (p_wp (hx iM)) ?_)
  rintro q1 ⟨i1, k1, -⟩
  have hn := iM.2.2.2.2.1
  have w1 := wf.kp iM k1 (fun b j z => by
    have := d8 b j z
    unfold SAFE8b at this
    omega)
  refine p_mono (p_wp (hy _ w1 i1)) ?_
  rintro q2 ⟨i2, k2, -⟩
  exact (rel.fr iM (fun b j z => k1.2.2 b j (rc2_n z hn) (fun y => safe8b_rc (d8 b j y) z))).fr i1 (fun b j z => k2.2.2 b j (rc2_n z hn) (fun y => safe9b_rc (d9 b j y) z))
end
