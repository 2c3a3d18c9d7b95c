/-! ===== what OtherNumbers holds is kept ===== -/
section
variable {M : Mem} {n : Nat}
theorem o_size {a b : Int} (r1 : (-2147483648) ≤ a ∧ a ≤ 2147483647) (r2 : (-2147483648) ≤ b ∧ b ≤ 2147483647) (iM : I n M) : pw (mX8_size 1 a b M) (fun q => q.1 = 0 ∨ (mG q.2 24 6 = 0 ∧ mG q.2 24 7 = 0)) := by
  unfold mX8_size
  refine p_gFc (ji := 1) rfl (rd_VS_1 iM (a := 1) rfl) (p_gFc (ji := 0) rfl (K2.of iM).c3_0 (p_gK (p_call (p_wp (s_X3_resize (l0 := 4) (Or.inl rfl) r1 r2 iM)) (fun v m y => p_if (fun _ => p_ret (Or.inl rfl)) (fun _ => ?_)))))
  have i1 := y.1
  refine p_gFc (ji := 1) rfl (rd_VS_1 i1 (a := 1) rfl) (p_gK (p_call (p_wp (s_X6_clearWorlds i1)) (fun v m2 y => ?_)))
  have k2 := (K2.of y.1).c2_2
  exact p_gFc (ji := 0) rfl (rd_VS_0 y.1 (a := 1) rfl) (p_gK (p_call q_forgetO (fun v m3 y => p_ret (Or.inr (y k2)))))
theorem o_relation {a b : Int} (r1 : (-2147483648) ≤ a ∧ a ≤ 2147483647) (r2 : (-2147483648) ≤ b ∧ b ≤ 2147483647) (iM : I n M) : pw (mX8_relation 1 a b M) (fun q => q.1 = -1 ∨ (mG q.2 24 6 = 0 ∧ mG q.2 24 7 = 0)) := by
  unfold mX8_relation
  refine p_gFc (ji := 1) rfl (rd_VS_1 iM (a := 1) rfl) (p_gFc (ji := 0) rfl (K2.of iM).c3_0 (p_gK (p_call (p_wp (s_X3_addRelation (l0 := 4) (Or.inl rfl) r1 r2 iM)) (fun v m y => ?_))))
  have i1 := y.1
  unfold mX8_relation_32
  refine p_if (fun c => p_ret (Or.inl c)) (fun _ => ?_)
  refine p_gFc (ji := 1) rfl (rd_VS_1 i1 (a := 1) rfl) (p_gK (p_call (p_wp (s_X6_clearWorlds i1)) (fun v2 m2 y => ?_)))
  have k2 := (K2.of y.1).c2_2
  exact p_gFc (ji := 0) rfl (rd_VS_0 y.1 (a := 1) rfl) (p_gK (p_call q_forgetO (fun v m3 y => p_ret (Or.inr (y k2)))))
theorem o_again {a : Int} (iM : I n M) : pw (mX8_again 1 a M) (fun q => q.1 = 0 ∨ (mG q.2 24 6 = 0 ∧ mG q.2 24 7 = 0)) := by
  unfold mX8_again
  refine p_if (fun _ => p_ret (Or.inl rfl)) (fun c1 => p_if (fun _ => p_ret (Or.inl rfl)) (fun c2 => p_gF (ji := 4) rfl (fun _ _ => p_aG (fun _ _ => p_if (fun _ => p_ret (Or.inl rfl)) (fun _ => ?_)))))
  refine p_gFc (ji := 1) rfl (rd_VS_1 iM (a := 1) rfl) (p_gFc (ji := 3) rfl (rd_VS_3 iM (a := 1) rfl) (p_aGc (rd_Vimages iM (a := 73) (i := a) rfl (by omega) (by omega)) (p_gK (p_call (p_wp (s_X6_copy (l0 := 3) (l1 := 75 + 17 * a) (Or.inl rfl) (by unfold isTold; omega) iM)) (fun v m y => ?_)))))
  have k2 := (K2.of y.1).c2_2
  exact p_gFc (ji := 0) rfl (rd_VS_0 y.1 (a := 1) rfl) (p_gK (p_call q_forgetO (fun v m3 y => p_ret (Or.inr (y k2)))))
theorem cb_size {a b : Int} (r1 : (-2147483648) ≤ a ∧ a ≤ 2147483647) (r2 : (-2147483648) ≤ b ∧ b ≤ 2147483647) (h : JB M) : pw (mX8_size 1 a b M) (fun q => CB (shp q.2) q.2) :=
  p_mono (p_and (pl_size h.1.1.1.1) (o_size r1 r2 h.1.1.1.1)) (fun q y => by
    rcases y.1 with ⟨_, _, z⟩ | ⟨z, _⟩
    · rw [z]; exact h.2
    · rcases y.2 with w | w
      · omega
      · exact CB.z w.1 w.2)
theorem cb_relation {a b : Int} (r1 : (-2147483648) ≤ a ∧ a ≤ 2147483647) (r2 : (-2147483648) ≤ b ∧ b ≤ 2147483647) (h : JB M) : pw (mX8_relation 1 a b M) (fun q => CB (shp q.2) q.2) :=
  p_mono (p_and (pl_relation h.1.1.1.1) (o_relation r1 r2 h.1.1.1.1)) (fun q y => by
    have r6 := rd_Shape_6 h.1.1.1.1 (a := 4) rfl
    rcases y.1 with ⟨_, _, z⟩ | ⟨z, _⟩
    · rw [z]; exact h.2
    · rcases y.2 with w | w
      · omega
      · exact CB.z w.1 w.2)
theorem cb_again {a : Int} (h : JB M) : pw (mX8_again 1 a M) (fun q => CB (shp q.2) q.2) :=
  p_mono (p_and (pl_again h.1.1.1.1) (o_again h.1.1.1.1)) (fun q y => by
    rcases y.1 with ⟨_, _, z⟩ | ⟨z, _⟩
    · rw [z]; exact h.2
    · rcases y.2 with w | w
      · omega
      · exact CB.z w.1 w.2)
theorem cb_story (h : JB M) : pw (mX8_story 1 M) (fun q => CB (shp q.2) q.2) := by
  have iM := h.1.1.1.1
  have hn : (169 : Int) ≤ ((mN M : Nat) : Int) := by have := iM.2.2.2.2.1; omega
  refine p_mono (p2_story iM) (fun q y => ?_)
  rcases y with ⟨_, _, g⟩ | ⟨_, _, _, g⟩ | ⟨lt, _, ps, _, _, _, _, _, e11, g⟩
  · exact h.2.go iM (fun b j hb => g b j (by unfold CR; omega))
  · exact h.2.go iM (fun b j hb => g b j (by omega) (by unfold CR; omega))
  · exact h.2.go iM (fun b j hb => g b j (by omega) (by unfold CR; omega) (by omega) (by omega))
theorem cb_guess (h : JB M) : pw (mX8_guess 1 M) (fun q => CB (shp q.2) q.2) := by
  have iM := h.1.1.1.1
  have hn : (169 : Int) ≤ ((mN M : Nat) : Int) := by have := iM.2.2.2.2.1; omega
  refine p_mono (p_wp (s_X8_guess iM)) (fun q y => ?_)
  obtain ⟨⟨n, hn', i2, k2, _⟩, _⟩ := y
  exact h.2.go iM (fun b j hb => k2.2.2 b j (by omega) (fun z => by unfold W_X8_guess at z; omega))
theorem cb_image {a : Int} (h : JB M) : pw (mX8_image 1 a M) (fun q => CB (shp q.2) q.2) := by
  refine p_mono (pl_image h.1.1.1.1) (fun q y => ?_)
  rcases y with ⟨_, _, z⟩ | ⟨_, c, M1, ⟨_, _, _, _, g⟩, e⟩
  · rw [z]; exact h.2
  · exact h.2.go h.1.1.1.1 (fun b j hb => (st_ne e (fun w => by omega)).trans (g b j (fun w => by omega)))
theorem cb_becomes {v : Int} (iM : I n M) (cb : CB (shp M) M) : pw (mX8_becomes 1 v M) (fun q => CB (shp q.2) q.2) := by
  have h1 : mG M 1 1 = 3 := rd_VS_1 iM (a := 1) rfl
  unfold mX8_becomes
  refine p_if (fun c => p_ret cb) (fun c => p_gFc (ji := 1) rfl h1 (p_pF (ji := 1) rfl (fun m2 h2 => p_ret ?_)))
  exact cb.go iM (fun b j hb => st_ne h2 (fun w => by omega))
end
theorem init_JB {M : Mem} (r : RepL 197 169 M) : JB M := by
  have t := TR.of r (X := 0) (lo := 1) (hi := 169)
  exact ⟨init_J3 r, CB.z (t.v (show tvo 0 [] 24 6 = some 0 by decide) ⟨by decide, by decide⟩) (t.v (show tvo 0 [] 24 7 = some 0 by decide) ⟨by decide, by decide⟩)⟩
