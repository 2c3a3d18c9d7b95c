/-! ===== what the class holds of least sizes is kept; least alike ===== -/
def CLC (b j : Int) : Prop := (b = 2 ∧ j = 10) ∨ (b = 3 ∧ j = 11) ∨ (b = 4 ∧ j = 6) ∨ (5 ≤ b ∧ b ≤ 7) ∨ b = 14 ∨ b = 45
def NLC (b j : Int) : Prop := b ≤ 169 ∧ ¬ CLC b j
section
variable {n : Nat} {M M' : Mem}
theorem CL.go2 (iM : I n M) (cl : CL (shp M) M) (h10 : mG M' 2 10 = mG M 2 10) (h45 : ∀ j : Int, mG M' 45 j = mG M 45 j) (hs : shp M' = shp M) (h11 : mG M 3 11 ≤ mG M' 3 11) (h14 : ∀ s : Int, s < mG M 3 11 → mG M' 14 s = mG M 14 s) (gt : ∀ b j : Int, 169 < b → b ≤ (n : Int) → mG M' b j = mG M b j) : CL (shp M') M' := by
  rw [hs]
  rcases cl with z | ⟨vw, z1, z2, z3⟩
  · exact Or.inl (h10.trans z)
  refine Or.inr ⟨vw, h10.trans z1, fun s hs => by have := z2 s hs; omega, fun P tp => ?_⟩
  rw [h45, h45, h45]
  refine z3 P (fun s hs => ?_)
  obtain ⟨t1, t2, t3⟩ := tp s (by omega)
  rw [h14 _ hs] at t1 t2
  have r11 := rd_Told_11 iM (a := 3) rfl
  have t5 := (tx_at iM (i := 0) (s := (s : Int)) (by decide) (by decide) (by omega) (by omega) (show ¬ mG M 14 (s : Int) = 0 by omega)).2
  replace t5 : mG M 14 (s : Int) + 5 ≤ (n : Int) := t5
  exact ⟨t1, t2.of (fun b j b0 b1 => (gt b j (by omega) (by omega)).symm), t3⟩
theorem CL.go (iM : I n M) (cl : CL (shp M) M) (g : ∀ b j : Int, b ≤ (n : Int) → CLC b j ∨ 169 < b → mG M' b j = mG M b j) : CL (shp M') M' := by
  have hn : (169 : Int) ≤ (n : Int) := by have := iM.2.2.2.2.1; omega
  have g' : ∀ b j : Int, CLC b j → mG M' b j = mG M b j := fun b j h => g b j (by unfold CLC at h; omega) (Or.inl h)
  exact cl.go2 iM (g' 2 10 (by unfold CLC; decide)) (fun j => g' 45 j (by unfold CLC; omega)) (shp_go (fun b j h => g' b j (by unfold CLC; omega))) (Int.le_of_eq (g' 3 11 (by unfold CLC; decide)).symm) (fun s _ => g' 14 s (by unfold CLC; omega)) (fun b j b0 b1 => g b j b1 (Or.inr b0))
theorem CL.kp {W : Int → Int → Prop} (iM : I n M) (cl : CL (shp M) M) (k : Keep n W M M') (d : ∀ b j, W b j → NLC b j) : CL (shp M') M' := cl.go iM (fun b j b0 h => k.2.2 b j b0 (fun z => by
  have := d b j z
  unfold NLC at this
  rcases h with h | h
  · exact this.2 h
  · omega))
theorem CL.f9 (iM : I n M) (cl : CL (shp M) M) (g : ∀ b j : Int, b ≤ (n : Int) → ¬ (126 ≤ b ∧ b ≤ 169) → mG M' b j = mG M b j) : CL (shp M') M' := cl.go iM (fun b j b0 h => g b j b0 (fun z => by
  unfold CLC at h
  omega))
def JL (M : Mem) : Prop := J3 M ∧ CL (shp M) M
/-- one property more of the class's side -/
theorem J3.ux {X : Mem → Prop} {x : Option (Int × Mem)} {y : Mem → Option (Int × Mem)} {W9 : Int → Int → Prop} {P9 : Int × Mem → Prop} (h : J3 M) (hX : ∀ (n : Nat) (M1 M2 : Mem), I n M1 → X M1 → (∀ b j : Int, b ≤ (n : Int) → ¬ (126 ≤ b ∧ b ≤ 169) → mG M2 b j = mG M1 b j) → X M2) (hj : wp x (fun q1 => wp (y q1.2) (fun q2 => J3 q2.2))) (hx : pw x (fun q => (∃ n, I n q.2) ∧ F9 M q.2)) (c8 : pw x (fun q => X q.2)) (hy : ∀ n M1, WF M1 → I n M1 → wp (y M1) (fun q => I n q.2 ∧ Keep n W9 M1 q.2 ∧ P9 q)) (d9 : ∀ b j, W9 b j → 126 ≤ b ∧ b ≤ 169) : wp x (fun q1 => wp (y q1.2) (fun q2 => J3 q2.2 ∧ X q2.2)) := by
  have wf := h.1.1.2.1
  have k : pw x (fun q1 => pw (y q1.2) (fun q2 => X q2.2)) := by
    refine p_mono (p_and hx c8) ?_
    rintro q1 ⟨⟨⟨n, i1⟩, f9⟩, cx⟩
    have wf1 : WF q1.2 := WF_of wf (fun j => f9 _ j (by decide) (by decide)) (fun j => f9 _ j (by decide) (by decide)) (fun j => f9 _ j (by decide) (by decide)) (fun j => f9 _ j (by decide) (by decide)) (fun j => f9 _ j (by decide) (by decide))
    refine p_mono (p_wp (hy n q1.2 wf1 i1)) ?_
    rintro q2 ⟨i2, k2, -⟩
    exact hX n q1.2 q2.2 i1 cx (fun b j b0 hb => k2.2.2 b j b0 (fun z => hb (d9 b j z)))
  exact w_and3 (M := M) hj k
theorem cl_of {x : Option (Int × Mem)} {W : Int → Int → Prop} {P : Int × Mem → Prop} (h : JL M) (hx : wp x (fun q => I (mN M) q.2 ∧ Keep (mN M) W M q.2 ∧ P q)) (d : ∀ b j, W b j → NLC b j) : pw x (fun q => CL (shp q.2) q.2) :=
  p_mono (p_wp hx) (fun q y => h.2.kp h.1.1.1.1 y.2.1 d)
theorem q_forget10 : pw (mX4_forget 2 M) (fun q => mG q.2 2 10 = -1) := by
  unfold mX4_forget
  refine p_pF (ji := 4) rfl (fun m1 h1 => p_pF (ji := 10) rfl (fun m2 h2 => p_gF (ji := 2) rfl (fun a _ => p_gK ?_)))
  unfold mX1_forget
  refine p_bindg (fun Q1 hQ1 => p_pZ (ji := 6) rfl (fun m3 h3 => p_pZ (ji := 7) rfl (fun m4 h4 => p_ret (hQ1 _ (p_ret ?_)))))
  show mG m4 2 10 = -1
  rw [st_ne h4 (fun w => absurd w.2 (by decide)), st_ne h3 (fun w => absurd w.2 (by decide)), st_eq h2]
theorem l_size {a b : Int} (r1 : (-2147483648) ≤ a ∧ a ≤ 2147483647) (r2 : (-2147483648) ≤ b ∧ b ≤ 2147483647) (iM : I n M) : pw (mX8_size 1 a b M) (fun q => q.1 = 0 ∨ mG q.2 2 10 = -1) := by
  unfold mX8_size
  refine p_gFc (ji := 1) rfl (rd_VS_1 iM (a := 1) rfl) (p_gFc (ji := 0) rfl (K2.of iM).c3_0 (p_gK (p_call (p_wp (s_X3_resize (l0 := 4) (Or.inl rfl) r1 r2 iM)) (fun v m y => p_if (fun _ => p_ret (Or.inl rfl)) (fun _ => ?_)))))
  have i1 := y.1
  refine p_gFc (ji := 1) rfl (rd_VS_1 i1 (a := 1) rfl) (p_gK (p_call (p_wp (s_X6_clearWorlds i1)) (fun v m2 y => ?_)))
  exact p_gFc (ji := 0) rfl (rd_VS_0 y.1 (a := 1) rfl) (p_gK (p_call q_forget10 (fun v m3 y => p_ret (Or.inr y))))
theorem l_relation {a b : Int} (r1 : (-2147483648) ≤ a ∧ a ≤ 2147483647) (r2 : (-2147483648) ≤ b ∧ b ≤ 2147483647) (iM : I n M) : pw (mX8_relation 1 a b M) (fun q => q.1 = -1 ∨ mG q.2 2 10 = -1) := by
  unfold mX8_relation
  refine p_gFc (ji := 1) rfl (rd_VS_1 iM (a := 1) rfl) (p_gFc (ji := 0) rfl (K2.of iM).c3_0 (p_gK (p_call (p_wp (s_X3_addRelation (l0 := 4) (Or.inl rfl) r1 r2 iM)) (fun v m y => ?_))))
  have i1 := y.1
  unfold mX8_relation_32
  refine p_if (fun c => p_ret (Or.inl c)) (fun _ => ?_)
  refine p_gFc (ji := 1) rfl (rd_VS_1 i1 (a := 1) rfl) (p_gK (p_call (p_wp (s_X6_clearWorlds i1)) (fun v2 m2 y => ?_)))
  exact p_gFc (ji := 0) rfl (rd_VS_0 y.1 (a := 1) rfl) (p_gK (p_call q_forget10 (fun v m3 y => p_ret (Or.inr y))))
theorem l_again {a : Int} (iM : I n M) : pw (mX8_again 1 a M) (fun q => q.1 = 0 ∨ mG q.2 2 10 = -1) := by
  unfold mX8_again
  refine p_if (fun _ => p_ret (Or.inl rfl)) (fun c1 => p_if (fun _ => p_ret (Or.inl rfl)) (fun c2 => p_gF (ji := 4) rfl (fun _ _ => p_aG (fun _ _ => p_if (fun _ => p_ret (Or.inl rfl)) (fun _ => ?_)))))
  refine p_gFc (ji := 1) rfl (rd_VS_1 iM (a := 1) rfl) (p_gFc (ji := 3) rfl (rd_VS_3 iM (a := 1) rfl) (p_aGc (rd_Vimages iM (a := 73) (i := a) rfl (by omega) (by omega)) (p_gK (p_call (p_wp (s_X6_copy (l0 := 3) (l1 := 75 + 17 * a) (Or.inl rfl) (by unfold isTold; omega) iM)) (fun v m y => ?_)))))
  exact p_gFc (ji := 0) rfl (rd_VS_0 y.1 (a := 1) rfl) (p_gK (p_call q_forget10 (fun v m3 y => p_ret (Or.inr y))))
theorem cl_size {a b : Int} (r1 : (-2147483648) ≤ a ∧ a ≤ 2147483647) (r2 : (-2147483648) ≤ b ∧ b ≤ 2147483647) (h : JL M) : pw (mX8_size 1 a b M) (fun q => CL (shp q.2) q.2) :=
  p_mono (p_and (pl_size h.1.1.1.1) (l_size r1 r2 h.1.1.1.1)) (fun q y => by
    rcases y.1 with ⟨_, _, z⟩ | ⟨z, _⟩
    · rw [z]; exact h.2
    · rcases y.2 with w | w
      · omega
      · exact Or.inl w)
theorem cl_relation {a b : Int} (r1 : (-2147483648) ≤ a ∧ a ≤ 2147483647) (r2 : (-2147483648) ≤ b ∧ b ≤ 2147483647) (h : JL M) : pw (mX8_relation 1 a b M) (fun q => CL (shp q.2) q.2) :=
  p_mono (p_and (pl_relation h.1.1.1.1) (l_relation r1 r2 h.1.1.1.1)) (fun q y => by
    have r6 := rd_Shape_6 h.1.1.1.1 (a := 4) rfl
    rcases y.1 with ⟨_, _, z⟩ | ⟨z, _⟩
    · rw [z]; exact h.2
    · rcases y.2 with w | w
      · omega
      · exact Or.inl w)
theorem cl_again {a : Int} (h : JL M) : pw (mX8_again 1 a M) (fun q => CL (shp q.2) q.2) :=
  p_mono (p_and (pl_again h.1.1.1.1) (l_again h.1.1.1.1)) (fun q y => by
    rcases y.1 with ⟨_, _, z⟩ | ⟨z, _⟩
    · rw [z]; exact h.2
    · rcases y.2 with w | w
      · omega
      · exact Or.inl w)
theorem cl_story (h : JL M) : pw (mX8_story 1 M) (fun q => CL (shp q.2) q.2) := by
  have iM := h.1.1.1.1
  have hn : (169 : Int) ≤ ((mN M : Nat) : Int) := by have := iM.2.2.2.2.1; omega
  refine p_mono (p2_story iM) (fun q y => ?_)
  rcases y with ⟨_, _, g⟩ | ⟨_, _, _, g⟩ | ⟨lt, _, ps, _, _, _, _, _, e11, g⟩
  · exact h.2.go iM (fun b j b0 hb => g b j (by unfold CLC at hb; unfold CR; omega))
  · exact h.2.go iM (fun b j b0 hb => g b j b0 (by unfold CLC at hb; unfold CR; omega))
  · have g' : ∀ b j : Int, b ≤ ((mN M : Nat) : Int) → ¬ CR b j → ¬ (14 ≤ b ∧ b ≤ 16 ∧ j = mG M 3 11) → ¬ (b = 3 ∧ j = 11) → mG q.2 b j = mG M b j := g
    exact h.2.go2 iM (g' 2 10 (by omega) (by unfold CR; omega) (by omega) (by omega)) (fun j => g' 45 j (by omega) (by unfold CR; omega) (by omega) (by omega)) (shp_go (fun b j x => g' b j (by omega) (by unfold CR; omega) (by omega) (by omega))) (by omega) (fun s hs => g' 14 s (by omega) (by unfold CR; omega) (by omega) (by omega)) (fun b j b0 b1 => g' b j b1 (by unfold CR; omega) (by omega) (by omega))
theorem cl_guess (h : JL M) : pw (mX8_guess 1 M) (fun q => CL (shp q.2) q.2) := by
  have iM := h.1.1.1.1
  refine p_mono (p_wp (s_X8_guess iM)) (fun q y => ?_)
  obtain ⟨⟨n, hn, i2, k2, _⟩, _⟩ := y
  exact h.2.go iM (fun b j b0 hb => k2.2.2 b j b0 (fun z => by unfold W_X8_guess at z; unfold CLC at hb; omega))
theorem cl_image {a : Int} (h : JL M) : pw (mX8_image 1 a M) (fun q => CL (shp q.2) q.2) := by
  refine p_mono (pl_image h.1.1.1.1) (fun q y => ?_)
  rcases y with ⟨_, _, z⟩ | ⟨_, c, M1, ⟨_, _, _, _, g⟩, e⟩
  · rw [z]; exact h.2
  · exact h.2.go h.1.1.1.1 (fun b j b0 hb => (st_ne e (fun w => by unfold CLC at hb; omega)).trans (g b j (fun w => by unfold CLC at hb; omega)))
theorem q_least8 {k : Int} (h : JL M) : pw (mX8_least 1 k M) (fun q => (CL (shp q.2) q.2 ∧ ∀ c j : Int, 65 ≤ c → mG q.2 c j = mG M c j) ∧ ((¬ (0 ≤ k ∧ k ≤ 2) ∧ q.1 = -1) ∨ ((0 ≤ k ∧ k ≤ 2) ∧ ∀ P, TXP (shp M) P M → ∃ y0 y1 y2 : Int, LST (shp M) P (vwb M) y0 y1 y2 ∧ q.1 = (if k = 0 then y0 else if k = 1 then y1 else y2)))) := by
  obtain ⟨P0, n, ok, hn, k2, sh, tp0, rf, ve, vlt, h1, hl⟩ := look h.1
  have iM := h.1.1.1.1
  unfold mX8_least
  refine p_call pl_isKind (fun r m y => ?_)
  obtain ⟨y1, y2⟩ := y
  replace y1 : m = M := y1
  subst y1
  rcases y2 with ⟨e, c⟩ | ⟨e, c⟩
  · replace e : r = 1 := e
    refine p_it0 (show ¬ r = 0 by omega) (p_gFc (ji := 0) rfl h1.1 (p_gK (p_call (P := fun q => (∀ P, TXP (shp m) P m → ∃ y0 y1 y2 : Int, LST (shp m) P (vwb m) y0 y1 y2 ∧ q.1 = (if k = 0 then y0 else if k = 1 then y1 else y2)) ∧ CL (shp m) q.2 ∧ ∀ c j : Int, ¬ (c = 2 ∧ j = 10) → ¬ WFT c j → ¬ c = 45 → ¬ (38 ≤ c ∧ c ≤ 44) → mG q.2 c j = mG m c j) (fun q e => ⟨fun P tp => (q_leastSize ok iM sh tp h.2 c q e).1, (q_leastSize ok iM sh tp0 h.2 c q e).2⟩) (fun v m2 y => p_ret ?_))))
    obtain ⟨z1, z2, z3⟩ := y
    replace z2 : CL (shp m) m2 := z2
    replace z3 : ∀ c j : Int, ¬ (c = 2 ∧ j = 10) → ¬ WFT c j → ¬ c = 45 → ¬ (38 ≤ c ∧ c ≤ 44) → mG m2 c j = mG m c j := z3
    have es : shp m2 = shp m := shp_go (fun b j x => z3 b j (by omega) (by unfold WFT; omega) (by omega) (by omega))
    exact ⟨⟨by rw [es]; exact z2, fun c j c0 => z3 c j (by omega) (by unfold WFT; omega) (by omega) (by omega)⟩, Or.inr ⟨c, z1⟩⟩
  · replace e : r = 0 := e
    exact p_it1 e (p_ret ⟨⟨h.2, fun _ _ _ => rfl⟩, Or.inl ⟨fun w => c w, rfl⟩⟩)
theorem cl_least {k : Int} (h : JL M) : pw (mX8_least 1 k M) (fun q => CL (shp q.2) q.2) := p_mono (q_least8 h) (fun q y => y.1.1)
theorem eq_least {k : Int} (h : JL M) : pw (mX8_least 1 k M) (fun q1 => pw (mX9_least 126 k q1.2) (fun q2 => EQ q1 q2)) := by
  obtain ⟨P, n, ok, hn, k2, sh, tp, rf, ve, vlt, h1, hl⟩ := look h.1
  refine p_mono (q_least8 (k := k) h) (fun q1 y => ?_)
  obtain ⟨⟨_, g⟩, y⟩ := y
  obtain ⟨rf2, e1, e2, e3⟩ := rf.f9 (M' := q1.2) (fun c j c0 _ => g c j (by omega))
  refine p_mono (v_least (k := k) ok rf2) (fun q2 z => ?_)
  rw [e1, ve] at z
  show q1.1 = q2.1
  rcases y with ⟨a, b⟩ | ⟨a, b⟩
  · rcases z with ⟨c, d⟩ | ⟨c, d⟩
    · rw [b, d]
    · exact absurd c a
  · rcases z with ⟨c, d⟩ | ⟨c, d⟩
    · exact absurd a c
    · obtain ⟨y0, y1, y2, l, e⟩ := b P tp
      obtain ⟨x0, x1, x2, l', e'⟩ := d
      obtain ⟨q0, q1', q2'⟩ := l.eq l'
      rw [e, e', q0, q1', q2']
end
theorem init_JL {M : Mem} (r : RepL 197 169 M) : JL M := by
  have t := TR.of r (X := 0) (lo := 1) (hi := 169)
  exact ⟨init_J3 r, Or.inl (t.v (show tvo 0 [] 2 10 = some (-1) by decide) ⟨by decide, by decide⟩)⟩
