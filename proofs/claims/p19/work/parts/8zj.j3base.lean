section
/-! ===== J3 is kept: how ===== -/
def N9 (b j : Int) : Prop := 126 ≤ b ∧ b ≤ 168 ∧ ¬ (b = 134 ∨ b = 136 ∨ b = 146 ∨ b = 147)
def KOA (M : Mem) : Prop := ∀ i : Int, 0 ≤ i → i < 4 → (i = 0 ∨ mG M 169 (i - 1) = 1) → KO i M
theorem KOA.go {M M' : Mem} (h : KOA M) (g : ∀ b j : Int, b = 134 ∨ b = 136 ∨ b = 146 ∨ b = 147 ∨ b = 169 → mG M' b j = mG M b j) : KOA M' := fun i i0 i1 hi => by
  rw [g 169 _ (by omega)] at hi
  have := h i i0 i1 hi
  intro k k0 k1
  rw [g 146 _ (by omega)] at k1
  rw [g 147 _ (by omega), g 134 _ (by omega), g 136 _ (by omega)]
  exact this k k0 k1
theorem J3.un0 {M : Mem} {x : Option (Int × Mem)} {y : Mem → Option (Int × Mem)} {W9 : Int → Int → Prop} {P9 : Int × Mem → Prop} {A : Int × Mem → Int × Mem → Prop} (h : J3 M) (hj : wp x (fun q1 => wp (y q1.2) (A q1))) (hA : ∀ q1 q2, A q1 q2 → J2 q2.2) (hx : pw x (fun q => (∃ n, I n q.2) ∧ F9 M q.2)) (c8 : pw x (fun q => CA (shp q.2) q.2)) (hy : ∀ n M1, WF M1 → I n M1 → wp (y M1) (fun q => I n q.2 ∧ Keep n W9 M1 q.2 ∧ P9 q)) (d9 : ∀ b j, W9 b j → 126 ≤ b ∧ b ≤ 169) (hko : pw x (fun q1 => pw (y q1.2) (fun q2 => A q1 q2 → KOA q2.2))) : wp x (fun q1 => wp (y q1.2) (fun q2 => J3 q2.2)) := by
  have wf := h.1.1.2.1
  have k : pw x (fun q1 => pw (y q1.2) (fun q2 => A q1 q2 → Rel3 q2.2)) := by
    refine p_mono (p_and (p_and hx c8) hko) ?_
    rintro q1 ⟨⟨⟨⟨n, i1⟩, f9⟩, ca⟩, ko⟩
    have wf1 : WF q1.2 := WF_of wf (fun j => f9 _ j (by decide) (by decide)) (fun j => f9 _ j (by decide) (by decide)) (fun j => f9 _ j (by decide) (by decide)) (fun j => f9 _ j (by decide) (by decide)) (fun j => f9 _ j (by decide) (by decide))
    refine p_mono (p_and (p_wp (hy n q1.2 wf1 i1)) ko) ?_
    rintro q2 ⟨⟨i2, k2, -⟩, ko2⟩ a
    exact ⟨ko2 a, ca.go i1 (fun b j b0 hb => k2.2.2 b j b0 (fun z => by
      have := d9 b j z
      unfold CC at hb
      omega))⟩
  exact w_mono (w_and3 (M := M) hj k) (fun q1 h1 => w_mono h1 (fun q2 z => ⟨hA q1 q2 z.1, z.2 z.1⟩))
theorem J3.un {M : Mem} {x : Option (Int × Mem)} {y : Mem → Option (Int × Mem)} {W9 : Int → Int → Prop} {P9 : Int × Mem → Prop} {A : Int × Mem → Int × Mem → Prop} (h : J3 M) (hj : wp x (fun q1 => wp (y q1.2) (A q1))) (hA : ∀ q1 q2, A q1 q2 → J2 q2.2) (hx : pw x (fun q => (∃ n, I n q.2) ∧ F9 M q.2)) (c8 : pw x (fun q => CA (shp q.2) q.2)) (hy : ∀ n M1, WF M1 → I n M1 → wp (y M1) (fun q => I n q.2 ∧ Keep n W9 M1 q.2 ∧ P9 q)) (d9 : ∀ b j, W9 b j → N9 b j) : wp x (fun q1 => wp (y q1.2) (fun q2 => J3 q2.2)) := by
  have wf := h.1.1.2.1
  refine J3.un0 h hj hA hx c8 hy (fun b j z => by have := d9 b j z; unfold N9 at this; omega) ?_
  refine p_mono hx ?_
  rintro q1 ⟨⟨n, i1⟩, f9⟩
  have wf1 : WF q1.2 := WF_of wf (fun j => f9 _ j (by decide) (by decide)) (fun j => f9 _ j (by decide) (by decide)) (fun j => f9 _ j (by decide) (by decide)) (fun j => f9 _ j (by decide) (by decide)) (fun j => f9 _ j (by decide) (by decide))
  have hn : (169 : Int) ≤ (n : Int) := by have := i1.2.2.2.2.1; omega
  refine p_mono (p_wp (hy n q1.2 wf1 i1)) ?_
  rintro q2 ⟨i2, k2, -⟩ _
  have ko : KOA M := h.2.1
  exact ko.go (fun b j hb => (k2.2.2 b j (by omega) (fun z => by have := d9 b j z; unfold N9 at this; omega)).trans (f9 b j (by omega) (by omega)))
section
variable {M : Mem} {n : Nat}
/-- the class's side of a call that changes nothing that is judged -/
theorem hx_of {x : Option (Int × Mem)} {W : Int → Int → Prop} {P : Int × Mem → Prop} (h : J3 M) (hx : wp x (fun q => I (mN M) q.2 ∧ Keep (mN M) W M q.2 ∧ P q)) (d : ∀ b j, W b j → b ≤ 125) : pw x (fun q => (∃ n, I n q.2) ∧ F9 M q.2) :=
  p_mono (p_wp hx) (fun q y => ⟨⟨_, y.1⟩, y.2.1.f9 (by have := h.1.1.1.2.2.2.2.1; omega) d⟩)
theorem ca_of {x : Option (Int × Mem)} {W : Int → Int → Prop} {P : Int × Mem → Prop} (h : J3 M) (hx : wp x (fun q => I (mN M) q.2 ∧ Keep (mN M) W M q.2 ∧ P q)) (d : ∀ b j, W b j → NA b j) : pw x (fun q => CA (shp q.2) q.2) :=
  p_mono (p_wp hx) (fun q y => h.2.2.kp h.1.1.1 y.2.1 d)
theorem q_forget : pw (mX4_forget 2 M) (fun q => mG q.2 2 4 = 0) := by
  unfold mX4_forget
  refine p_pF (ji := 4) rfl (fun m1 h1 => p_pF (ji := 10) rfl (fun m2 h2 => p_gF (ji := 2) rfl (fun a _ => p_gK ?_)))
  unfold mX1_forget
  refine p_bindg (fun Q1 hQ1 => p_pZ (ji := 6) rfl (fun m3 h3 => p_pZ (ji := 7) rfl (fun m4 h4 => p_ret (hQ1 _ (p_ret ?_)))))
  show mG m4 2 4 = 0
  rw [st_ne h4 (fun w => absurd w.2 (by decide)), st_ne h3 (fun w => absurd w.2 (by decide)), st_ne h2 (fun w => absurd w.2 (by decide)), st_eq h1]
theorem f_size {a b : Int} (r1 : (-2147483648) ≤ a ∧ a ≤ 2147483647) (r2 : (-2147483648) ≤ b ∧ b ≤ 2147483647) (iM : I n M) : pw (mX8_size 1 a b M) (fun q => q.1 = 0 ∨ mG q.2 2 4 = 0) := by
  unfold mX8_size
  refine p_gFc (ji := 1) rfl (rd_VS_1 iM (a := 1) rfl) (p_gFc (ji := 0) rfl (K2.of iM).c3_0 (p_gK (p_call (p_wp (s_X3_resize (l0 := 4) (Or.inl rfl) r1 r2 iM)) (fun v m y => p_if (fun _ => p_ret (Or.inl rfl)) (fun _ => ?_)))))
  have i1 := y.1
  refine p_gFc (ji := 1) rfl (rd_VS_1 i1 (a := 1) rfl) (p_gK (p_call (p_wp (s_X6_clearWorlds i1)) (fun v m2 y => ?_)))
  exact p_gFc (ji := 0) rfl (rd_VS_0 y.1 (a := 1) rfl) (p_gK (p_call q_forget (fun v m3 y => p_ret (Or.inr y))))
theorem f_relation {a b : Int} (r1 : (-2147483648) ≤ a ∧ a ≤ 2147483647) (r2 : (-2147483648) ≤ b ∧ b ≤ 2147483647) (iM : I n M) : pw (mX8_relation 1 a b M) (fun q => q.1 = -1 ∨ mG q.2 2 4 = 0) := by
  unfold mX8_relation
  refine p_gFc (ji := 1) rfl (rd_VS_1 iM (a := 1) rfl) (p_gFc (ji := 0) rfl (K2.of iM).c3_0 (p_gK (p_call (p_wp (s_X3_addRelation (l0 := 4) (Or.inl rfl) r1 r2 iM)) (fun v m y => ?_))))
  have i1 := y.1
  unfold mX8_relation_32
  refine p_if (fun c => p_ret (Or.inl c)) (fun _ => ?_)
  refine p_gFc (ji := 1) rfl (rd_VS_1 i1 (a := 1) rfl) (p_gK (p_call (p_wp (s_X6_clearWorlds i1)) (fun v2 m2 y => ?_)))
  exact p_gFc (ji := 0) rfl (rd_VS_0 y.1 (a := 1) rfl) (p_gK (p_call q_forget (fun v m3 y => p_ret (Or.inr y))))
theorem f_again {a : Int} (iM : I n M) : pw (mX8_again 1 a M) (fun q => q.1 = 0 ∨ mG q.2 2 4 = 0) := by
  unfold mX8_again
  refine p_if (fun _ => p_ret (Or.inl rfl)) (fun c1 => p_if (fun _ => p_ret (Or.inl rfl)) (fun c2 => p_gF (ji := 4) rfl (fun _ _ => p_aG (fun _ _ => p_if (fun _ => p_ret (Or.inl rfl)) (fun _ => ?_)))))
  refine p_gFc (ji := 1) rfl (rd_VS_1 iM (a := 1) rfl) (p_gFc (ji := 3) rfl (rd_VS_3 iM (a := 1) rfl) (p_aGc (rd_Vimages iM (a := 73) (i := a) rfl (by omega) (by omega)) (p_gK (p_call (p_wp (s_X6_copy (l0 := 3) (l1 := 75 + 17 * a) (Or.inl rfl) (by unfold isTold; omega) iM)) (fun v m y => ?_)))))
  exact p_gFc (ji := 0) rfl (rd_VS_0 y.1 (a := 1) rfl) (p_gK (p_call q_forget (fun v m3 y => p_ret (Or.inr y))))
theorem ca_size {a b : Int} (r1 : (-2147483648) ≤ a ∧ a ≤ 2147483647) (r2 : (-2147483648) ≤ b ∧ b ≤ 2147483647) (h : J3 M) : pw (mX8_size 1 a b M) (fun q => CA (shp q.2) q.2) :=
  p_mono (p_and (pl_size h.1.1.1) (f_size r1 r2 h.1.1.1)) (fun q y => by
    rcases y.1 with ⟨_, _, z⟩ | ⟨z, _⟩
    · rw [z]; exact h.2.2
    · rcases y.2 with w | w
      · omega
      · exact CA.z w)
theorem ca_relation {a b : Int} (r1 : (-2147483648) ≤ a ∧ a ≤ 2147483647) (r2 : (-2147483648) ≤ b ∧ b ≤ 2147483647) (h : J3 M) : pw (mX8_relation 1 a b M) (fun q => CA (shp q.2) q.2) :=
  p_mono (p_and (pl_relation h.1.1.1) (f_relation r1 r2 h.1.1.1)) (fun q y => by
    have r6 := rd_Shape_6 h.1.1.1 (a := 4) rfl
    rcases y.1 with ⟨_, _, z⟩ | ⟨z, _⟩
    · rw [z]; exact h.2.2
    · rcases y.2 with w | w
      · omega
      · exact CA.z w)
theorem ca_again {a : Int} (h : J3 M) : pw (mX8_again 1 a M) (fun q => CA (shp q.2) q.2) :=
  p_mono (p_and (pl_again h.1.1.1) (f_again h.1.1.1)) (fun q y => by
    rcases y.1 with ⟨_, _, z⟩ | ⟨z, _⟩
    · rw [z]; exact h.2.2
    · rcases y.2 with w | w
      · omega
      · exact CA.z w)
theorem cr_cc {b j : Int} (h : CC b j) : ¬ CR b j := by
  unfold CC at h
  unfold CR
  omega
theorem ca_story (h : J3 M) : pw (mX8_story 1 M) (fun q => CA (shp q.2) q.2) := by
  have iM := h.1.1.1
  have hn : (169 : Int) ≤ ((mN M : Nat) : Int) := by have := iM.2.2.2.2.1; omega
  have r11 := rd_Told_11 iM (a := 3) rfl
  refine p_mono (p2_story iM) (fun q y => ?_)
  rcases y with ⟨_, _, g⟩ | ⟨_, _, _, g⟩ | ⟨lt, _, ps, _, _, _, _, _, e11, g⟩
  · exact h.2.2.go iM (fun b j b0 hb => g b j (by
      rcases hb with hb | hb
      · exact cr_cc hb
      · unfold CR; omega))
  · exact h.2.2.go iM (fun b j b0 hb => g b j b0 (by
      rcases hb with hb | hb
      · exact cr_cc hb
      · unfold CR; omega))
  · have g' : ∀ b j : Int, b ≤ ((mN M : Nat) : Int) → ¬ CR b j → ¬ (14 ≤ b ∧ b ≤ 16 ∧ j = mG M 3 11) → ¬ (b = 3 ∧ j = 11) → mG q.2 b j = mG M b j := g
    refine h.2.2.go2 iM (g' 2 4 (by omega) (by unfold CR; omega) (by omega) (by omega)) (shp_go (fun b j x => g' b j (by omega) (by unfold CR; omega) (by omega) (by omega))) (fun s hs hj => ?_) (fun b j b0 b1 => g' b j (by omega) (by unfold CR; omega) (by omega) (by omega)) (fun b j b0 b1 => g' b j b1 (by unfold CR; omega) (by omega) (by omega))
    have hin := (h.2.2.2 s hs hj).2.2.1
    refine ⟨?_, fun h8 => by have := hin h8; omega⟩
    unfold txs
    by_cases e : s = 8
    · rw [if_pos e, if_pos e]
      exact g' 3 12 (by omega) (by unfold CR; omega) (by omega) (by omega)
    · rw [if_neg e, if_neg e]
      have := hin (by omega)
      exact g' 14 _ (by omega) (by unfold CR; omega) (by omega) (by omega)
theorem cl_8 : ∀ k : Nat, k < 512 → iand (k : Int) (-257) = ((k % 256 : Nat) : Int) := by decide +kernel
theorem f_guess (iM : I n M) : pw (mX8_guess 1 M) (fun q => q.1 = -1 ∨ mG q.2 2 4 = iand (mG M 2 4) (-257)) := by
  have hn : (169 : Int) ≤ (n : Int) := by have := iM.2.2.2.2.1; omega
  unfold mX8_guess
  refine p_gFc (ji := 2) rfl (rd_VS_2 iM (a := 1) rfl) (p_gFc (ji := 1) rfl (rd_VS_1 iM (a := 1) rfl) (p_gK (p_call (p2_read iM) (fun t m h => ?_))))
  obtain ⟨⟨n1, hn1, im, km, tx, z5⟩, _⟩ := h
  replace im : I n1 m := im
  replace km : Keep n W_X2_read M m := km
  refine p_if (fun _ => p_ret (Or.inl rfl)) (fun t0 => ?_)
  refine p_gFc (ji := 1) rfl (rd_VS_1 im (a := 1) rfl) (p_pF (ji := 12) rfl (fun m1 h1 => ?_))
  replace h1 : m1 = mS m 3 12 t := h1
  refine p_gFc (ji := 0) (r := 2) rfl ((st_ne h1 (by omega)).trans (rd_VS_0 im (a := 1) rfl)) (p_gK ?_)
  unfold mX4_forgetGuess
  refine p_bindg (fun Q1 hQ1 => p_gF (ji := 4) rfl (fun v hv => p_pF (ji := 4) rfl (fun m2 h2 => p_ret (hQ1 _ ?_))))
  refine p_gF (ji := 5) rfl (fun _ _ => p_ret (Or.inr ?_))
  show mG m2 2 4 = _
  rw [st_eq h2, ← hv, st_ne h1 (fun w => absurd w.1 (by decide)), km.2.2 2 4 (by omega) (fun z => by have := rd_no z; omega)]
theorem ca_guess (h : J3 M) : pw (mX8_guess 1 M) (fun q => CA (shp q.2) q.2) := by
  have iM := h.1.1.1
  have hn : (169 : Int) ≤ ((mN M : Nat) : Int) := by have := iM.2.2.2.2.1; omega
  refine p_mono (p_and (p2_guess iM) (f_guess iM)) (fun q y => ?_)
  obtain ⟨y, z⟩ := y
  rcases y with ⟨_, _, g⟩ | ⟨ps, _, e1, _, _, g⟩
  · exact h.2.2.go iM (fun b j b0 hb => g b j b0 (by
      rcases hb with hb | hb
      · exact cr_cc hb
      · unfold CR; omega))
  · have e4 : mG q.2 2 4 = iand (mG M 2 4) (-257) := by
      rcases z with z | z
      · omega
      · exact z
    obtain ⟨J, hJ⟩ := Int.eq_ofNat_of_zero_le h.2.2.1.1
    have J5 : J < 512 := by have := h.2.2.1.2; omega
    rw [hJ, cl_8 J J5] at e4
    have es : shp q.2 = shp M := shp_go (fun b j x => g b j (by omega) (by unfold CR; omega) (by omega) (by omega))
    rw [es]
    refine ⟨by rw [e4]; omega, fun s hs hj => ?_⟩
    have hj2 : s < 8 ∧ jb M s = true := by
      unfold jb at hj ⊢
      rw [e4, Int.toNat_natCast, show (256 : Nat) = 2 ^ 8 from rfl, Nat.testBit_mod_two_pow] at hj
      rw [hJ, Int.toNat_natCast]
      have := Bool.and_eq_true_iff.mp hj
      exact ⟨of_decide_eq_true this.1, this.2⟩
    obtain ⟨a1, a2, a3, a4⟩ := h.2.2.2 s hs hj2.2
    have t5 := txs_n iM hs a2
    have ex : txs q.2 s = txs M s := by
      unfold txs
      rw [if_neg (by omega), if_neg (by omega)]
      exact g 14 _ (by omega) (by unfold CR; omega) (by omega) (by omega)
    rw [ex]
    refine ⟨a1, a2, fun h8 => by rw [g 3 11 (by omega) (by unfold CR; omega) (by omega) (by omega)]; exact a3 h8, fun ps h1 h2 => ?_⟩
    exact (a4 ps (h1.of (fun b' j c0 c1 => (g b' j (by omega) (by unfold CR; omega) (by omega) (by omega)).symm)) h2).kp (fun j => g _ j (by omega) (by unfold CR; omega) (by omega) (by omega)) (fun j => g _ j (by omega) (by unfold CR; omega) (by omega) (by omega))
/-! what is known, where it changes -/
theorem ko_rel {a b : Int} {M1 : Mem} (i1 : I n M1) (ko : KOA M1) : pw (mX9_relation 126 a b M1) (fun q => KOA q.2) := by
  refine p_mono (pr_relation i1) (fun q y => ?_)
  have r6 := rd_Mrelations i1 (a := 134) (i := 0) rfl
  rcases y with ⟨_, _, g⟩ | ⟨_, c, e, _, _, g⟩
  · exact ko.go (fun b j hb => g b j (by omega))
  intro i i0 i1' hi
  rw [g 169 _ (by decide) (by omega) (by omega) (by omega) (by omega) (by omega)] at hi
  have hk := ko i i0 i1' hi
  intro k k0 k1
  rw [g 146 _ (by decide) (by omega) (by omega) (by omega) (by omega) (by omega)] at k1
  obtain ⟨h1, h2⟩ := hk k k0 k1
  have x0 := rd_MknownOf i1 (a := 147) (i := 40 * i + k) rfl
  have ri := rd_Mrelations i1 (a := 134) (i := i) rfl
  rw [g 147 _ (by decide) (by omega) (by omega) (by omega) (by omega) (by omega)]
  have hne : ¬ 4 * i + mG M1 147 (40 * i + k) / 9 = mG M1 134 0 := by
    by_cases z : i = 0
    · rw [z] at h1 x0 ⊢; omega
    · have := c.1; omega
  refine ⟨?_, fun h => h2 (by
    rw [g 136 _ (by decide) (by omega) (by omega) (fun w => hne w.2) (by omega) (by omega)] at h
    exact h)⟩
  by_cases z : i = 0
  · rw [z] at h1 ⊢
    rw [e]; omega
  · rw [g 134 _ (by decide) (by omega) (by omega) (by omega) (by omega) (by omega)]; exact h1
theorem ko_kn {a b c d : Int} {M1 : Mem} (i1 : I n M1) (ko : KOA M1) : pw (mX9_known 126 a b c d M1) (fun q => KOA q.2) := by
  refine p_mono (pr_known i1) (fun q y => ?_)
  rcases y with ⟨_, _, g⟩ | ⟨_, hc, e, e2, _, _, g⟩
  · exact ko.go (fun b j hb => g b j (by omega))
  obtain ⟨c1, c2, c3, c4⟩ := hc
  intro i i0 i1' hi
  rw [g 169 _ (by decide) (by omega) (by omega)] at hi
  have hk := ko i i0 i1' hi
  intro k k0 k1
  have r0 := rd_Mknowns i1 (a := 146) (i := 0) rfl
  have ri := rd_Mknowns i1 (a := 146) (i := i) rfl
  by_cases z : i = 0
  · rw [z] at k1 hk ⊢
    rw [e] at k1
    by_cases w : k = mG M1 146 0
    · have e3 : mG q.2 147 (40 * 0 + k) = 9 * a + 3 * b + (if mG M1 136 a = -1 then 0 else c) := by
        rw [show 40 * (0 : Int) + k = mG M1 146 0 by omega]; exact e2
      rw [e3, g 134 _ (by decide) (by omega) (by omega)]
      by_cases o : mG M1 136 a = -1
      · rw [if_pos o]
        refine ⟨by omega, fun _ => by omega⟩
      · rw [if_neg o]
        have c4' : 0 ≤ c ∧ c ≤ 2 := c4.resolve_left o
        refine ⟨by omega, fun h => ?_⟩
        rw [show 4 * (0 : Int) + (9 * a + 3 * b + c) / 9 = a by omega, g 136 _ (by decide) (by omega) (by omega)] at h
        exact absurd h o
    · rw [g 147 _ (by decide) (by omega) (by omega), g 134 _ (by decide) (by omega) (by omega), g 136 _ (by decide) (by omega) (by omega)]
      exact hk k k0 (by omega)
  · rw [g 146 _ (by decide) (by omega) (by omega)] at k1
    rw [g 147 _ (by decide) (by omega) (by omega), g 134 _ (by decide) (by omega) (by omega), g 136 _ (by decide) (by omega) (by omega)]
    exact hk k k0 k1
/-- copies, and what is left alone -/
theorem KO.cpy {i i' : Int} {M' : Mem} (iM : I n M) (h : KO i M) (c : CPY n i i' M M') : KO i' M' := by
  obtain ⟨_, _, _, _, _, c⟩ := c
  have c46 := c 146 1 0 (by decide) rfl (by decide) (by decide)
  have c34 := c 134 1 0 (by decide) rfl (by decide) (by decide)
  rw [show 1 * i' + 0 = i' by omega, show 1 * i + 0 = i by omega] at c46 c34
  have r := rd_Mknowns iM (a := 146) (i := i) rfl
  have rr := rd_Mrelations iM (a := 134) (i := i) rfl
  intro k k0 k1
  rw [c46] at k1
  obtain ⟨h1, h2⟩ := h k k0 k1
  have x0 := rd_MknownOf iM (a := 147) (i := 40 * i + k) rfl
  have e := c 147 40 k (by decide) rfl k0 (by omega)
  rw [e, c34]
  refine ⟨h1, fun w => h2 ?_⟩
  have e2 := c 136 4 (mG M 147 (40 * i + k) / 9) (by decide) rfl (by omega) (by omega)
  rw [e2] at w
  exact w
theorem KO.vf {i : Int} {M' : Mem} (iM : I n M) (h : KO i M) (g : ∀ b j : Int, VF n i b j → mG M' b j = mG M b j) : KO i M' := by
  have v : ∀ b N j : Int, b ∈ L25 → rlen b = N → N * i ≤ j → j < N * i + N → mG M' b j = mG M b j := fun b N j hb hN j0 j1 => g b j (Or.inr (Or.inr ⟨hb, by rw [hN]; exact ⟨j0, j1⟩⟩))
  have r := rd_Mknowns iM (a := 146) (i := i) rfl
  have rr := rd_Mrelations iM (a := 134) (i := i) rfl
  intro k k0 k1
  rw [v 146 1 i (by decide) rfl (by omega) (by omega)] at k1
  obtain ⟨h1, h2⟩ := h k k0 k1
  have x0 := rd_MknownOf iM (a := 147) (i := 40 * i + k) rfl
  rw [v 147 40 _ (by decide) rfl (by omega) (by omega), v 134 1 i (by decide) rfl (by omega) (by omega), v 136 4 _ (by decide) rfl (by omega) (by omega)]
  exact ⟨h1, h2⟩
theorem w8_image : ∀ b j, W_X8_image b j → b ≤ 125 := fun b j z => by
  unfold W_X8_image isShape isTold at z
  rcases z with z | z | z | z | z | z | z | z | z | z | z | z | z | z | z | z | z | z | z | z | z | z | z | z | z | z | z <;> omega
theorem ca_image {a : Int} (h : J3 M) : pw (mX8_image 1 a M) (fun q => CA (shp q.2) q.2) := by
  refine p_mono (pl_image h.1.1.1) (fun q y => ?_)
  rcases y with ⟨_, _, z⟩ | ⟨_, c, M1, ⟨_, _, _, _, g⟩, e⟩
  · rw [z]; exact h.2.2
  · exact h.2.2.go h.1.1.1 (fun b j b0 hb => (st_ne e (fun w => by
      rcases hb with hb | hb
      · unfold CC at hb; omega
      · omega)).trans (g b j (fun w => by
      rcases hb with hb | hb
      · unfold CC at hb; omega
      · omega)))
theorem hko_of {x : Option (Int × Mem)} {y : Mem → Option (Int × Mem)} {A : Int × Mem → Int × Mem → Prop} (h : J3 M) (hx : pw x (fun q => (∃ n, I n q.2) ∧ F9 M q.2)) (hy : ∀ n M1, I n M1 → KOA M1 → pw (y M1) (fun q => KOA q.2)) : pw x (fun q1 => pw (y q1.2) (fun q2 => A q1 q2 → KOA q2.2)) := by
  refine p_mono hx ?_
  rintro q1 ⟨⟨n, i1⟩, f9⟩
  have ko : KOA M := h.2.1
  exact p_mono (hy n q1.2 i1 (ko.go (fun b j hb => f9 b j (by omega) (by omega)))) (fun q2 z _ => z)
theorem hko_img {a : Int} (r1 : (-2147483648) ≤ a ∧ a ≤ 2147483647) (h : J3 M) : pw (mX8_image 1 a M) (fun q1 => pw (mX9_image 126 a q1.2) (fun q2 => (J2 q2.2 ∧ EQ q1 q2) → KOA q2.2)) := by
  have ko : KOA M := h.2.1
  exact p_mono (img_gen (P := KO) r1 h.1.1 (fun i hi => ko i hi.1 hi.2.1 hi.2.2) (fun i i' M' _ _ k c => k.cpy h.1.1.1 c) (fun i M' _ _ k g => k.vf h.1.1.1 g)) (fun q1 z => p_mono z (fun q2 z2 e i i0 i1 hi => z2 e.2 i ⟨i0, i1, hi⟩))
theorem hko_aga {a : Int} (r1 : (-2147483648) ≤ a ∧ a ≤ 2147483647) (h : J3 M) : pw (mX8_again 1 a M) (fun q1 => pw (mX9_again 126 a q1.2) (fun q2 => (J2 q2.2 ∧ EQ q1 q2) → KOA q2.2)) := by
  have ko : KOA M := h.2.1
  exact p_mono (aga_gen (P := KO) r1 h.1.1 (fun i hi => ko i hi.1 hi.2.1 hi.2.2) (fun i i' M' _ _ k c => k.cpy h.1.1.1 c) (fun i M' _ _ k g => k.vf h.1.1.1 g)) (fun q1 z => p_mono z (fun q2 z2 e i i0 i1 hi => z2 e.2 i ⟨i0, i1, hi⟩))
end
end
section
/-! ===== J3 is kept by every call ===== -/
section
variable {M : Mem}
theorem j3_size {l1 l2 : Int} (r1 : (-2147483648) ≤ l1 ∧ l1 ≤ 2147483647) (r2 : (-2147483648) ≤ l2 ∧ l2 ≤ 2147483647) (h : J3 M) : wp (mX8_size 1 l1 l2 M) (fun q1 => wp (mX9_size 126 l1 l2 q1.2) (fun q2 => J3 q2.2)) :=
  J3.un h (A := fun q1 q2 => J2 q2.2 ∧ EQ q1 q2) (j2_size r1 r2 h.1) (fun q1 q2 z => z.1) (hx_of h (s_X8_size r1 r2 h.1.1.1) (fun b j z => by unfold W_X8_size at z; omega)) (ca_size r1 r2 h) (fun n m w i => s_X9_size r1 r2 i) (fun b j z => by unfold W_X9_size at z; unfold N9; omega)
theorem j3_relation {l1 l2 : Int} (r1 : (-2147483648) ≤ l1 ∧ l1 ≤ 2147483647) (r2 : (-2147483648) ≤ l2 ∧ l2 ≤ 2147483647) (h : J3 M) : wp (mX8_relation 1 l1 l2 M) (fun q1 => wp (mX9_relation 126 l1 l2 q1.2) (fun q2 => J3 q2.2)) :=
  J3.un0 h (A := fun q1 q2 => J2 q2.2 ∧ EQ q1 q2) (j2_relation r1 r2 h.1) (fun q1 q2 z => z.1) (hx_of h (s_X8_relation r1 r2 h.1.1.1) (fun b j z => by unfold W_X8_relation at z; omega)) (ca_relation r1 r2 h) (fun n m w i => s_X9_relation r1 r2 i) (fun b j z => by unfold W_X9_relation at z; omega) (hko_of h (hx_of h (s_X8_relation r1 r2 h.1.1.1) (fun b j z => by unfold W_X8_relation at z; omega)) (fun n m i k => ko_rel i k))
theorem j3_facts (h : J3 M) : wp (mX8_facts 1 M) (fun q1 => wp (mX9_facts 126 q1.2) (fun q2 => J3 q2.2)) :=
  J3.un h (A := fun q1 q2 => J2 q2.2 ∧ EQ q1 q2) (j2_facts  h.1) (fun q1 q2 z => z.1) (hx_of h (s_X8_facts  h.1.1.1) (fun b j z => False.elim z)) (ca_of h (s_X8_facts  h.1.1.1) (fun b j z => False.elim z)) (fun n m w i => s_X9_facts  i) (fun b j z => by unfold W_X9_facts at z; unfold N9; omega)
theorem j3_tell {l1 l2 l3 l4 : Int} (r1 : (-2147483648) ≤ l1 ∧ l1 ≤ 2147483647) (r2 : (-2147483648) ≤ l2 ∧ l2 ≤ 2147483647) (r3 : (-2147483648) ≤ l3 ∧ l3 ≤ 2147483647) (r4 : 0 ≤ l4 ∧ l4 ≤ 1) (h : J3 M) : wp (mX8_tell 1 l1 l2 l3 l4 M) (fun q1 => wp (mX9_tell 126 l1 l2 l3 l4 q1.2) (fun q2 => J3 q2.2)) :=
  J3.un h (A := fun q1 q2 => J2 q2.2) (j2_tell r1 r2 r3 r4 h.1) (fun q1 q2 z => z) (hx_of h (s_X8_tell r1 r2 r3 r4 h.1.1.1) (fun b j z => by unfold W_X8_tell at z; omega)) (ca_of h (s_X8_tell r1 r2 r3 r4 h.1.1.1) (fun b j z => by unfold W_X8_tell at z; unfold NA CC; omega)) (fun n m w i => s_X9_tell r1 r2 r3 r4 i) (fun b j z => by unfold W_X9_tell at z; unfold N9; omega)
theorem j3_fact {l1 l2 l3 : Int} (r1 : (-2147483648) ≤ l1 ∧ l1 ≤ 2147483647) (r2 : (-2147483648) ≤ l2 ∧ l2 ≤ 2147483647) (r3 : (-2147483648) ≤ l3 ∧ l3 ≤ 2147483647) (h : J3 M) : wp (mX8_fact 1 l1 l2 l3 M) (fun q1 => wp (mX9_fact 126 l1 l2 l3 q1.2) (fun q2 => J3 q2.2)) :=
  J3.un h (A := fun q1 q2 => J2 q2.2) (j2_fact r1 r2 r3 h.1) (fun q1 q2 z => z) (hx_of h (s_X8_fact r1 r2 r3 h.1.1.1) (fun b j z => False.elim z)) (ca_of h (s_X8_fact r1 r2 r3 h.1.1.1) (fun b j z => False.elim z)) (fun n m w i => s_X9_fact r1 r2 r3 i) (fun b j z => by unfold W_X9_fact at z; unfold N9; omega)
theorem j3_known {l1 l2 l3 l4 : Int} (r1 : (-2147483648) ≤ l1 ∧ l1 ≤ 2147483647) (r2 : (-2147483648) ≤ l2 ∧ l2 ≤ 2147483647) (r3 : (-2147483648) ≤ l3 ∧ l3 ≤ 2147483647) (r4 : 0 ≤ l4 ∧ l4 ≤ 1) (h : J3 M) : wp (mX8_known 1 l1 l2 l3 l4 M) (fun q1 => wp (mX9_known 126 l1 l2 l3 l4 q1.2) (fun q2 => J3 q2.2)) :=
  J3.un0 h (A := fun q1 q2 => J2 q2.2 ∧ EQ q1 q2) (j2_known r1 r2 r3 r4 h.1) (fun q1 q2 z => z.1) (hx_of h (s_X8_known r1 r2 r3 r4 h.1.1.1) (fun b j z => by unfold W_X8_known at z; omega)) (ca_of h (s_X8_known r1 r2 r3 r4 h.1.1.1) (fun b j z => by unfold W_X8_known at z; unfold NA CC; omega)) (fun n m w i => s_X9_known r1 r2 r3 r4 i) (fun b j z => by unfold W_X9_known at z; omega) (hko_of h (hx_of h (s_X8_known r1 r2 r3 r4 h.1.1.1) (fun b j z => by unfold W_X8_known at z; omega)) (fun n m i k => ko_kn i k))
theorem j3_keep {l1 : Int} (r1 : (-2147483648) ≤ l1 ∧ l1 ≤ 2147483647) (h : J3 M) : wp (mX8_keep 1 l1 M) (fun q1 => wp (mX9_keep 126 l1 q1.2) (fun q2 => J3 q2.2)) :=
  J3.un h (A := fun q1 q2 => J2 q2.2 ∧ EQ q1 q2) (j2_keep r1 h.1) (fun q1 q2 z => z.1) (hx_of h (s_X8_keep r1 h.1.1.1) (fun b j z => by unfold W_X8_keep at z; omega)) (ca_of h (s_X8_keep r1 h.1.1.1) (fun b j z => by unfold W_X8_keep at z; unfold NA CC; omega)) (fun n m w i => s_X9_keep r1 i) (fun b j z => by unfold W_X9_keep at z; unfold N9; omega)
theorem j3_apart {l1 : Int} (r1 : (-2147483648) ≤ l1 ∧ l1 ≤ 2147483647) (h : J3 M) : wp (mX8_apart 1 l1 M) (fun q1 => wp (mX9_apart 126 l1 q1.2) (fun q2 => J3 q2.2)) :=
  J3.un h (A := fun q1 q2 => J2 q2.2) (j2_apart r1 h.1) (fun q1 q2 z => z) (hx_of h (s_X8_apart r1 h.1.1.1) (fun b j z => by unfold W_X8_apart at z; omega)) (ca_of h (s_X8_apart r1 h.1.1.1) (fun b j z => by unfold W_X8_apart at z; unfold NA CC; omega)) (fun n m w i => s_X9_apart r1 i) (fun b j z => by unfold W_X9_apart at z; unfold N9; omega)
theorem j3_feed {l1 l2 l3 l4 l5 : Int} (r1 : (-2147483648) ≤ l1 ∧ l1 ≤ 2147483647) (r2 : (-2147483648) ≤ l2 ∧ l2 ≤ 2147483647) (r3 : (-2147483648) ≤ l3 ∧ l3 ≤ 2147483647) (r4 : (-2147483648) ≤ l4 ∧ l4 ≤ 2147483647) (r5 : (-2147483648) ≤ l5 ∧ l5 ≤ 2147483647) (h : J3 M) : wp (mX8_feed 1 l1 l2 l3 l4 l5 M) (fun q1 => wp (mX9_feed 126 l1 l2 l3 l4 l5 q1.2) (fun q2 => J3 q2.2)) :=
  J3.un h (A := fun q1 q2 => J2 q2.2 ∧ EQ q1 q2) (j2_feed r1 r2 r3 r4 r5 h.1) (fun q1 q2 z => z.1) (hx_of h (s_X8_feed r1 r2 r3 r4 r5 h.1.1.1) (fun b j z => by unfold W_X8_feed at z; omega)) (ca_of h (s_X8_feed r1 r2 r3 r4 r5 h.1.1.1) (fun b j z => by unfold W_X8_feed at z; unfold NA CC; omega)) (fun n m w i => s_X9_feed r1 r2 r3 r4 r5 i) (fun b j z => by unfold W_X9_feed at z; unfold N9; omega)
theorem j3_end {l1 : Int} (r1 : (-2147483648) ≤ l1 ∧ l1 ≤ 2147483647) (h : J3 M) : wp (mX8_end 1 l1 M) (fun q1 => wp (mX9_end 126 l1 q1.2) (fun q2 => J3 q2.2)) :=
  J3.un h (A := fun q1 q2 => J2 q2.2 ∧ EQ q1 q2) (j2_end r1 h.1) (fun q1 q2 z => z.1) (hx_of h (s_X8_end r1 h.1.1.1) (fun b j z => by unfold W_X8_end at z; omega)) (ca_of h (s_X8_end r1 h.1.1.1) (fun b j z => by unfold W_X8_end at z; unfold NA CC; omega)) (fun n m w i => s_X9_end r1 i) (fun b j z => by unfold W_X9_end at z; unfold N9; omega)
theorem j3_story (h : J3 M) : wp (mX8_story 1 M) (fun q1 => wp (mX9_story 126 q1.2) (fun q2 => J3 q2.2)) :=
  J3.un h (W9 := W_X9_story) (P9 := fun _ => True) (A := fun q1 q2 => J2 q2.2 ∧ EQ q1 q2) (j2_story  h.1) (fun q1 q2 z => z.1) (p_mono (p_wp (s_X8_story h.1.1.1)) (fun q y => by
    obtain ⟨⟨n, hn, i2, k2, _⟩, _⟩ := y
    exact ⟨⟨n, i2⟩, k2.f9 (by have := h.1.1.1.2.2.2.2.1; omega) (fun b j z => by unfold W_X8_story at z; omega)⟩)) (ca_story  h) (fun n m w i => w_mono (s_X9_story w i) (fun q z => ⟨z.1, z.2.1, True.intro⟩)) (fun b j z => by unfold W_X9_story at z; unfold N9; omega)
theorem j3_guess (h : J3 M) : wp (mX8_guess 1 M) (fun q1 => wp (mX9_guess 126 q1.2) (fun q2 => J3 q2.2)) :=
  J3.un h (W9 := W_X9_guess) (P9 := fun _ => True) (A := fun q1 q2 => J2 q2.2 ∧ EQ q1 q2) (j2_guess  h.1) (fun q1 q2 z => z.1) (p_mono (p_wp (s_X8_guess h.1.1.1)) (fun q y => by
    obtain ⟨⟨n, hn, i2, k2, _⟩, _⟩ := y
    exact ⟨⟨n, i2⟩, k2.f9 (by have := h.1.1.1.2.2.2.2.1; omega) (fun b j z => by unfold W_X8_guess at z; omega)⟩)) (ca_guess  h) (fun n m w i => w_mono (s_X9_guess w i) (fun q z => ⟨z.1, z.2.1, True.intro⟩)) (fun b j z => by unfold W_X9_guess at z; unfold N9; omega)
theorem j3_fault {l1 : Int} (r1 : (-2147483648) ≤ l1 ∧ l1 ≤ 2147483647) (h : J3 M) : wp (mX8_fault 1 l1 M) (fun q1 => wp (mX9_fault 126 l1 q1.2) (fun q2 => J3 q2.2)) :=
  J3.un h (A := fun q1 q2 => J2 q2.2) (j2_fault r1 h.1) (fun q1 q2 z => z) (hx_of h (s_X8_fault r1 h.1.1.1) (fun b j z => False.elim z)) (ca_of h (s_X8_fault r1 h.1.1.1) (fun b j z => False.elim z)) (fun n m w i => s_X9_fault r1 i) (fun b j z => by unfold W_X9_fault at z; unfold N9; omega)
theorem j3_strike {l1 : Int} (r1 : (-2147483648) ≤ l1 ∧ l1 ≤ 2147483647) (h : J3 M) : wp (mX8_strike 1 l1 M) (fun q1 => wp (mX9_strike 126 l1 q1.2) (fun q2 => J3 q2.2)) :=
  J3.un h (A := fun q1 q2 => J2 q2.2 ∧ EQ q1 q2) (j2_strike r1 h.1) (fun q1 q2 z => z.1) (hx_of h (s_X8_strike r1 h.1.1.1) (fun b j z => by unfold W_X8_strike at z; omega)) (ca_of h (s_X8_strike r1 h.1.1.1) (fun b j z => by unfold W_X8_strike at z; unfold NA CC; omega)) (fun n m w i => s_X9_strike r1 i) (fun b j z => by unfold W_X9_strike at z; unfold N9; omega)
theorem j3_day {l1 : Int} (r1 : (-2147483648) ≤ l1 ∧ l1 ≤ 2147483647) (h : J3 M) : wp (mX8_day 1 l1 M) (fun q1 => wp (mX9_day 126 l1 q1.2) (fun q2 => J3 q2.2)) :=
  J3.un h (A := fun q1 q2 => J2 q2.2 ∧ EQ q1 q2) (j2_day r1 h.1) (fun q1 q2 z => z.1) (hx_of h (s_X8_day r1 h.1.1.1) (fun b j z => by unfold W_X8_day at z; omega)) (ca_of h (s_X8_day r1 h.1.1.1) (fun b j z => by unfold W_X8_day at z; unfold NA CC; omega)) (fun n m w i => s_X9_day r1 i) (fun b j z => by unfold W_X9_day at z; unfold N9; omega)
theorem j3_view {l1 : Int} (r1 : (-2147483648) ≤ l1 ∧ l1 ≤ 2147483647) (h : J3 M) : wp (mX8_view 1 l1 M) (fun q1 => wp (mX9_view 126 l1 q1.2) (fun q2 => J3 q2.2)) :=
  J3.un h (A := fun q1 q2 => J2 q2.2 ∧ EQ q1 q2) (j2_view r1 h.1) (fun q1 q2 z => z.1) (hx_of h (s_X8_view r1 h.1.1.1) (fun b j z => by unfold W_X8_view at z; omega)) (ca_of h (s_X8_view r1 h.1.1.1) (fun b j z => by unfold W_X8_view at z; unfold NA CC; omega)) (fun n m w i => s_X9_view r1 i) (fun b j z => by unfold W_X9_view at z; unfold N9; omega)
theorem j3_so {l1 : Int} (r1 : (-2147483648) ≤ l1 ∧ l1 ≤ 2147483647) (h : J3 M) : wp (mX8_so 1 l1 M) (fun q1 => wp (mX9_so 126 l1 q1.2) (fun q2 => J3 q2.2)) :=
  J3.un h (A := fun q1 q2 => J2 q2.2) (j2_so r1 h.1) (fun q1 q2 z => z) (hx_of h (s_X8_so r1 h.1.1.1) (fun b j z => by unfold W_X8_so at z; omega)) (ca_of h (s_X8_so r1 h.1.1.1) (fun b j z => by unfold W_X8_so at z; unfold NA CC; omega)) (fun n m w i => s_X9_so r1 w i) (fun b j z => by unfold W_X9_so at z; unfold N9; omega)
theorem j3_breaks {l1 l2 : Int} (r1 : (-2147483648) ≤ l1 ∧ l1 ≤ 2147483647) (r2 : (-2147483648) ≤ l2 ∧ l2 ≤ 2147483647) (h : J3 M) : wp (mX8_breaks 1 l1 l2 M) (fun q1 => wp (mX9_breaks 126 l1 l2 q1.2) (fun q2 => J3 q2.2)) :=
  J3.un h (A := fun q1 q2 => J2 q2.2) (j2_breaks r1 r2 h.1) (fun q1 q2 z => z) (hx_of h (s_X8_breaks r1 r2 h.1.1.1) (fun b j z => by unfold W_X8_breaks at z; omega)) (ca_of h (s_X8_breaks r1 r2 h.1.1.1) (fun b j z => by unfold W_X8_breaks at z; unfold NA CC; omega)) (fun n m w i => s_X9_breaks r1 r2 w i) (fun b j z => by unfold W_X9_breaks at z; unfold N9; omega)
theorem j3_worlds (h : J3 M) : wp (mX8_worlds 1 M) (fun q1 => wp (mX9_worlds 126 q1.2) (fun q2 => J3 q2.2)) :=
  J3.un h (A := fun q1 q2 => J2 q2.2) (j2_worlds  h.1) (fun q1 q2 z => z) (hx_of h (s_X8_worlds  h.1.1.1) (fun b j z => by unfold W_X8_worlds at z; unfold isWS at z; omega)) (ca_worlds  h) (fun n m w i => s_X9_worlds  w i) (fun b j z => by unfold W_X9_worlds at z; unfold N9; omega)
theorem j3_forms (h : J3 M) : wp (mX8_forms 1 M) (fun q1 => wp (mX9_forms 126 q1.2) (fun q2 => J3 q2.2)) :=
  J3.un h (A := fun q1 q2 => J2 q2.2) (j2_forms  h.1) (fun q1 q2 z => z) (hx_of h (s_X8_forms  h.1.1.1) (fun b j z => by unfold W_X8_forms at z; unfold isWS at z; omega)) (ca_forms  h) (fun n m w i => s_X9_forms  w i) (fun b j z => by unfold W_X9_forms at z; unfold N9; omega)
theorem j3_form {l1 : Int} (r1 : (-2147483648) ≤ l1 ∧ l1 ≤ 2147483647) (h : J3 M) : wp (mX8_form 1 l1 M) (fun q1 => wp (mX9_form 126 l1 q1.2) (fun q2 => J3 q2.2)) :=
  J3.un h (A := fun q1 q2 => J2 q2.2) (j2_form r1 h.1) (fun q1 q2 z => z) (hx_of h (s_X8_form r1 h.1.1.1) (fun b j z => by unfold W_X8_form at z; unfold isWS at z; omega)) (ca_form r1 h) (fun n m w i => s_X9_form r1 w i) (fun b j z => by unfold W_X9_form at z; unfold N9; omega)
theorem j3_name (h : J3 M) : wp (mX8_name 1 M) (fun q1 => wp (mX9_name 126 q1.2) (fun q2 => J3 q2.2)) :=
  J3.un h (A := fun q1 q2 => J2 q2.2) (j2_name  h.1) (fun q1 q2 z => z) (hx_of h (s_X8_name  h.1.1.1) (fun b j z => by unfold W_X8_name at z; omega)) (ca_of h (s_X8_name  h.1.1.1) (fun b j z => by unfold W_X8_name at z; unfold NA CC; omega)) (fun n m w i => s_X9_name  i) (fun b j z => by unfold W_X9_name at z; unfold N9; omega)
theorem j3_least {l1 : Int} (r1 : (-2147483648) ≤ l1 ∧ l1 ≤ 2147483647) (h : J3 M) : wp (mX8_least 1 l1 M) (fun q1 => wp (mX9_least 126 l1 q1.2) (fun q2 => J3 q2.2)) :=
  J3.un h (A := fun q1 q2 => J2 q2.2) (j2_least r1 h.1) (fun q1 q2 z => z) (hx_of h (s_X8_least r1 h.1.1.1) (fun b j z => by unfold W_X8_least at z; omega)) (ca_of h (s_X8_least r1 h.1.1.1) (fun b j z => by unfold W_X8_least at z; unfold NA CC; omega)) (fun n m w i => s_X9_least r1 w i) (fun b j z => by unfold W_X9_least at z; unfold N9; omega)
theorem j3_core {l1 : Int} (r1 : (-2147483648) ≤ l1 ∧ l1 ≤ 2147483647) (h : J3 M) : wp (mX8_core 1 l1 M) (fun q1 => wp (mX9_core 126 l1 q1.2) (fun q2 => J3 q2.2)) :=
  J3.un h (A := fun q1 q2 => J2 q2.2) (j2_core r1 h.1) (fun q1 q2 z => z) (hx_of h (s_X8_core r1 h.1.1.1) (fun b j z => by unfold W_X8_core at z; unfold isWS at z; omega)) (ca_core r1 h) (fun n m w i => s_X9_core r1 w i) (fun b j z => by unfold W_X9_core at z; unfold N9; omega)
theorem j3_sure {l1 l2 l3 : Int} (r1 : (-2147483648) ≤ l1 ∧ l1 ≤ 2147483647) (r2 : (-2147483648) ≤ l2 ∧ l2 ≤ 2147483647) (r3 : (-2147483648) ≤ l3 ∧ l3 ≤ 2147483647) (h : J3 M) : wp (mX8_sure 1 l1 l2 l3 M) (fun q1 => wp (mX9_sure 126 l1 l2 l3 q1.2) (fun q2 => J3 q2.2)) :=
  J3.un h (A := fun q1 q2 => J2 q2.2) (j2_sure r1 r2 r3 h.1) (fun q1 q2 z => z) (hx_of h (s_X8_sure r1 r2 r3 h.1.1.1) (fun b j z => by unfold W_X8_sure at z; unfold isWS at z; omega)) (ca_sure r2 r3 h) (fun n m w i => s_X9_sure r1 r2 r3 w i) (fun b j z => by unfold W_X9_sure at z; unfold N9; omega)
theorem j3_cause {l1 l2 l3 l4 : Int} (r1 : (-2147483648) ≤ l1 ∧ l1 ≤ 2147483647) (r2 : (-2147483648) ≤ l2 ∧ l2 ≤ 2147483647) (r3 : (-2147483648) ≤ l3 ∧ l3 ≤ 2147483647) (r4 : (-2147483648) ≤ l4 ∧ l4 ≤ 2147483647) (h : J3 M) : wp (mX8_cause 1 l1 l2 l3 l4 M) (fun q1 => wp (mX9_cause 126 l1 l2 l3 l4 q1.2) (fun q2 => J3 q2.2)) :=
  J3.un h (A := fun q1 q2 => J2 q2.2) (j2_cause r1 r2 r3 r4 h.1) (fun q1 q2 z => z) (hx_of h (s_X8_cause r1 r2 r3 r4 h.1.1.1) (fun b j z => by unfold W_X8_cause at z; unfold isWS at z; omega)) (ca_cause r2 r3 r4 h) (fun n m w i => s_X9_cause r1 r2 r3 r4 w i) (fun b j z => by unfold W_X9_cause at z; unfold N9; omega)
theorem j3_without {l1 : Int} (r1 : (-2147483648) ≤ l1 ∧ l1 ≤ 2147483647) (h : J3 M) : wp (mX8_without 1 l1 M) (fun q1 => wp (mX9_without 126 l1 q1.2) (fun q2 => J3 q2.2)) :=
  J3.un h (A := fun q1 q2 => J2 q2.2) (j2_without r1 h.1) (fun q1 q2 z => z) (hx_of h (s_X8_without r1 h.1.1.1) (fun b j z => by unfold W_X8_without at z; unfold isWS at z; omega)) (ca_without  h) (fun n m w i => s_X9_without r1 w i) (fun b j z => by unfold W_X9_without at z; unfold N9; omega)
theorem j3_questions (h : J3 M) : wp (mX8_questions 1 M) (fun q1 => wp (mX9_questions 126 q1.2) (fun q2 => J3 q2.2)) :=
  J3.un h (A := fun q1 q2 => J2 q2.2) (j2_questions  h.1) (fun q1 q2 z => z) (hx_of h (s_X8_questions  h.1.1.1) (fun b j z => by unfold W_X8_questions at z; unfold isWS at z; omega)) (ca_questions  h) (fun n m w i => s_X9_questions  w i) (fun b j z => by unfold W_X9_questions at z; unfold N9; omega)
theorem j3_settle {l1 : Int} (r1 : (-2147483648) ≤ l1 ∧ l1 ≤ 2147483647) (h : J3 M) : wp (mX8_settle 1 l1 M) (fun q1 => wp (mX9_settle 126 l1 q1.2) (fun q2 => J3 q2.2)) :=
  J3.un h (A := fun q1 q2 => J2 q2.2) (j2_settle r1 h.1) (fun q1 q2 z => z) (hx_of h (s_X8_settle r1 h.1.1.1) (fun b j z => by unfold W_X8_settle at z; unfold isWS at z; omega)) (ca_settle  h) (fun n m w i => s_X9_settle r1 w i) (fun b j z => by unfold W_X9_settle at z; unfold N9; omega)
theorem j3_near (h : J3 M) : wp (mX8_near 1 M) (fun q1 => wp (mX9_near 126 q1.2) (fun q2 => J3 q2.2)) :=
  J3.un h (A := fun q1 q2 => J2 q2.2) (j2_near  h.1) (fun q1 q2 z => z) (hx_of h (s_X8_near  h.1.1.1) (fun b j z => by unfold W_X8_near at z; unfold isWS at z; omega)) (ca_near  h) (fun n m w i => s_X9_near  w i) (fun b j z => by unfold W_X9_near at z; unfold N9; omega)
theorem j3_holds {l1 : Int} (r1 : (-2147483648) ≤ l1 ∧ l1 ≤ 2147483647) (h : J3 M) : wp (mX8_holds 1 l1 M) (fun q1 => wp (mX9_holds 126 l1 q1.2) (fun q2 => J3 q2.2)) :=
  J3.un h (A := fun q1 q2 => J2 q2.2) (j2_holds r1 h.1) (fun q1 q2 z => z) (hx_of h (s_X8_holds r1 h.1.1.1) (fun b j z => by unfold W_X8_holds at z; unfold isWS at z; omega)) (ca_holds  h) (fun n m w i => s_X9_holds r1 w i) (fun b j z => by unfold W_X9_holds at z; unfold N9; omega)
theorem j3_against (h : J3 M) : wp (mX8_against 1 M) (fun q1 => wp (mX9_against 126 q1.2) (fun q2 => J3 q2.2)) :=
  J3.un h (A := fun q1 q2 => J2 q2.2) (j2_against  h.1) (fun q1 q2 z => z) (hx_of h (s_X8_against  h.1.1.1) (fun b j z => by unfold W_X8_against at z; unfold isWS at z; omega)) (ca_against  h) (fun n m w i => s_X9_against  w i) (fun b j z => by unfold W_X9_against at z; unfold N9; omega)
theorem j3_many {l1 : Int} (r1 : (-2147483648) ≤ l1 ∧ l1 ≤ 2147483647) (h : J3 M) : wp (mX8_many 1 l1 M) (fun q1 => wp (mX9_many 126 l1 q1.2) (fun q2 => J3 q2.2)) :=
  J3.un h (A := fun q1 q2 => J2 q2.2) (j2_many r1 h.1) (fun q1 q2 z => z) (hx_of h (s_X8_many r1 h.1.1.1) (fun b j z => False.elim z)) (ca_of h (s_X8_many r1 h.1.1.1) (fun b j z => False.elim z)) (fun n m w i => s_X9_many r1 i) (fun b j z => by unfold W_X9_many at z; unfold N9; omega)
theorem j3_image {l1 : Int} (r1 : (-2147483648) ≤ l1 ∧ l1 ≤ 2147483647) (h : J3 M) : wp (mX8_image 1 l1 M) (fun q1 => wp (mX9_image 126 l1 q1.2) (fun q2 => J3 q2.2)) :=
  J3.un0 h (A := fun q1 q2 => J2 q2.2 ∧ EQ q1 q2) (j2_image r1 h.1) (fun q1 q2 z => z.1) (hx_of h (s_X8_image r1 h.1.1.1) w8_image) (ca_image  h) (fun n m w i => s_X9_image i w) (fun b j z => by unfold W_X9_image at z; omega) (hko_img r1 h)
theorem j3_again {l1 : Int} (r1 : (-2147483648) ≤ l1 ∧ l1 ≤ 2147483647) (h : J3 M) : wp (mX8_again 1 l1 M) (fun q1 => wp (mX9_again 126 l1 q1.2) (fun q2 => J3 q2.2)) :=
  J3.un0 h (A := fun q1 q2 => J2 q2.2 ∧ EQ q1 q2) (j2_again r1 h.1) (fun q1 q2 z => z.1) (hx_of h (s_X8_again r1 h.1.1.1) (fun b j z => by unfold W_X8_again at z; omega)) (ca_again  h) (fun n m w i => s_X9_again i w) (fun b j z => by unfold W_X9_again at z; omega) (hko_aga r1 h)
end
end
section
/-! ===== J3 at the beginning; worlds alike ===== -/
theorem init_J3 {M : Mem} (r : RepL 197 169 M) : J3 M := by
  have t := TR.of r (X := 0) (lo := 1) (hi := 169)
  have g : ∀ a j v, 1 ≤ a → a ≤ 169 → tvo 0 [] a j = some v → mG M a j = v := fun a j v a0 a1 e => t.v e ⟨a0, a1⟩
  refine ⟨init_J2 r, fun i i0 i1 hi => ?_, CA.z (g 2 4 0 (by decide) (by decide) (by decide))⟩
  have e0 : i = 0 := by
    rcases hi with hi | hi
    · exact hi
    · have hk : i - 1 = 0 ∨ i - 1 = 1 ∨ i - 1 = 2 ∨ i - 1 = -1 := by omega
      rcases hk with e | e | e | e
      · rw [e, g 169 0 0 (by decide) (by decide) (by decide)] at hi; cases hi
      · rw [e, g 169 1 0 (by decide) (by decide) (by decide)] at hi; cases hi
      · rw [e, g 169 2 0 (by decide) (by decide) (by decide)] at hi; cases hi
      · omega
  subst e0
  intro k k0 k1
  rw [g 146 0 0 (by decide) (by decide) (by decide)] at k1
  omega
/-- a call's answers are alike, and J3 is kept -/
theorem J3.e {M : Mem} {x : Option (Int × Mem)} {y : Mem → Option (Int × Mem)} (h : wp x (fun q1 => wp (y q1.2) (fun q2 => J3 q2.2))) (k : pw x (fun q1 => pw (y q1.2) (fun q2 => EQ q1 q2))) : wp x (fun q1 => wp (y q1.2) (fun q2 => J3 q2.2 ∧ EQ q1 q2)) := w_and3 (M := M) h k
theorem j3_worldsE {M : Mem} (h : J3 M) : wp (mX8_worlds 1 M) (fun q1 => wp (mX9_worlds 126 q1.2) (fun q2 => J3 q2.2 ∧ EQ q1 q2)) := J3.e (M := M) (j3_worlds h) (eq_worlds h)
end
