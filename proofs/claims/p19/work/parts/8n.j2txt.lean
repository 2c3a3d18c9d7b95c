section
/-! ===== story and guess on both sides ===== -/
section
variable {n : Nat} {M : Mem}
theorem p2_read (iM : I n M) : pw (mX2_read 65 3 M) (fun q => RD n M q ∧ ((q.1 = 0 ∧ (eC M).rText = none) ∨ ∃ ps, (eC M).rText = some ps ∧ 169 < q.1 ∧ TT ps q.1 q.2)) :=
  p_mono (p_and (p_wp (s_X2_read iM)) (q_read iM)) (fun q z => ⟨z.1, z.2.elim (fun y => Or.inl ⟨y.1, y.2.2⟩) (fun y => Or.inr y)⟩)
/-- what the class's read changes -/
theorem rd_no {b j : Int} (h : W_X2_read b j) : (65 ≤ b ∧ b ≤ 72) ∨ (b = 3 ∧ 5 ≤ j ∧ j ≤ 7) := by
  unfold W_X2_read at h
  rcases h with h | h | h | h | h | h | h | h | h | h | h | h | h | h | h | h <;> omega
def CR (b j : Int) : Prop := (65 ≤ b ∧ b ≤ 72) ∨ (b = 3 ∧ 5 ≤ j ∧ j ≤ 7)
theorem p2_story (iM : I n M) : pw (mX8_story 1 M) (fun q =>
    (¬ mG M 3 11 < 8 ∧ q.1 = -2 ∧ ∀ b j : Int, ¬ CR b j → mG q.2 b j = mG M b j) ∨
    (mG M 3 11 < 8 ∧ q.1 = -1 ∧ (eC M).rText = none ∧ ∀ b j : Int, b ≤ (n : Int) → ¬ CR b j → mG q.2 b j = mG M b j) ∨
    (mG M 3 11 < 8 ∧ q.1 = mG M 3 11 ∧ ∃ ps, (eC M).rText = some ps ∧ 169 < mG q.2 14 (mG M 3 11) ∧ TT ps (mG q.2 14 (mG M 3 11)) q.2 ∧ mG q.2 15 (mG M 3 11) = mG M 3 13 ∧ mG q.2 16 (mG M 3 11) = -1 ∧ mG q.2 3 11 = mG M 3 11 + 1 ∧ ∀ b j : Int, b ≤ (n : Int) → ¬ CR b j → ¬ (14 ≤ b ∧ b ≤ 16 ∧ j = mG M 3 11) → ¬ (b = 3 ∧ j = 11) → mG q.2 b j = mG M b j)) := by
  have i1 : mG M 1 1 = 3 := rd_VS_1 iM (a := 1) rfl
  have hn : (169 : Int) ≤ (n : Int) := by have := iM.2.2.2.2.1; omega
  have r11 := rd_Told_11 iM (a := 3) rfl
  obtain ⟨c, hc⟩ : ∃ c, mG M 3 11 = c := ⟨_, rfl⟩
  rw [hc] at r11 ⊢
  unfold mX8_story
  refine p_gFc (ji := 1) rfl i1 (p_gFc (ji := 11) rfl hc (p_if (fun lt => ?_) (fun nlt => ?_)))
  · refine p_gFc (ji := 2) rfl (rd_VS_2 iM (a := 1) rfl) (p_gFc (ji := 1) rfl i1 (p_gK (p_call (p2_read iM) (fun t m h => ?_))))
    obtain ⟨⟨n1, hn1, im, km, tx, z5⟩, h⟩ := h
    replace im : I n1 m := im
    replace km : Keep n W_X2_read M m := km
    have g : ∀ b j : Int, b ≤ (n : Int) → ¬ CR b j → mG m b j = mG M b j := fun b j hb hw => km.2.2 b j hb (fun z => hw (rd_no z))
    refine p_if (fun t0 => p_ret (Or.inr (Or.inl ⟨lt, rfl, ?_, g⟩))) (fun t0 => ?_)
    · rcases h with ⟨_, h⟩ | ⟨ps, _, h, _⟩
      · exact h
      · replace t0 : t = 0 := t0
        replace h : 169 < t := h
        omega
    · rcases h with ⟨h, _⟩ | ⟨ps, e, t1, tt⟩
      · exact absurd h t0
      replace t1 : 169 < t := t1
      replace tt : TT ps t m := tt
      have gf : ∀ j : Int, ¬ (5 ≤ j ∧ j ≤ 7) → mG m 3 j = mG M 3 j := fun j hj => g 3 j (by omega) (by unfold CR; omega)
      refine p_gFc (ji := 1) rfl ((g 1 1 (by omega) (by unfold CR; omega)).trans i1) (p_gK ?_)
      refine p_call (P := fun q => q.1 = c ∧ ∃ m1 m2 m3, m1 = mS m 14 c t ∧ m2 = mS m1 15 c (mG M 3 13) ∧ m3 = mS m2 16 c (-1) ∧ q.2 = mS m3 3 11 (c + 1)) ?_ (fun q m4 h => p_ret ?_)
      · have gc : mG m 3 11 = c := (gf 11 (by decide)).trans hc
        unfold mX6_addStory
        refine p_gFc (ji := 11) rfl gc (p_it1 lt (p_gFc (ji := 8) rfl (rd_Told_8 im (a := 3) rfl) (p_gFc (ji := 11) rfl gc (p_aSR (fun m1 h1 => ?_)))))
        have g1 : ∀ j : Int, mG m1 3 j = mG m 3 j := fun j => st_ne h1 (by omega)
        refine p_gFc (ji := 9) rfl ((g1 9).trans (rd_Told_9 im (a := 3) rfl)) (p_gFc (ji := 11) rfl ((g1 11).trans gc) (p_gFc (ji := 13) rfl ((g1 13).trans (gf 13 (by decide))) (p_aS (fun m2 h2 => ?_))))
        have g2 : ∀ j : Int, mG m2 3 j = mG m 3 j := fun j => (st_ne h2 (by omega)).trans (g1 j)
        refine p_gFc (ji := 10) rfl ((g2 10).trans (rd_Told_10 im (a := 3) rfl)) (p_gFc (ji := 11) rfl ((g2 11).trans gc) (p_aS (fun m3 h3 => ?_)))
        have g3 : ∀ j : Int, mG m3 3 j = mG m 3 j := fun j => (st_ne h3 (by omega)).trans (g2 j)
        refine p_gFc (ji := 11) rfl ((g3 11).trans gc) (p_pF (ji := 11) rfl (fun m4 h4 => ?_))
        rw [wI_id (x := c + 1) (by omega) (by omega)] at h4
        refine p_gFc (ji := 11) rfl (st_eq h4) (p_ret ⟨?_, m1, m2, m3, h1, h2, h3, h4⟩)
        show wI (c + 1 - 1) = c
        rw [wI_id (x := c + 1 - 1) (by omega) (by omega)]; omega
      · obtain ⟨hq, m1, m2, m3, h1, h2, h3, h4⟩ := h
        replace hq : q = c := hq
        replace h4 : m4 = mS m3 3 11 (c + 1) := h4
        have f : ∀ b j : Int, ¬ (14 ≤ b ∧ b ≤ 16 ∧ j = c) → ¬ (b = 3 ∧ j = 11) → mG m4 b j = mG m b j := fun b j x y => by
          rw [st_ne h4 y, st_ne h3 (fun z => x (by omega)), st_ne h2 (fun z => x (by omega)), st_ne h1 (fun z => x (by omega))]
        have e14 : mG m4 14 c = t := by rw [st_ne h4 (by omega), st_ne h3 (by omega), st_ne h2 (by omega)]; exact st_eq h1
        refine Or.inr (Or.inr ⟨lt, hq, ps, e, ?_, ?_, ?_, ?_, st_eq h4, fun b j hb x y z => (f b j y z).trans (g b j hb x)⟩)
        · show 169 < mG m4 14 c
          rw [e14]; exact t1
        · show TT ps (mG m4 14 c) m4
          rw [e14]
          exact tt.of (fun b j b0 b1 => f b j (by omega) (by omega))
        · show mG m4 15 c = _
          rw [st_ne h4 (by omega), st_ne h3 (by omega)]; exact st_eq h2
        · show mG m4 16 c = _
          rw [st_ne h4 (by omega)]; exact st_eq h3
  · refine p_gFc (ji := 1) rfl i1 (p_gK ?_)
    unfold mX6_clearTape
    refine p_bindg (fun Q1 hQ1 => p_pF (ji := 5) rfl (fun M5 h5 => p_pF (ji := 6) rfl (fun M6 h6 => p_pF (ji := 7) rfl (fun M7 h7 => p_ret (hQ1 _ (p_ret (Or.inl ⟨nlt, rfl, fun b j x => ?_⟩)))))))
    show mG M7 b j = _
    unfold CR at x
    rw [st_ne h7 (by omega), st_ne h6 (by omega), st_ne h5 (by omega)]
theorem p2_guess (iM : I n M) : pw (mX8_guess 1 M) (fun q =>
    (q.1 = -1 ∧ (eC M).rText = none ∧ ∀ b j : Int, b ≤ (n : Int) → ¬ CR b j → mG q.2 b j = mG M b j) ∨
    (∃ ps, (eC M).rText = some ps ∧ q.1 = (ps.length : Int) ∧ 169 < mG q.2 3 12 ∧ TT ps (mG q.2 3 12) q.2 ∧ ∀ b j : Int, b ≤ (n : Int) → ¬ CR b j → ¬ b = 2 → ¬ (b = 3 ∧ j = 12) → mG q.2 b j = mG M b j)) := by
  have i1 : mG M 1 1 = 3 := rd_VS_1 iM (a := 1) rfl
  have hn : (169 : Int) ≤ (n : Int) := by have := iM.2.2.2.2.1; omega
  unfold mX8_guess
  refine p_gFc (ji := 2) rfl (rd_VS_2 iM (a := 1) rfl) (p_gFc (ji := 1) rfl i1 (p_gK (p_call (p2_read iM) (fun t m h => ?_))))
  obtain ⟨⟨n1, hn1, im, km, tx, z5⟩, h⟩ := h
  replace im : I n1 m := im
  replace km : Keep n W_X2_read M m := km
  have g : ∀ b j : Int, b ≤ (n : Int) → ¬ CR b j → mG m b j = mG M b j := fun b j hb hw => km.2.2 b j hb (fun z => hw (rd_no z))
  refine p_if (fun t0 => p_ret (Or.inl ⟨rfl, ?_, g⟩)) (fun t0 => ?_)
  · rcases h with ⟨_, h⟩ | ⟨ps, _, h, _⟩
    · exact h
    · replace t0 : t = 0 := t0
      replace h : 169 < t := h
      omega
  rcases h with ⟨h, _⟩ | ⟨ps, e, t1, tt⟩
  · exact absurd h t0
  replace t1 : 169 < t := t1
  replace tt : TT ps t m := tt
  refine p_gFc (ji := 1) rfl ((g 1 1 (by omega) (by unfold CR; omega)).trans i1) (p_pF (ji := 12) rfl (fun m1 h1 => ?_))
  replace h1 : m1 = mS m 3 12 t := h1
  refine p_gFc (ji := 0) (r := 2) rfl ((st_ne h1 (by omega)).trans (rd_VS_0 im (a := 1) rfl)) (p_gK ?_)
  unfold mX4_forgetGuess
  refine p_bindg (fun Q1 hQ1 => p_gF (ji := 4) rfl (fun v _ => p_pF (ji := 4) rfl (fun m2 h2 => p_ret (hQ1 _ ?_))))
  replace h2 : m2 = mS m1 2 4 _ := h2
  have f : ∀ b j : Int, ¬ b = 2 → ¬ (b = 3 ∧ j = 12) → mG m2 b j = mG m b j := fun b j x y => (st_ne h2 (by omega)).trans (st_ne h1 y)
  have e12 : mG m2 3 12 = t := (st_ne h2 (by omega)).trans (st_eq h1)
  have tt2 : TT ps t m2 := tt.of (fun b j b0 b1 => f b j (by omega) (by omega))
  refine p_gFc (ji := 5) rfl tt2.1.2.2.2.2.2.2 (p_ret (Or.inr ⟨ps, e, rfl, ?_, ?_, fun b j hb x y z => (f b j y z).trans (g b j hb x)⟩))
  · show 169 < mG m2 3 12
    rw [e12]; exact t1
  · show TT ps (mG m2 3 12) m2
    rw [e12]; exact tt2
/-- what the reference's reading changes -/
def CR9 (b j : Int) : Prop := b = 126 ∨ (b = 128 ∧ j = 0) ∨ (129 ≤ b ∧ b ≤ 130) ∨ (155 ≤ b ∧ b ≤ 159)
theorem r2_text {E : RE} (iM : I n M) (he : E9 E M) : pw (mX9_readText 126 M) (fun q => I n q.2 ∧ (∀ b j : Int, b ≤ (n : Int) → ¬ CR9 b j → mG q.2 b j = mG M b j) ∧ mG q.2 128 0 = 0 ∧ ((q.1 = 0 ∧ E.rText = none) ∨ (q.1 = 1 ∧ TXT q.2 ∧ ∃ ps, E.rText = some ps ∧ D9 ps q.2 ∧ mG q.2 126 40 = (ps.length : Int)))) := by
  refine p_mono (p_and (p_wp (s_X9_readText iM)) (p_and (pt_readText iM) (r_readText iM.ad he))) (fun q z => ?_)
  obtain ⟨⟨i, k, _⟩, ⟨t, z0, zj⟩, r⟩ := z
  refine ⟨i, fun b j hb hc => ?_, z0, ?_⟩
  · by_cases e : b = 128
    · subst e; exact zj j (fun y => hc (by unfold CR9; omega))
    · refine k.2.2 b j hb (fun z => hc ?_)
      unfold W_X9_readText at z
      unfold CR9
      rcases z with z | z | z | z | z | z | z | z | z | z | z | z | z <;> omega
  · rcases r with r | ⟨r, ps, r1, r2, r3, _⟩
    · exact Or.inl r
    · exact Or.inr ⟨r, t r, ps, r1, r2, r3⟩
theorem E9.of {E : RE} {M' : Mem} (h : E9 E M) (g : ∀ b j : Int, (b = 128 ∧ j = 0) ∨ b = 127 ∨ (134 ≤ b ∧ b ≤ 136) → mG M' b j = mG M b j) : E9 E M' := by
  obtain ⟨e1, e2, e3, e4, e5, e6⟩ := h
  refine ⟨(g _ _ (Or.inl ⟨rfl, rfl⟩)).trans e1, e2, fun i i0 i1 => ?_, (g _ _ (Or.inr (Or.inr (by decide)))).trans e4, e5, fun r r0 r1 => ?_⟩
  · rw [g 127 i (Or.inr (Or.inl rfl))]; exact e3 i i0 i1
  · rw [g 135 r (Or.inr (Or.inr (by decide))), g 136 r (Or.inr (Or.inr (by decide)))]; exact e6 r r0 r1
theorem r2_story {E : RE} (iM : I n M) (he : E9 E M) : pw (mX9_story 126 M) (fun q =>
    (mG M 138 0 = 8 ∧ q.1 = -2 ∧ mG q.2 128 0 = 0 ∧ ∀ b j : Int, ¬ CR9 b j → mG q.2 b j = mG M b j) ∨
    (¬ mG M 138 0 = 8 ∧ q.1 = -1 ∧ E.rText = none ∧ mG q.2 128 0 = 0 ∧ ∀ b j : Int, b ≤ (n : Int) → ¬ CR9 b j → mG q.2 b j = mG M b j) ∨
    (¬ mG M 138 0 = 8 ∧ q.1 = mG M 138 0 ∧ mG q.2 128 0 = 0 ∧ ∃ ps, E.rText = some ps ∧ RT ps (mG M 138 0) q.2 ∧ mG q.2 138 0 = mG M 138 0 + 1 ∧ mG q.2 139 (mG M 138 0) = mG M 131 0 ∧ mG q.2 140 (mG M 138 0) = -1 ∧ ∀ b j : Int, b ≤ (n : Int) → ¬ CR9 b j → ¬ (b = 138 ∧ j = 0) → ¬ (139 ≤ b ∧ b ≤ 141 ∧ j = mG M 138 0) → ¬ (142 ≤ b ∧ b ≤ 145 ∧ 40 * mG M 138 0 ≤ j ∧ j < 40 * mG M 138 0 + 40) → mG q.2 b j = mG M b j)) := by
  have hn : (169 : Int) ≤ (n : Int) := by have := iM.2.2.2.2.1; omega
  have r8 := rd_Mstories iM (a := 138) (i := 0) rfl
  obtain ⟨c, hc⟩ : ∃ c, mG M 138 0 = c := ⟨_, rfl⟩
  rw [hc] at r8 ⊢
  unfold mX9_story
  refine p_pF (ji := 0) rfl (fun M2 h2 => ?_)
  have i2 : I n M2 := wr_Model_0 iM rfl ⟨by omega, by omega⟩ h2
  have g2 : ∀ b j : Int, ¬ b = 126 → mG M2 b j = mG M b j := fun b j hb => st_ne h2 (fun z => hb z.1)
  refine p_gFc (ji := 12) rfl (rd_Model_12 i2 rfl) (p_aGc ((g2 138 0 (by decide)).trans hc) (p_if (fun c8 => ?_) (fun c8 => ?_)))
  · refine p_gFc (ji := 2) rfl (rd_Model_2 i2 rfl) (p_aS (fun M3 h3 => ?_))
    refine p_gFc (ji := 3) rfl ((st_ne h3 (by omega)).trans (rd_Model_3 i2 rfl)) (p_aS (fun M4 h4 => ?_))
    refine p_gFc (ji := 4) rfl ((st_ne h4 (by omega)).trans ((st_ne h3 (by omega)).trans (rd_Model_4 i2 rfl))) (p_aS (fun M5 h5 => p_ret (Or.inl ⟨c8, rfl, ?_, fun b j x => ?_⟩)))
    · show mG M5 128 0 = 0
      rw [st_ne h5 (by omega), st_ne h4 (by omega)]; exact st_eq h3
    · show mG M5 b j = _
      unfold CR9 at x
      rw [st_ne h5 (by omega), st_ne h4 (by omega), st_ne h3 (by omega)]; exact g2 b j (by omega)
  · refine p_gK (p_call (r2_text i2 (he.of (fun b j z => g2 b j (by omega)))) (fun r m h => ?_))
    obtain ⟨im, g, z0, h⟩ := h
    replace im : I n m := im
    replace g : ∀ b j : Int, b ≤ (n : Int) → ¬ CR9 b j → mG m b j = mG M2 b j := g
    replace z0 : mG m 128 0 = 0 := z0
    have gm : ∀ b j : Int, b ≤ (n : Int) → ¬ CR9 b j → mG m b j = mG M b j := fun b j hb x => (g b j hb x).trans (g2 b j (by unfold CR9 at x; omega))
    rcases h with ⟨h, e⟩ | ⟨h, tx, ps, e, d, e40⟩
    · exact p_it1 h (p_ret (Or.inr (Or.inl ⟨c8, rfl, e, z0, gm⟩)))
    · replace h : r = 1 := h
      subst h
      replace tx : TXT m := tx
      replace d : D9 ps m := d
      replace e40 : mG m 126 40 = (ps.length : Int) := e40
      have ec : mG m 138 0 = c := (gm 138 0 (by omega) (by unfold CR9; omega)).trans hc
      refine p_it0 (show ¬ (1 : Int) = 0 by decide) (p_gFc (ji := 12) rfl (rd_Model_12 im rfl) (p_aGc ec (p_gFc (ji := 12) rfl (rd_Model_12 im rfl) (p_aGc ec (p_aS (fun M3 h3 => p_gK ?_))))))
      rw [wI_id (x := c + 1) (by omega) (by omega)] at h3
      have i3 : I n M3 := wr_Mstories im rfl ⟨by omega, by omega⟩ h3
      have g3 : ∀ b j : Int, ¬ (b = 138 ∧ j = 0) → mG M3 b j = mG m b j := fun b j hb => st_ne h3 hb
      have t3 : TXT M3 := tx.of (g3 126 40 (by omega)) (fun b j b0 b1 => g3 b j (by omega))
      refine p_call (p_wp (x_keepText (t := c) (by omega) t3 i3)) (fun v m4 h4 => ?_)
      obtain ⟨i4, kt⟩ := h4
      replace i4 : I n m4 := i4
      replace kt : KT c (mG M3 126 40) M3 m4 := kt
      have rt : RT ps c m4 := kt.rt (d.kp (fun c' j c0 c1 _ => g3 c' j (by omega))) ((g3 126 40 (by omega)).trans e40)
      have u40 : mG M3 126 40 ≤ 40 := t3.2.1
      have g4 : ∀ b j : Int, ¬ (b = 141 ∧ j = c) → ¬ (142 ≤ b ∧ b ≤ 145 ∧ 40 * c ≤ j ∧ j < 40 * c + 40) → mG m4 b j = mG M3 b j := fun b j x y => by
        rw [kt.2.2, if_neg x, if_neg (fun z => y (by omega))]
      refine p_gFc (ji := 13) rfl (rd_Model_13 i4 rfl) (p_gFc (ji := 5) rfl (rd_Model_5 i4 rfl) (p_aGc (r := mG M 131 0) ?_ (p_aS (fun M5 h5 => ?_))))
      · rw [g4 131 0 (by omega) (by omega), g3 131 0 (by omega)]; exact gm 131 0 (by omega) (by unfold CR9; omega)
      refine p_gFc (ji := 14) rfl ((st_ne h5 (by omega)).trans (rd_Model_14 i4 rfl)) (p_aS (fun M6 h6 => p_ret ?_))
      have f : ∀ b j : Int, ¬ ((b = 139 ∨ b = 140) ∧ j = c) → mG M6 b j = mG m4 b j := fun b j x => (st_ne h6 (by omega)).trans (st_ne h5 (by omega))
      refine Or.inr (Or.inr ⟨c8, rfl, ?_, ps, e, ?_, ?_, ?_, st_eq h6, fun b j hb x y z w => ?_⟩)
      · show mG M6 128 0 = 0
        rw [f 128 0 (by omega), g4 128 0 (by omega) (by omega), g3 128 0 (by omega)]; exact z0
      · have hl : ps.length ≤ 40 := by
          have := rt.1
          have e1 : mG m4 141 c = mG M3 126 40 := by rw [kt.2.2, if_pos ⟨rfl, rfl⟩]
          omega
        exact rt.of hl (f 141 c (by omega)) (fun c' j c0 c1 _ _ => f c' _ (by omega))
      · show mG M6 138 0 = _
        rw [f 138 0 (by omega), g4 138 0 (by omega) (by omega)]; exact st_eq h3
      · show mG M6 139 c = _
        rw [st_ne h6 (by omega)]; exact st_eq h5
      · show mG M6 b j = _
        rw [f b j (by omega), g4 b j (by omega) w, g3 b j y]; exact gm b j hb x
theorem r2_guess {E : RE} (iM : I n M) (he : E9 E M) : pw (mX9_guess 126 M) (fun q =>
    (q.1 = -1 ∧ E.rText = none ∧ mG q.2 128 0 = 0 ∧ ∀ b j : Int, b ≤ (n : Int) → ¬ CR9 b j → mG q.2 b j = mG M b j) ∨
    (mG q.2 128 0 = 0 ∧ ∃ ps, E.rText = some ps ∧ q.1 = (ps.length : Int) ∧ RT ps 8 q.2 ∧ ∀ b j : Int, b ≤ (n : Int) → ¬ CR9 b j → ¬ (b = 141 ∧ j = 8) → ¬ (142 ≤ b ∧ b ≤ 145 ∧ 320 ≤ j ∧ j < 360) → mG q.2 b j = mG M b j)) := by
  have hn : (169 : Int) ≤ (n : Int) := by have := iM.2.2.2.2.1; omega
  unfold mX9_guess
  refine p_pF (ji := 0) rfl (fun M2 h2 => ?_)
  have i2 : I n M2 := wr_Model_0 iM rfl ⟨by omega, by omega⟩ h2
  have g2 : ∀ b j : Int, ¬ b = 126 → mG M2 b j = mG M b j := fun b j hb => st_ne h2 (fun z => hb z.1)
  refine p_gK (p_call (r2_text i2 (he.of (fun b j z => g2 b j (by omega)))) (fun r m h => ?_))
  obtain ⟨im, g, z0, h⟩ := h
  replace im : I n m := im
  replace g : ∀ b j : Int, b ≤ (n : Int) → ¬ CR9 b j → mG m b j = mG M2 b j := g
  replace z0 : mG m 128 0 = 0 := z0
  have gm : ∀ b j : Int, b ≤ (n : Int) → ¬ CR9 b j → mG m b j = mG M b j := fun b j hb x => (g b j hb x).trans (g2 b j (by unfold CR9 at x; omega))
  rcases h with ⟨h, e⟩ | ⟨h, tx, ps, e, d, e40⟩
  · exact p_it1 h (p_ret (Or.inl ⟨rfl, e, z0, gm⟩))
  · replace h : r = 1 := h
    subst h
    replace tx : TXT m := tx
    replace d : D9 ps m := d
    replace e40 : mG m 126 40 = (ps.length : Int) := e40
    refine p_it0 (show ¬ (1 : Int) = 0 by decide) (p_gK (p_call (p_wp (x_keepText (t := 8) (by omega) tx im)) (fun v m4 h4 => ?_)))
    obtain ⟨i4, kt⟩ := h4
    replace kt : KT 8 (mG m 126 40) m m4 := kt
    have rt : RT ps 8 m4 := kt.rt d e40
    have u40 : mG m 126 40 ≤ 40 := tx.2.1
    have g4 : ∀ b j : Int, ¬ (b = 141 ∧ j = 8) → ¬ (142 ≤ b ∧ b ≤ 145 ∧ 320 ≤ j ∧ j < 360) → mG m4 b j = mG m b j := fun b j x y => by
      rw [kt.2.2, if_neg x, if_neg (fun z => y (by omega))]
    refine p_gFc (ji := 40) rfl ((g4 126 40 (by omega) (by omega)).trans e40) (p_ret (Or.inr ⟨?_, ps, e, rfl, rt, fun b j hb x y z => (g4 b j y z).trans (gm b j hb x)⟩))
    show mG m4 128 0 = 0
    rw [g4 128 0 (by omega) (by omega)]; exact z0
end
section
variable {M : Mem}
/-- both sides read of the same -/
theorem J2.e9 {M1 : Mem} (h : J2 M) (g : ∀ b j : Int, 126 ≤ b → b ≤ 169 → mG M1 b j = mG M b j) : E9 (eC M) M1 := by
  obtain ⟨⟨iM, _, rl⟩, rel⟩ := h
  have s0 := (rl.1 0 (by decide) (by decide) (Or.inl rfl)).z
  have sa := (rel 0 (by decide) (by decide) (Or.inl rfl)).1
  have r5 := rd_Told_5 iM (a := 3) rfl
  have r6 := rd_Shape_6 iM (a := 4) rfl
  refine ⟨(g 128 0 (by decide) (by decide)).trans s0.2.2.2.2.1.symm, r5, fun i i0 i1 => ?_, (g 134 0 (by decide) (by decide)).trans s0.2.1.symm, r6, fun r r0 r1 => ?_⟩
  · have i1 : i < mG M 3 5 := i1
    rw [g 127 i (by decide) (by decide)]
    have := sa i i0 (by rw [← s0.2.2.2.2.1]; exact i1)
    rw [sOf0, show 400 * (0 : Int) + i = i by omega] at this
    exact this.symm
  · have r1 : r < mG M 4 6 := r1
    have := s0.2.2.1 r r0 (by rw [← s0.2.1]; exact r1)
    rw [g 135 r (by decide) (by decide), g 136 r (by decide) (by decide)]
    exact ⟨this.1.symm, this.2.symm⟩
theorem J2.ty {ps : List Row} {M2 : Mem} (h : J2 M) (e : (eC M).rText = some ps) (g : ∀ b j : Int, 134 ≤ b → b ≤ 136 → mG M2 b j = mG M b j) : ty (mG M2 134 0) (fun r => mG M2 135 (4 * 0 + r)) (fun r => mG M2 136 (4 * 0 + r)) [(0, 255)] ps := by
  obtain ⟨⟨iM, _, rl⟩, rel⟩ := h
  have s0 := (rl.1 0 (by decide) (by decide) (Or.inl rfl)).z
  have r5 := rd_Told_5 iM (a := 3) rfl
  have r6 := rd_Shape_6 iM (a := 4) rfl
  have t := rText_ty (E := eC M) r6.1 r5.2 e
  refine ty.mono (Int.le_of_eq ?_) (fun r r0 r1 => ?_) _ _ t
  · show mG M 4 6 = _
    rw [g 134 0 (by decide) (by decide)]; exact s0.2.1
  · have r1 : r < mG M 4 6 := r1
    have := s0.2.2.1 r r0 (by rw [← s0.2.1]; exact r1)
    show mG M2 135 (4 * 0 + r) = mG M 6 r ∧ mG M2 136 (4 * 0 + r) = mG M 7 r
    rw [show 4 * (0 : Int) + r = r by omega, g 135 r (by decide) (by decide), g 136 r (by decide) (by decide)]
    exact ⟨this.1.symm, this.2.symm⟩
theorem j2_story (h : J2 M) : wp (mX8_story 1 M) (fun q1 => wp (mX9_story 126 q1.2) (fun q2 => J2 q2.2 ∧ EQ q1 q2)) := by
  have hh := h
  obtain ⟨⟨iM, _, rl⟩, rel⟩ := h
  have s0 := (rl.1 0 (by decide) (by decide) (Or.inl rfl)).z
  obtain ⟨sa, sb, sc, sd, se⟩ := rel 0 (by decide) (by decide) (Or.inl rfl)
  have e11 : mG M 3 11 = mG M 138 0 := sb.1
  have r11 := rd_Told_11 iM (a := 3) rfl
  have hn := iM.2.2.2.2.1
  refine w_mono (w_and4 (M := M) (B := fun q1 q2 => Rel2 q2.2 ∧ EQ q1 q2) (j_story hh.1) ?_) (fun q1 z => w_mono z (fun q2 y => ⟨⟨y.1, y.2.1⟩, y.2.2⟩))
  refine p_mono (p_and (p_wp (s_X8_story iM)) (p2_story iM)) ?_
  rintro ⟨a, M1⟩ ⟨⟨⟨n1, hn1, i1, k1, -⟩, -⟩, h1⟩
  replace i1 : I n1 M1 := i1
  replace k1 : Keep (mN M) W_X8_story M M1 := k1
  have e9 : ∀ b j : Int, 126 ≤ b → b ≤ 169 → mG M1 b j = mG M b j := fun b j b0 b1 => k1.2.2 b j (by omega) (fun z => by
    unfold W_X8_story at z
    rcases z with z | z | z | z | z | z | z | z | z | z | z | z | z | z | z | z | z | z <;> omega)
  refine p_mono (r2_story i1 (hh.e9 e9)) ?_
  rintro ⟨b, M2⟩ h2 -
  show Rel2 M2 ∧ a = b
  rw [e9 138 0 (by decide) (by decide), e9 131 0 (by decide) (by decide)] at h2
  rw [← e11] at h2
  obtain ⟨c, hc⟩ : ∃ c, c = mG M 3 11 := ⟨_, rfl⟩
  rw [← hc] at h1 h2 e11 r11
  have zz : ∀ M2 : Mem, mG M2 128 0 = 0 → Sa 0 M2 := fun M2 z j j0 j1 => by rw [z] at j1; omega
  rcases h1 with ⟨pc, p1, p2⟩ | ⟨pc, p1, p2, p3⟩ | ⟨pc, p1, ps, p2, p3, p4, p5, p6, p7, p8⟩
  · rcases h2 with ⟨qc, q1, q2, q3⟩ | ⟨qc, _⟩ | ⟨qc, _⟩
    · replace p1 : a = -2 := p1
      replace q1 : b = -2 := q1
      replace q2 : mG M2 128 0 = 0 := q2
      replace p2 : ∀ b j : Int, ¬ CR b j → mG M1 b j = mG M b j := p2
      replace q3 : ∀ b j : Int, ¬ CR9 b j → mG M2 b j = mG M1 b j := q3
      refine ⟨?_, p1.trans q1.symm⟩
      have g : ∀ b j : Int, ¬ (CR b j ∨ CR9 b j) → mG M2 b j = mG M b j := fun b j z => (q3 b j (fun y => z (Or.inr y))).trans (p2 b j (fun y => z (Or.inl y)))
      have e134 : mG M2 134 0 = mG M 134 0 := g 134 0 (by unfold CR CR9; omega)
      have gr : ∀ b j : Int, ZR M b j → mG M2 b j = mG M b j := fun b j z => g b j (by unfold ZR at z; unfold CR CR9; omega)
      exact rel.ch iM _ g ⟨zz M2 q2, sb.z iM (fun b j z => g b j (by unfold ZB at z; unfold CR CR9; omega)) (Int.le_of_eq e134.symm) gr, sc.z iM (fun b j z => g b j (by unfold ZC at z; unfold CR CR9; omega)) (Int.le_of_eq e134.symm) gr, sd.z iM (fun b j z => g b j (by unfold ZD at z; unfold CR CR9; omega)), se.z (fun b j z => g b j (by unfold ZE at z; unfold CR CR9; omega))⟩ (fun b j z => by unfold CR CR9 at z; omega)
    · exfalso; omega
    · exfalso; omega
  · rcases h2 with ⟨qc, _⟩ | ⟨qc, q1, q2, q3, q4⟩ | ⟨qc, _, _, ps, q2, _⟩
    · exfalso; omega
    · replace p1 : a = -1 := p1
      replace q1 : b = -1 := q1
      replace q3 : mG M2 128 0 = 0 := q3
      replace p3 : ∀ b j : Int, b ≤ ((mN M : Nat) : Int) → ¬ CR b j → mG M1 b j = mG M b j := p3
      replace q4 : ∀ b j : Int, b ≤ (n1 : Int) → ¬ CR9 b j → mG M2 b j = mG M1 b j := q4
      refine ⟨?_, p1.trans q1.symm⟩
      have g : ∀ b j : Int, ¬ (CR b j ∨ CR9 b j ∨ ((mN M : Nat) : Int) < b) → mG M2 b j = mG M b j := fun b j z => (q4 b j (by omega) (fun y => z (Or.inr (Or.inl y)))).trans (p3 b j (by omega) (fun y => z (Or.inl y)))
      have e134 : mG M2 134 0 = mG M 134 0 := g 134 0 (by unfold CR CR9; omega)
      have gr : ∀ b j : Int, ZR M b j → mG M2 b j = mG M b j := fun b j z => g b j (by unfold ZR at z; unfold CR CR9; omega)
      exact rel.ch iM _ g ⟨zz M2 q3, sb.z iM (fun b j z => g b j (by unfold ZB at z; unfold CR CR9; omega)) (Int.le_of_eq e134.symm) gr, sc.z iM (fun b j z => g b j (by unfold ZC at z; unfold CR CR9; omega)) (Int.le_of_eq e134.symm) gr, sd.z iM (fun b j z => g b j (by unfold ZD at z; unfold CR CR9; omega)), se.z (fun b j z => g b j (by unfold ZE at z; unfold CR CR9; omega))⟩ (fun b j z => by unfold CR CR9 at z; omega)
    · rw [p2] at q2; cases q2
  · rcases h2 with ⟨qc, _⟩ | ⟨_, _, q2, _⟩ | ⟨qc, q1, q0, ps2, q2, q3, q4, q5, q6, q7⟩
    · exfalso; omega
    · rw [p2] at q2; cases q2
    rw [p2] at q2
    obtain rfl := Option.some.inj q2
    replace p1 : a = c := p1
    replace q1 : b = c := q1
    refine ⟨?_, p1.trans q1.symm⟩
    replace q0 : mG M2 128 0 = 0 := q0
    replace p3 : 169 < mG M1 14 c := p3
    replace p4 : TT ps (mG M1 14 c) M1 := p4
    replace p5 : mG M1 15 c = mG M 3 13 := p5
    replace p6 : mG M1 16 c = -1 := p6
    replace p7 : mG M1 3 11 = c + 1 := p7
    replace p8 : ∀ b j : Int, b ≤ ((mN M : Nat) : Int) → ¬ CR b j → ¬ (14 ≤ b ∧ b ≤ 16 ∧ j = c) → ¬ (b = 3 ∧ j = 11) → mG M1 b j = mG M b j := p8
    replace q3 : RT ps c M2 := q3
    replace q4 : mG M2 138 0 = c + 1 := q4
    replace q5 : mG M2 139 c = mG M 131 0 := q5
    replace q6 : mG M2 140 c = -1 := q6
    replace q7 : ∀ b j : Int, b ≤ (n1 : Int) → ¬ CR9 b j → ¬ (b = 138 ∧ j = 0) → ¬ (139 ≤ b ∧ b ≤ 141 ∧ j = c) → ¬ (142 ≤ b ∧ b ≤ 145 ∧ 40 * c ≤ j ∧ j < 40 * c + 40) → mG M2 b j = mG M1 b j := q7
    have g : ∀ b j : Int, ¬ (CR b j ∨ CR9 b j ∨ ((mN M : Nat) : Int) < b ∨ (14 ≤ b ∧ b ≤ 16 ∧ j = c) ∨ (b = 3 ∧ j = 11) ∨ (b = 138 ∧ j = 0) ∨ (139 ≤ b ∧ b ≤ 141 ∧ j = c) ∨ (142 ≤ b ∧ b ≤ 145 ∧ 40 * c ≤ j ∧ j < 40 * c + 40)) → mG M2 b j = mG M b j := fun b j z =>
      (q7 b j (by omega) (fun y => z (Or.inr (Or.inl y))) (fun y => z (by omega)) (fun y => z (by omega)) (fun y => z (by omega))).trans (p8 b j (by omega) (fun y => z (Or.inl y)) (fun y => z (by omega)) (fun y => z (by omega)))
    have nx : ∀ b j : Int, b ≤ 125 → mG M2 b j = mG M1 b j := fun b j hb => q7 b j (by omega) (by unfold CR9; omega) (by omega) (by omega) (by omega)
    have e134 : mG M2 134 0 = mG M 134 0 := g 134 0 (by unfold CR CR9; omega)
    have gr : ∀ b j : Int, ZR M b j → mG M2 b j = mG M b j := fun b j z => g b j (by unfold ZR at z; unfold CR CR9; omega)
    have g46 : ∀ b j : Int, 134 ≤ b → b ≤ 136 → mG M2 b j = mG M b j := fun b j b0 b1 => g b j (by unfold CR CR9; omega)
    refine rel.ch iM _ g ⟨zz M2 q0, ⟨?_, fun s s0' s1 => ?_⟩, sc.z iM (fun b j z => g b j (by unfold ZC at z; unfold CR CR9; omega)) (Int.le_of_eq e134.symm) gr, sd.z iM (fun b j z => g b j (by unfold ZD at z; unfold CR CR9; omega)), se.z (fun b j z => g b j (by unfold ZE at z; unfold CR CR9; omega))⟩ (fun b j z => by unfold CR CR9 at z; omega)
    · rw [sOf0, nx 3 11 (by decide), q4]; exact p7
    · rw [q4] at s1
      by_cases e : s = c
      · subst e
        rw [sOf0, show 8 * (0 : Int) + s = s by omega]
        refine ⟨?_, ?_, ?_⟩
        · show mG M2 15 s = _
          rw [nx 15 s (by decide), q5, p5]; exact s0.2.2.2.2.2.1
        · show mG M2 16 s = _
          rw [nx 16 s (by decide), q6, p6]
        · show TXR 0 (mG M2 14 s) (9 * 0 + s) M2
          rw [nx 14 s (by decide), show 9 * (0 : Int) + s = s by omega]
          refine ⟨by omega, ps, p4.of (fun b j b0 b1 => q7 b j ?_ (by unfold CR9; omega) (by omega) (by omega) (by omega)), q3, hh.ty p2 g46⟩
          have := tx_at (i := 0) i1 (by decide) (by decide) s0' (by omega) (by show ¬ mG M1 14 s = 0; omega)
          have t2 : mG M1 14 s + 5 ≤ (n1 : Int) := this.2
          omega
      · obtain ⟨x1, x2, x3⟩ := sb.2 s s0' (by omega)
        rw [sOf0, show 8 * (0 : Int) + s = s by omega] at x1 x2
        rw [sOf0] at x3
        rw [sOf0, show 8 * (0 : Int) + s = s by omega, g (3 + 12) s (by unfold CR CR9; omega), g (3 + 13) s (by unfold CR CR9; omega), g (3 + 11) s (by unfold CR CR9; omega), g 139 s (by unfold CR CR9; omega), g 140 s (by unfold CR CR9; omega)]
        refine ⟨x1, x2, x3.go (n := mN M) (tx_at (i := 0) iM (by decide) (by decide) s0' (by omega) x3.1) (fun b j b0 b1 => g b j (by unfold CR CR9; omega)) (g 141 _ (by unfold CR CR9; omega)) (fun c' j c0 c1 j0 j1 => g c' _ (by unfold CR CR9; omega)) (Int.le_of_eq e134.symm) (fun c' r c0 c1 r0 r1 => g c' _ (by unfold CR CR9; omega))⟩
theorem j2_guess (h : J2 M) : wp (mX8_guess 1 M) (fun q1 => wp (mX9_guess 126 q1.2) (fun q2 => J2 q2.2 ∧ EQ q1 q2)) := by
  have hh := h
  obtain ⟨⟨iM, _, rl⟩, rel⟩ := h
  have s0 := (rl.1 0 (by decide) (by decide) (Or.inl rfl)).z
  obtain ⟨sa, sb, sc, sd, se⟩ := rel 0 (by decide) (by decide) (Or.inl rfl)
  have hn := iM.2.2.2.2.1
  refine w_mono (w_and4 (M := M) (B := fun q1 q2 => Rel2 q2.2 ∧ EQ q1 q2) (j_guess hh.1) ?_) (fun q1 z => w_mono z (fun q2 y => ⟨⟨y.1, y.2.1⟩, y.2.2⟩))
  refine p_mono (p_and (p_wp (s_X8_guess iM)) (p2_guess iM)) ?_
  rintro ⟨a, M1⟩ ⟨⟨⟨n1, hn1, i1, k1, -⟩, -⟩, h1⟩
  replace i1 : I n1 M1 := i1
  replace k1 : Keep (mN M) W_X8_guess M M1 := k1
  have e9 : ∀ b j : Int, 126 ≤ b → b ≤ 169 → mG M1 b j = mG M b j := fun b j b0 b1 => k1.2.2 b j (by omega) (fun z => by
    unfold W_X8_guess at z
    rcases z with z | z | z | z | z | z | z | z | z | z | z | z | z | z | z | z | z | z <;> omega)
  refine p_mono (r2_guess i1 (hh.e9 e9)) ?_
  rintro ⟨b, M2⟩ h2 -
  show Rel2 M2 ∧ a = b
  have zz : ∀ M2 : Mem, mG M2 128 0 = 0 → Sa 0 M2 := fun M2 z j j0 j1 => by rw [z] at j1; omega
  rcases h1 with ⟨p1, p2, p3⟩ | ⟨ps, p2, p1, p3, p4, p8⟩
  · rcases h2 with ⟨q1, q2, q3, q4⟩ | ⟨_, ps, q2, _⟩
    · replace p1 : a = -1 := p1
      replace q1 : b = -1 := q1
      replace q3 : mG M2 128 0 = 0 := q3
      replace p3 : ∀ b j : Int, b ≤ ((mN M : Nat) : Int) → ¬ CR b j → mG M1 b j = mG M b j := p3
      replace q4 : ∀ b j : Int, b ≤ (n1 : Int) → ¬ CR9 b j → mG M2 b j = mG M1 b j := q4
      refine ⟨?_, p1.trans q1.symm⟩
      have g : ∀ b j : Int, ¬ (CR b j ∨ CR9 b j ∨ ((mN M : Nat) : Int) < b) → mG M2 b j = mG M b j := fun b j z => (q4 b j (by omega) (fun y => z (Or.inr (Or.inl y)))).trans (p3 b j (by omega) (fun y => z (Or.inl y)))
      have e134 : mG M2 134 0 = mG M 134 0 := g 134 0 (by unfold CR CR9; omega)
      have gr : ∀ b j : Int, ZR M b j → mG M2 b j = mG M b j := fun b j z => g b j (by unfold ZR at z; unfold CR CR9; omega)
      exact rel.ch iM _ g ⟨zz M2 q3, sb.z iM (fun b j z => g b j (by unfold ZB at z; unfold CR CR9; omega)) (Int.le_of_eq e134.symm) gr, sc.z iM (fun b j z => g b j (by unfold ZC at z; unfold CR CR9; omega)) (Int.le_of_eq e134.symm) gr, sd.z iM (fun b j z => g b j (by unfold ZD at z; unfold CR CR9; omega)), se.z (fun b j z => g b j (by unfold ZE at z; unfold CR CR9; omega))⟩ (fun b j z => by unfold CR CR9 at z; omega)
    · rw [p2] at q2; cases q2
  · rcases h2 with ⟨_, q2, _⟩ | ⟨q0, ps2, q2, q1, q3, q7⟩
    · rw [p2] at q2; cases q2
    rw [p2] at q2
    obtain rfl := Option.some.inj q2
    replace p1 : a = (ps.length : Int) := p1
    replace q1 : b = (ps.length : Int) := q1
    refine ⟨?_, p1.trans q1.symm⟩
    replace q0 : mG M2 128 0 = 0 := q0
    replace p3 : 169 < mG M1 3 12 := p3
    replace p4 : TT ps (mG M1 3 12) M1 := p4
    replace p8 : ∀ b j : Int, b ≤ ((mN M : Nat) : Int) → ¬ CR b j → ¬ b = 2 → ¬ (b = 3 ∧ j = 12) → mG M1 b j = mG M b j := p8
    replace q3 : RT ps 8 M2 := q3
    replace q7 : ∀ b j : Int, b ≤ (n1 : Int) → ¬ CR9 b j → ¬ (b = 141 ∧ j = 8) → ¬ (142 ≤ b ∧ b ≤ 145 ∧ 320 ≤ j ∧ j < 360) → mG M2 b j = mG M1 b j := q7
    have g : ∀ b j : Int, ¬ (CR b j ∨ CR9 b j ∨ ((mN M : Nat) : Int) < b ∨ b = 2 ∨ (b = 3 ∧ j = 12) ∨ (b = 141 ∧ j = 8) ∨ (142 ≤ b ∧ b ≤ 145 ∧ 320 ≤ j ∧ j < 360)) → mG M2 b j = mG M b j := fun b j z =>
      (q7 b j (by omega) (fun y => z (Or.inr (Or.inl y))) (fun y => z (by omega)) (fun y => z (by omega))).trans (p8 b j (by omega) (fun y => z (Or.inl y)) (fun y => z (by omega)) (fun y => z (by omega)))
    have nx : ∀ b j : Int, b ≤ 125 → mG M2 b j = mG M1 b j := fun b j hb => q7 b j (by omega) (by unfold CR9; omega) (by omega) (by omega)
    have e134 : mG M2 134 0 = mG M 134 0 := g 134 0 (by unfold CR CR9; omega)
    have gr : ∀ b j : Int, ZR M b j → mG M2 b j = mG M b j := fun b j z => g b j (by unfold ZR at z; unfold CR CR9; omega)
    have g46 : ∀ b j : Int, 134 ≤ b → b ≤ 136 → mG M2 b j = mG M b j := fun b j b0 b1 => g b j (by unfold CR CR9; omega)
    refine rel.ch iM _ g ⟨zz M2 q0, sb.z iM (fun b j z => g b j (by unfold ZB at z; unfold CR CR9; omega)) (Int.le_of_eq e134.symm) gr, Or.inr ?_, sd.z iM (fun b j z => g b j (by unfold ZD at z; unfold CR CR9; omega)), se.z (fun b j z => g b j (by unfold ZE at z; unfold CR CR9; omega))⟩ (fun b j z => by unfold CR CR9 at z; omega)
    show TXR 0 (mG M2 3 12) 8 M2
    rw [nx 3 12 (by decide)]
    refine ⟨by omega, ps, p4.of (fun b j b0 b1 => q7 b j ?_ (by unfold CR9; omega) (by omega) (by omega)), q3, hh.ty p2 g46⟩
    have := tx_gu (i := 0) i1 (by decide) (by decide) (by show ¬ mG M1 3 12 = 0; omega)
    have t2 : mG M1 3 12 + 5 ≤ (n1 : Int) := this.2
    omega
end
end
section
/-! ===== images: what holds of slots goes with them ===== -/
/-- all cells of a slot -/
def VF (n : Nat) (i b j : Int) : Prop := (sOf i ≤ b ∧ b ≤ sOf i + 16) ∨ (169 < b ∧ b ≤ (n : Int)) ∨ (b ∈ L25 ∧ rlen b * i ≤ j ∧ j < rlen b * i + rlen b)
def alive (i : Int) (M : Mem) : Prop := 0 ≤ i ∧ i < 4 ∧ (i = 0 ∨ mG M 169 (i - 1) = 1)
/-- slot i' of M' is slot i of M -/
def CPY (n : Nat) (i i' : Int) (M M' : Mem) : Prop := (∀ b j : Int, 169 < b → b ≤ (n : Int) → mG M' b j = mG M b j) ∧ LO (sOf i' + 1) M' ∧ mG M' (sOf i' + 1) 6 = mG M (sOf i + 1) 6 ∧ (∀ j : Int, tfld j = true → mG M' (sOf i') j = mG M (sOf i) j) ∧ (∀ d j : Int, 0 ≤ j → j < tlen d → mG M' (sOf i' + d) j = mG M (sOf i + d) j) ∧ ∀ b N j : Int, b ∈ L25 → rlen b = N → 0 ≤ j → j < N → mG M' b (N * i' + j) = mG M b (N * i + j)
theorem rlen_pos {b : Int} (h : b ∈ L25) : 1 ≤ rlen b ∧ rlen b ≤ 400 := L25_c (P := fun b => 1 ≤ rlen b ∧ rlen b ≤ 400) h (by decide) (by decide) (by decide) (by decide) (by decide) (by decide) (by decide) (by decide) (by decide) (by decide) (by decide) (by decide) (by decide) (by decide) (by decide) (by decide) (by decide) (by decide) (by decide) (by decide) (by decide) (by decide) (by decide) (by decide) (by decide)
theorem oth_slot {N i i' j : Int} (hN : 0 ≤ N) (h : ¬ i = i') (h0 : N * i ≤ j) (h1 : j < N * i + N) : j < N * i' ∨ N * i' + N ≤ j := by
  by_cases c : i < i'
  · have a : N * (i + 1) ≤ N * i' := Int.mul_le_mul_of_nonneg_left (by omega) hN
    rw [Int.mul_add] at a
    omega
  · have a : N * (i' + 1) ≤ N * i := Int.mul_le_mul_of_nonneg_left (by omega) hN
    rw [Int.mul_add] at a
    omega
theorem tlen_in {d j : Int} (j0 : 0 ≤ j) (h : j < tlen d) : 0 ≤ d ∧ d ≤ 16 := by
  unfold tlen at h
  split at h <;> omega
section
variable {M : Mem} {l : Int} {P : Int → Mem → Prop}
theorem img_gen (r1 : (-2147483648) ≤ l ∧ l ≤ 2147483647) (h : J M) (hP : ∀ i, alive i M → P i M) (hc : ∀ i i' M', 0 ≤ i → i < 4 → P i M → CPY (mN M) i i' M M' → P i' M') (hf : ∀ i M', 0 ≤ i → i < 4 → P i M → (∀ b j : Int, VF (mN M) i b j → mG M' b j = mG M b j) → P i M') : pw (mX8_image 1 l M) (fun q1 => pw (mX9_image 126 l q1.2) (fun q2 => EQ q1 q2 → ∀ i, alive i q2.2 → P i q2.2)) := by
  obtain ⟨iM, wf, rel⟩ := h
  refine p_mono (p_and (p_wp (s_X8_image r1 iM)) (pl_image iM)) ?_
  rintro ⟨a, M1⟩ ⟨⟨i1, k1, -⟩, h1⟩
  replace i1 : I (mN M) M1 := i1
  have hn : (169 : Int) ≤ ((mN M : Nat) : Int) := by have := iM.2.2.2.2.1; omega
  refine p_mono (p_wp (x_image i1)) ?_
  rintro ⟨b, M2⟩ ⟨N1, hN1, h2⟩ eq
  replace eq : a = b := eq
  show ∀ i, alive i M2 → P i M2
  have gN : ∀ b j : Int, ¬ b = 126 → mG N1 b j = mG M1 b j := fun b j hb => st_ne hN1 (fun z => hb z.1)
  rcases h1 with ⟨p1, p2, p3⟩ | ⟨p1, p2, Mx, c, p3⟩
  · replace p1 : a = 0 := p1
    replace p3 : M1 = M := p3
    subst p3
    rcases h2 with ⟨q1, q2, q3⟩ | ⟨q1, q2, q3⟩
    · replace q3 : M2 = N1 := q3
      intro i hi
      have e169 : ∀ j, mG M2 169 j = mG M1 169 j := fun j => by rw [q3]; exact gN 169 j (by decide)
      have hi2 : alive i M1 := ⟨hi.1, hi.2.1, by rw [← e169]; exact hi.2.2⟩
      refine hf i M2 hi.1 hi.2.1 (hP i hi2) (fun b j z => ?_)
      rw [q3]
      refine gN b j (fun e => ?_)
      subst e
      rcases z with z | z | z
      · have h4 := hi.2.1
        rcases sOf_c hi.1 hi.2.1 with ⟨x1, x2⟩ | ⟨x1, x2⟩ <;> rw [x2] at z <;> omega
      · omega
      · exact absurd z.1 (by decide)
    · exact absurd q2 p2
  · replace p1 : a = 1 := p1
    replace p3 : M1 = mS Mx 74 l 1 := p3
    rcases h2 with ⟨q1, q2, q3⟩ | ⟨q1, q2, M3, d, q3⟩
    · exact absurd p2 q2
    replace q3 : M2 = mS M3 169 l 1 := q3
    obtain ⟨lo, c6, cf, cr, cfr⟩ := c
    have gx : ∀ b j : Int, ¬ b = 74 → mG M1 b j = mG Mx b j := fun b j hb => st_ne p3 (fun z => hb z.1)
    have g2 : ∀ b j : Int, ¬ b = 169 → mG M2 b j = mG M3 b j := fun b j hb => st_ne q3 (fun z => hb z.1)
    have e9 : ∀ b j : Int, 126 ≤ b → mG M1 b j = mG M b j := fun b j b0 => (gx b j (by omega)).trans (cfr b j (by omega))
    have d8 : ∀ b j : Int, ¬ (127 ≤ b ∧ b ≤ 151) → ¬ b = 169 → ¬ b = 126 → mG M2 b j = mG M1 b j := fun b j hb h9 h6 => by
      rw [g2 b j h9, d.at (fun z => by have := L25_m z; omega), gN b j h6]
    have c8 : ∀ b j : Int, b ≤ 125 → ¬ b = 74 → mG M2 b j = mG Mx b j := fun b j hb hc => (d8 b j (by omega) (by omega) (by omega)).trans (gx b j hc)
    have c9 : ∀ b j : Int, 127 ≤ b → b ≤ 151 → mG N1 b j = mG M b j := fun b j b0 b1 => (gN b j (by omega)).trans (e9 b j (by omega))
    have k169 : ∀ j : Int, ¬ j = l → mG M2 169 j = mG M 169 j := fun j hj => by
      rw [st_ne q3 (fun z => hj z.2), d.at (by decide), gN 169 j (by decide), e9 169 j (by decide)]
    have gt : ∀ b j : Int, 169 < b → b ≤ ((mN M : Nat) : Int) → mG M2 b j = mG M b j := fun b j b0 b1 => (d8 b j (by omega) (by omega) (by omega)).trans (e9 b j (by omega))
    intro i hi
    by_cases e : i = l + 1
    · subst e
      refine hc 0 (l + 1) M2 (by decide) (by decide) (hP 0 ⟨by decide, by decide, Or.inl rfl⟩) ⟨gt, ?_, ?_, fun j hj => ?_, fun d' j j0 j1 => ?_, fun b N j hb hN j0 j1 => ?_⟩
      · rw [sOf_s l p2.1]
        exact lo.of (fun b j b0 b1 => c8 b j (by omega) (by omega))
      · rw [sOf_s l p2.1, c8 _ _ (by omega) (by omega)]; exact c6
      · rw [sOf_s l p2.1, c8 _ _ (by omega) (by omega)]; exact cf j hj
      · have hd := tlen_in j0 j1
        rw [sOf_s l p2.1, c8 _ _ (by omega) (by omega)]; exact cr d' j j0 j1
      · have hb' := L25_m hb
        rw [g2 b _ (by omega), d.get hb hN j0 j1]
        exact c9 b _ (by omega) (by omega)
    · have hi' : alive i M := ⟨hi.1, hi.2.1, by
        rcases hi.2.2 with y | y
        · exact Or.inl y
        · rw [k169 _ (by omega)] at y; exact Or.inr y⟩
      refine hf i M2 hi.1 hi.2.1 (hP i hi') (fun b j z => ?_)
      rcases z with z | z | z
      · have hb : b ≤ 125 ∧ ¬ (75 + 17 * l ≤ b ∧ b ≤ 75 + 17 * l + 16) ∧ ¬ b = 74 := by
          rcases sOf_c hi.1 hi.2.1 with ⟨x1, x2⟩ | ⟨x1, x2⟩
          · rw [x2] at z; omega
          · have := hi.2.1
            rw [x2] at z
            have : i ≤ l ∨ l + 2 ≤ i := by omega
            omega
        rw [c8 b j hb.1 hb.2.2]
        exact cfr b j hb.2.1
      · exact gt b j z.1 z.2
      · obtain ⟨hb, z0, z1⟩ := z
        have hb' := L25_m hb
        rw [g2 b j (by omega), d.oth (N := rlen b) rfl (oth_slot (by have := rlen_pos hb; omega) e z0 z1)]
        exact c9 b j (by omega) (by omega)
theorem aga_gen (r1 : (-2147483648) ≤ l ∧ l ≤ 2147483647) (h : J M) (hP : ∀ i, alive i M → P i M) (hc : ∀ i i' M', 0 ≤ i → i < 4 → P i M → CPY (mN M) i i' M M' → P i' M') (hf : ∀ i M', 0 ≤ i → i < 4 → P i M → (∀ b j : Int, VF (mN M) i b j → mG M' b j = mG M b j) → P i M') : pw (mX8_again 1 l M) (fun q1 => pw (mX9_again 126 l q1.2) (fun q2 => EQ q1 q2 → ∀ i, alive i q2.2 → P i q2.2)) := by
  obtain ⟨iM, wf, rel⟩ := h
  refine p_mono (p_and (p_wp (s_X8_again r1 iM)) (pl_again iM)) ?_
  rintro ⟨a, M1⟩ ⟨⟨i1, k1, -⟩, h1⟩
  replace i1 : I (mN M) M1 := i1
  have hn : (169 : Int) ≤ ((mN M : Nat) : Int) := by have := iM.2.2.2.2.1; omega
  refine p_mono (p_wp (x_again i1)) ?_
  rintro ⟨b, M2⟩ ⟨N1, hN1, h2⟩ eq
  replace eq : a = b := eq
  show ∀ i, alive i M2 → P i M2
  have gN : ∀ b j : Int, ¬ b = 126 → mG N1 b j = mG M1 b j := fun b j hb => st_ne hN1 (fun z => hb z.1)
  rcases h1 with ⟨p1, p2, p3⟩ | ⟨p1, p2, Mx, c, p3⟩
  · replace p1 : a = 0 := p1
    replace p3 : M1 = M := p3
    subst p3
    rcases h2 with ⟨q1, q2, q3⟩ | ⟨q1, q2, q3⟩
    · replace q3 : M2 = N1 := q3
      intro i hi
      have e169 : ∀ j, mG M2 169 j = mG M1 169 j := fun j => by rw [q3]; exact gN 169 j (by decide)
      have hi2 : alive i M1 := ⟨hi.1, hi.2.1, by rw [← e169]; exact hi.2.2⟩
      refine hf i M2 hi.1 hi.2.1 (hP i hi2) (fun b j z => ?_)
      rw [q3]
      refine gN b j (fun e => ?_)
      subst e
      rcases z with z | z | z
      · have h4 := hi.2.1
        rcases sOf_c hi.1 hi.2.1 with ⟨x1, x2⟩ | ⟨x1, x2⟩ <;> rw [x2] at z <;> omega
      · omega
      · exact absurd z.1 (by decide)
    · replace q1 : b = 1 := q1
      omega
  · replace p1 : a = 1 := p1
    replace p3 : ∀ b j : Int, ¬ b = 2 → ¬ b = 24 → mG M1 b j = mG Mx b j := p3
    rcases h2 with ⟨q1, q2, q3⟩ | ⟨q1, q2, d⟩
    · replace q1 : b = 0 := q1
      omega
    replace d : CpS L25 (l + 1) 0 N1 M2 := d
    obtain ⟨lo, c6, cf, cr, cfr⟩ := c
    have e9 : ∀ b j : Int, 74 ≤ b → mG M1 b j = mG M b j := fun b j b0 => (p3 b j (by omega) (by omega)).trans (cfr b j (by omega))
    have d8 : ∀ b j : Int, ¬ (127 ≤ b ∧ b ≤ 151) → ¬ b = 126 → mG M2 b j = mG M1 b j := fun b j hb h6 => by
      rw [d.at (fun z => by have := L25_m z; omega), gN b j h6]
    have c8 : ∀ b j : Int, 3 ≤ b → b ≤ 19 → mG M2 b j = mG Mx b j := fun b j b0 b1 => (d8 b j (by omega) (by omega)).trans (p3 b j (by omega) (by omega))
    have c9 : ∀ b j : Int, 127 ≤ b → b ≤ 151 → mG N1 b j = mG M b j := fun b j b0 b1 => (gN b j (by omega)).trans (e9 b j (by omega))
    have k169 : ∀ j : Int, mG M2 169 j = mG M 169 j := fun j => by
      rw [d.at (by decide), gN 169 j (by decide), e9 169 j (by decide)]
    have gt : ∀ b j : Int, 169 < b → b ≤ ((mN M : Nat) : Int) → mG M2 b j = mG M b j := fun b j b0 b1 => (d8 b j (by omega) (by omega)).trans (e9 b j (by omega))
    have al : mG M 169 l = 1 := by rw [← rel.2 l p2.1 (by have := p2.2.1; omega)]; exact p2.2.2
    have l2 := p2.2.1
    intro i hi
    by_cases e : i = 0
    · subst e
      refine hc (l + 1) 0 M2 (by have := p2.1; omega) (by omega) (hP (l + 1) ⟨by have := p2.1; omega, by omega, Or.inr (by rw [show l + 1 - 1 = l by omega]; exact al)⟩) ⟨gt, ?_, ?_, fun j hj => ?_, fun d' j j0 j1 => ?_, fun b N j hb hN j0 j1 => ?_⟩
      · exact lo.of (fun b j b0 b1 => c8 b j (by omega) (by omega))
      · rw [sOf_s l p2.1, sOf0, c8 _ _ (by decide) (by decide)]; exact c6
      · rw [sOf_s l p2.1, sOf0, c8 _ _ (by decide) (by decide)]; exact cf j hj
      · have hd := tlen_in j0 j1
        rw [sOf_s l p2.1, sOf0, c8 _ _ (by omega) (by omega)]; exact cr d' j j0 j1
      · have hb' := L25_m hb
        rw [d.get hb hN j0 j1]
        exact c9 b _ (by omega) (by omega)
    · have hi' : alive i M := ⟨hi.1, hi.2.1, by
        rcases hi.2.2 with y | y
        · exact Or.inl y
        · rw [k169] at y; exact Or.inr y⟩
      refine hf i M2 hi.1 hi.2.1 (hP i hi') (fun b j z => ?_)
      rcases z with z | z | z
      · have hb : 74 ≤ b ∧ b ≤ 125 := by
          rcases sOf_c hi.1 hi.2.1 with ⟨x1, x2⟩ | ⟨x1, x2⟩
          · omega
          · have := hi.2.1
            rw [x2] at z; omega
        rw [d8 b j (by omega) (by omega)]
        exact e9 b j (by omega)
      · exact gt b j z.1 z.2
      · obtain ⟨hb, z0, z1⟩ := z
        have hb' := L25_m hb
        rw [d.oth (N := rlen b) rfl (oth_slot (by have := rlen_pos hb; omega) e z0 z1)]
        exact c9 b j (by omega) (by omega)
end
section
variable {n : Nat} {i i' : Int} {M M' : Mem}
theorem CPY.one (c : CPY n i i' M M') {b : Int} (hb : b ∈ L25) (hN : rlen b = 1) : mG M' b i' = mG M b i := by
  have z := c.2.2.2.2.2 b 1 0 hb hN (by decide) (by decide)
  rw [show 1 * i' + 0 = i' by omega, show 1 * i + 0 = i by omega] at z; exact z
theorem S2.cpy (h : S2 i M) (iM : I n M) (i0 : 0 ≤ i ∧ i < 4) (c : CPY n i i' M M') : S2 i' M' := by
  obtain ⟨gt, lo, c6, cf, cr, r9⟩ := id c
  have e134 := c.one (b := 134) (by decide) rfl
  have rr := rd_Mrelations iM (a := 134) (i := i) rfl
  have g3 : mG M 134 i ≤ mG M' 134 i' := Int.le_of_eq e134.symm
  have g4 : ∀ c r : Int, 135 ≤ c → c ≤ 136 → 0 ≤ r → r < mG M 134 i → mG M' c (4 * i' + r) = mG M c (4 * i + r) := fun c r c0 c1 r0 r1 => by
    obtain e | e : c = 135 ∨ c = 136 := by omega
    · subst e; exact r9 135 4 r (by decide) rfl r0 (by omega)
    · subst e; exact r9 136 4 r (by decide) rfl r0 (by omega)
  refine ⟨h.1.go iM (c.one (b := 128) (by decide) rfl) (fun j j0 j1 => cr 10 j j0 j1) (fun j j0 j1 => r9 127 400 j (by decide) rfl j0 j1), h.2.1.go iM i0 gt (c.one (b := 138) (by decide) rfl) (cf 11 rfl) (fun d j d0 d1 j0 j1 => ?_) (fun c j c0 c1 j0 j1 => ?_) (fun j j0 j1 => r9 141 9 j (by decide) rfl j0 (by omega)) (fun c j c0 c1 j0 j1 => ?_) g3 g4, h.2.2.1.go iM i0 gt (cf 12 rfl) (r9 141 9 8 (by decide) rfl (by decide) (by decide)) (fun c j c0 c1 j0 j1 => ?_) g3 g4, h.2.2.2.1.go iM (c.one (b := 146) (by decide) rfl) (fun d j d0 d1 j0 j1 => ?_) (fun c j c0 c1 j0 j1 => ?_), h.2.2.2.2.go (fun j j0 j1 => cr 9 j j0 j1) (fun j j0 j1 => r9 151 4 j (by decide) rfl j0 j1)⟩
  · obtain e | e | e : d = 11 ∨ d = 12 ∨ d = 13 := by omega
    · subst e; exact cr 11 j j0 j1
    · subst e; exact cr 12 j j0 j1
    · subst e; exact cr 13 j j0 j1
  · obtain e | e : c = 139 ∨ c = 140 := by omega
    · subst e; exact r9 139 8 j (by decide) rfl j0 j1
    · subst e; exact r9 140 8 j (by decide) rfl j0 j1
  · obtain e | e | e | e : c = 142 ∨ c = 143 ∨ c = 144 ∨ c = 145 := by omega
    · subst e; exact r9 142 360 j (by decide) rfl j0 (by omega)
    · subst e; exact r9 143 360 j (by decide) rfl j0 (by omega)
    · subst e; exact r9 144 360 j (by decide) rfl j0 (by omega)
    · subst e; exact r9 145 360 j (by decide) rfl j0 (by omega)
  · obtain e | e | e | e : c = 142 ∨ c = 143 ∨ c = 144 ∨ c = 145 := by omega
    · subst e; exact r9 142 360 j (by decide) rfl (by omega) j1
    · subst e; exact r9 143 360 j (by decide) rfl (by omega) j1
    · subst e; exact r9 144 360 j (by decide) rfl (by omega) j1
    · subst e; exact r9 145 360 j (by decide) rfl (by omega) j1
  · obtain e | e | e : d = 14 ∨ d = 15 ∨ d = 16 := by omega
    · subst e; exact cr 14 j j0 j1
    · subst e; exact cr 15 j j0 j1
    · subst e; exact cr 16 j j0 j1
  · obtain e | e | e : c = 147 ∨ c = 148 ∨ c = 149 := by omega
    · subst e; exact r9 147 40 j (by decide) rfl j0 j1
    · subst e; exact r9 148 40 j (by decide) rfl j0 j1
    · subst e; exact r9 149 40 j (by decide) rfl j0 j1
theorem S2.vf (h : S2 i M) (iM : I n M) (i0 : 0 ≤ i ∧ i < 4) (g : ∀ b j : Int, VF n i b j → mG M' b j = mG M b j) : S2 i M' := h.fr iM i0 (fun b j z => g b j (by
  have f : ∀ (b N : Int), b ∈ L25 → rlen b = N → N * i ≤ j → j < N * i + N → VF n i b j := fun b N hb hN h0 h1 => Or.inr (Or.inr ⟨hb, by rw [hN]; exact h0, by rw [hN]; exact h1⟩)
  unfold V2 at z
  rcases z with z | z | z | z | z | z | z | z | z | z
  · exact Or.inl (by omega)
  · exact Or.inl (by omega)
  · exact Or.inr (Or.inl z)
  · obtain ⟨e, z⟩ := z
    subst e; exact f 127 400 (by decide) rfl z.1 z.2
  · obtain ⟨e, z⟩ := z
    rcases e with e | e | e | e <;> (subst e; exact f _ 1 (by decide) rfl (by omega) (by omega))
  · obtain ⟨e, z⟩ := z
    rcases e with e | e | e <;> (subst e; exact f _ 4 (by decide) rfl (by omega) (by omega))
  · obtain ⟨e, z⟩ := z
    rcases e with e | e <;> (subst e; exact f _ 8 (by decide) rfl (by omega) (by omega))
  · obtain ⟨e, z⟩ := z
    subst e; exact f 141 9 (by decide) rfl z.1 z.2
  · obtain ⟨e, z⟩ := z
    obtain e | e | e | e : b = 142 ∨ b = 143 ∨ b = 144 ∨ b = 145 := by omega
    all_goals (subst e; exact f _ 360 (by decide) rfl z.1 z.2)
  · obtain ⟨e, z⟩ := z
    obtain e | e | e : b = 147 ∨ b = 148 ∨ b = 149 := by omega
    all_goals (subst e; exact f _ 40 (by decide) rfl z.1 z.2)))
end
section
variable {M : Mem} {l : Int}
theorem j2_image (r1 : (-2147483648) ≤ l ∧ l ≤ 2147483647) (h : J2 M) : wp (mX8_image 1 l M) (fun q1 => wp (mX9_image 126 l q1.2) (fun q2 => J2 q2.2 ∧ EQ q1 q2)) :=
  J2.ord (w_mono (w_and4 (M := M) (j_image r1 h.1) (p_mono (img_gen (P := S2) r1 h.1 (fun i z => h.2 i z.1 z.2.1 z.2.2) (fun i i' M' i0 i1 s c => s.cpy h.1.1 ⟨i0, i1⟩ c) (fun i M' i0 i1 s g => s.vf h.1.1 ⟨i0, i1⟩ g)) (fun q1 z => p_mono z (fun q2 y a => y a.2)))) (fun q1 z => w_mono z (fun q2 y => ⟨y.1, fun i i0 i1 hi => y.2 i ⟨i0, i1, hi⟩⟩)))
theorem j2_again (r1 : (-2147483648) ≤ l ∧ l ≤ 2147483647) (h : J2 M) : wp (mX8_again 1 l M) (fun q1 => wp (mX9_again 126 l q1.2) (fun q2 => J2 q2.2 ∧ EQ q1 q2)) :=
  J2.ord (w_mono (w_and4 (M := M) (j_again r1 h.1) (p_mono (aga_gen (P := S2) r1 h.1 (fun i z => h.2 i z.1 z.2.1 z.2.2) (fun i i' M' i0 i1 s c => s.cpy h.1.1 ⟨i0, i1⟩ c) (fun i M' i0 i1 s g => s.vf h.1.1 ⟨i0, i1⟩ g)) (fun q1 z => p_mono z (fun q2 y a => y a.2)))) (fun q1 z => w_mono z (fun q2 y => ⟨y.1, fun i i0 i1 hi => y.2 i ⟨i0, i1, hi⟩⟩)))
end
/-- the beginning -/
theorem init_J2 {M : Mem} (r : RepL 197 169 M) : J2 M := by
  have h := init_J r
  have t := TR.of r (X := 0) (lo := 1) (hi := 169)
  have g : ∀ a j v, 1 ≤ a → a ≤ 169 → tvo 0 [] a j = some v → mG M a j = v := fun a j v a0 a1 e => t.v e ⟨a0, a1⟩
  refine ⟨h, fun i i0 i1 hi => ?_⟩
  have e0 : i = 0 := by
    rcases hi with hi | hi
    · exact hi
    · have hk : i - 1 = 0 ∨ i - 1 = 1 ∨ i - 1 = 2 ∨ i - 1 = -1 := by omega
      rcases hk with e | e | e | e
      · rw [e, g 169 0 0 (by decide) (by decide) (by decide)] at hi; cases hi
      · rw [e, g 169 1 0 (by decide) (by decide) (by decide)] at hi; cases hi
      · rw [e, g 169 2 0 (by decide) (by decide) (by decide)] at hi; cases hi
      · omega
  subst e0
  have z128 : mG M 128 0 = 0 := g _ _ _ (by decide) (by decide) (by decide)
  have z138 : mG M 138 0 = 0 := g _ _ _ (by decide) (by decide) (by decide)
  have z146 : mG M 146 0 = 0 := g _ _ _ (by decide) (by decide) (by decide)
  refine ⟨fun j j0 j1 => by rw [z128] at j1; omega, ⟨?_, fun s s0 s1 => by rw [z138] at s1; omega⟩, Or.inl ⟨?_, ?_⟩, fun k k0 k1 => by rw [z146] at k1; omega, Se.new (fun p p0 p1 => ?_)⟩
  · rw [z138]; exact g 3 11 0 (by decide) (by decide) (by decide)
  · exact g 3 12 0 (by decide) (by decide) (by decide)
  · exact g 141 8 0 (by decide) (by decide) (by decide)
  · obtain e | e | e | e : p = 0 ∨ p = 1 ∨ p = 2 ∨ p = 3 := by omega
    · subst e; rw [g 12 0 0 (by decide) (by decide) (by decide), g 151 0 0 (by decide) (by decide) (by decide)]
    · subst e; rw [g 12 1 0 (by decide) (by decide) (by decide), g 151 1 0 (by decide) (by decide) (by decide)]
    · subst e; rw [g 12 2 0 (by decide) (by decide) (by decide), g 151 2 0 (by decide) (by decide) (by decide)]
    · subst e; rw [g 12 3 0 (by decide) (by decide) (by decide), g 151 3 0 (by decide) (by decide) (by decide)]
end
