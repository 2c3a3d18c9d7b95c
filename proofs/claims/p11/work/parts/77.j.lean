/-! ===== known, the tape, days ===== -/
theorem j_known {l1 l2 l3 l4 : Int} {M : Mem} (r1 : (-2147483648) ≤ l1 ∧ l1 ≤ 2147483647) (r2 : (-2147483648) ≤ l2 ∧ l2 ≤ 2147483647) (r3 : (-2147483648) ≤ l3 ∧ l3 ≤ 2147483647) (r4 : 0 ≤ l4 ∧ l4 ≤ 1) (h : J M) : wp (mX8_known 1 l1 l2 l3 l4 M) (fun q1 => wp (mX9_known 126 l1 l2 l3 l4 q1.2) (fun q2 => J q2.2 ∧ EQ q1 q2)) := by
  obtain ⟨iM, wf, rel⟩ := h
  refine w_mono (w_pw (s_X8_known r1 r2 r3 r4 iM) (pl_known iM)) ?_
  rintro ⟨a, M1⟩ ⟨⟨i1, k1, -, -⟩, h1⟩
  have i1 : I (mN M) M1 := i1
  have k1 : Keep (mN M) W_X8_known M M1 := k1
  have w1 := wf8 iM wf k1 (fun b j z => by unfold W_X8_known at z; omega)
  refine w_mono (w_pw (s_X9_known r1 r2 r3 r4 i1) (pr_known i1)) ?_
  rintro ⟨b, M2⟩ ⟨⟨i2, k2, -, -⟩, h2⟩
  have i2 : I (mN M) M2 := i2
  have k2 : Keep (mN M) W_X9_known M1 M2 := k2
  have w2 := w1.kp i1 k2 (fun b j z => by unfold W_X9_known at z; omega)
  have hn : (169 : Int) ≤ ((mN M : Nat) : Int) := by have := iM.2.2.2.2.1; omega
  have s0 := (rel.1 0 (by decide) (by decide) (Or.inl rfl)).z
  have e9 : ∀ b j : Int, 126 ≤ b → b ≤ 169 → mG M1 b j = mG M b j := fun b j b0 b1 => k1.2.2 b j (by omega) (fun z => by unfold W_X8_known at z; omega)
  have hC : C_kn l1 l2 l3 M ↔ (mG M1 146 0 < 40 ∧ (0 ≤ l1 ∧ l1 < mG M1 134 0) ∧ (0 ≤ l2 ∧ l2 ≤ 2) ∧ (mG M1 136 l1 = -1 ∨ (0 ≤ l3 ∧ l3 ≤ 2))) := by
    rw [e9 146 0 (by decide) (by decide), e9 134 0 (by decide) (by decide), e9 136 l1 (by decide) (by decide), ← s0.2.2.2.2.2.2.2, ← s0.2.1]
    unfold C_kn
    constructor
    · rintro ⟨x1, x2, x3⟩
      rw [(s0.2.2.1 l1 x2.1 (by rw [← s0.2.1]; exact x2.2)).2] at x3
      exact ⟨x1, x2, x3⟩
    · rintro ⟨x1, x2, x3⟩
      rw [← (s0.2.2.1 l1 x2.1 (by rw [← s0.2.1]; exact x2.2)).2] at x3
      exact ⟨x1, x2, x3⟩
  rcases h1 with ⟨p1, p2, p3⟩ | ⟨p1, p2, p3, p4, p5, p6, p7⟩
  · have p1 : a = 0 := p1
    have p3 : M1 = M := p3
    subst p3
    rcases h2 with ⟨q1, q2, q3⟩ | ⟨q1, q2, q3⟩
    · exact ⟨J.mk i2 w2 (rel.fr iM (fun b j z => q3 b j (by unfold RC at z; omega))), p1.trans (Eq.symm q1)⟩
    · exact absurd (hC.mpr q2) p2
  · have p1 : a = 1 := p1
    have p3 : mG M1 3 18 = mG M 3 18 + 1 := p3
    have p7 : ∀ b j : Int, ¬ (17 ≤ b ∧ b ≤ 19 ∧ j = mG M 3 18) → ¬ (b = 3 ∧ j = 18) → mG M1 b j = mG M b j := p7
    rcases h2 with ⟨q1, q2, q3⟩ | ⟨q1, q2, q3, q4, q5, q6, q7⟩
    · exact absurd (hC.mp p2) q2
    · have q3 : mG M2 146 0 = mG M1 146 0 + 1 := q3
      have q7 : ∀ b j : Int, ¬ b = 126 → ¬ (b = 146 ∧ j = 0) → ¬ (147 ≤ b ∧ b ≤ 149 ∧ j = mG M1 146 0) → mG M2 b j = mG M1 b j := q7
      have e8 : ∀ b j : Int, b ≤ 125 → mG M2 b j = mG M1 b j := fun b j hb => q7 b j (by omega) (by omega) (by omega)
      have ex : ∀ b j : Int, 126 ≤ b → b ≤ 169 → ¬ b = 126 → ¬ (b = 146 ∧ j = 0) → ¬ (147 ≤ b ∧ b ≤ 149) → mG M2 b j = mG M b j := fun b j b0 b1 x y z => (q7 b j x y (fun u => z ⟨u.1, u.2.1⟩)).trans (e9 b j b0 b1)
      have ec : ∀ b j : Int, b ≤ 125 → ¬ (17 ≤ b ∧ b ≤ 19) → ¬ (b = 3 ∧ j = 18) → mG M2 b j = mG M b j := fun b j hb x y => (e8 b j hb).trans (p7 b j (fun u => x ⟨u.1, u.2.1⟩) y)
      refine ⟨J.mk i2 w2 (Rel.sc (M1 := M1) iM rel (fun b j z => ec b j (by omega) (by omega) (by omega)) (fun b j z => ex b j (by omega) (by omega) (by omega) (by omega) (by omega)) ?_ ?_ ?_ ?_), p1.trans (Eq.symm q1)⟩
      · rw [ec 3 5 (by decide) (by decide) (by decide), ex 128 0 (by decide) (by decide) (by decide) (by decide) (by decide)]; exact s0.2.2.2.2.1
      · rw [ec 3 13 (by decide) (by decide) (by decide), ex 131 0 (by decide) (by decide) (by decide) (by decide) (by decide)]; exact s0.2.2.2.2.2.1
      · rw [ec 3 14 (by decide) (by decide) (by decide), ex 132 0 (by decide) (by decide) (by decide) (by decide) (by decide)]; exact s0.2.2.2.2.2.2.1
      · rw [e8 3 18 (by decide), p3, q3, e9 146 0 (by decide) (by decide), s0.2.2.2.2.2.2.2]
theorem j_feed {l1 l2 l3 l4 l5 : Int} {M : Mem} (r1 : (-2147483648) ≤ l1 ∧ l1 ≤ 2147483647) (r2 : (-2147483648) ≤ l2 ∧ l2 ≤ 2147483647) (r3 : (-2147483648) ≤ l3 ∧ l3 ≤ 2147483647) (r4 : (-2147483648) ≤ l4 ∧ l4 ≤ 2147483647) (r5 : (-2147483648) ≤ l5 ∧ l5 ≤ 2147483647) (h : J M) : wp (mX8_feed 1 l1 l2 l3 l4 l5 M) (fun q1 => wp (mX9_feed 126 l1 l2 l3 l4 l5 q1.2) (fun q2 => J q2.2 ∧ EQ q1 q2)) := by
  obtain ⟨iM, wf, rel⟩ := h
  refine w_mono (w_pw (s_X8_feed r1 r2 r3 r4 r5 iM) (pl_feed iM rfl)) ?_
  rintro ⟨a, M1⟩ ⟨⟨i1, k1, -⟩, h1⟩
  have i1 : I (mN M) M1 := i1
  have k1 : Keep (mN M) W_X8_feed M M1 := k1
  have w1 := wf8 iM wf k1 (fun b j z => by unfold W_X8_feed at z; omega)
  refine w_mono (w_pw (s_X9_feed r1 r2 r3 r4 r5 i1) (pr_feed i1 rfl)) ?_
  rintro ⟨b, M2⟩ ⟨⟨i2, k2, -⟩, h2⟩
  have i2 : I (mN M) M2 := i2
  have k2 : Keep (mN M) W_X9_feed M1 M2 := k2
  have w2 := w1.kp i1 k2 (fun b j z => by unfold W_X9_feed at z; omega)
  have hn : (169 : Int) ≤ ((mN M : Nat) : Int) := by have := iM.2.2.2.2.1; omega
  have s0 := (rel.1 0 (by decide) (by decide) (Or.inl rfl)).z
  have e9 : ∀ b j : Int, 126 ≤ b → b ≤ 169 → mG M1 b j = mG M b j := fun b j b0 b1 => k1.2.2 b j (by omega) (fun z => by unfold W_X8_feed at z; omega)
  have e128 : mG M1 128 0 = mG M 3 5 := (e9 128 0 (by decide) (by decide)).trans s0.2.2.2.2.1.symm
  rw [e128] at h2
  rcases h1 with ⟨p1, p2, p3⟩ | ⟨p1, p2, p3, p4, p5⟩
  · have p1 : a = -1 := p1
    have p3 : M1 = M := p3
    subst p3
    rcases h2 with ⟨q1, q2, q3⟩ | ⟨q1, q2, q3⟩
    · exact ⟨J.mk i2 w2 (rel.fr iM (fun b j z => q3 b j (by unfold RC at z; omega))), p1.trans (Eq.symm q1)⟩
    · exact absurd q2 (by omega)
  · have p1 : a = mG M 3 5 + 20 := p1
    have p3 : mG M1 3 5 = mG M 3 5 + 20 := p3
    have p5 : ∀ b j : Int, ¬ (b = 3 ∧ j = 5) → ¬ b = 13 → mG M1 b j = mG M b j := p5
    rcases h2 with ⟨q1, q2, q3⟩ | ⟨q1, q2, q3, q4, q5⟩
    · exact absurd q2 (by omega)
    · have q3 : mG M2 128 0 = mG M 3 5 + 20 := q3
      have q5 : ∀ b j : Int, ¬ b = 126 → ¬ (b = 128 ∧ j = 0) → ¬ b = 127 → mG M2 b j = mG M1 b j := q5
      have e8 : ∀ b j : Int, b ≤ 125 → mG M2 b j = mG M1 b j := fun b j hb => q5 b j (by omega) (by omega) (by omega)
      have ex : ∀ b j : Int, 126 ≤ b → b ≤ 169 → ¬ b = 126 → ¬ (b = 128 ∧ j = 0) → ¬ b = 127 → mG M2 b j = mG M b j := fun b j b0 b1 x y z => (q5 b j x y z).trans (e9 b j b0 b1)
      have ec : ∀ b j : Int, b ≤ 125 → ¬ (b = 3 ∧ j = 5) → ¬ b = 13 → mG M2 b j = mG M b j := fun b j hb x y => (e8 b j hb).trans (p5 b j x y)
      refine ⟨J.mk i2 w2 (Rel.sc (M1 := M1) iM rel (fun b j z => ec b j (by omega) (by omega) (by omega)) (fun b j z => ex b j (by omega) (by omega) (by omega) (by omega) (by omega)) ?_ ?_ ?_ ?_), p1.trans (Eq.symm q1)⟩
      · rw [e8 3 5 (by decide), p3, q3]
      · rw [ec 3 13 (by decide) (by decide) (by decide), ex 131 0 (by decide) (by decide) (by decide) (by decide) (by decide)]; exact s0.2.2.2.2.2.1
      · rw [ec 3 14 (by decide) (by decide) (by decide), ex 132 0 (by decide) (by decide) (by decide) (by decide) (by decide)]; exact s0.2.2.2.2.2.2.1
      · rw [ec 3 18 (by decide) (by decide) (by decide), ex 146 0 (by decide) (by decide) (by decide) (by decide) (by decide)]; exact s0.2.2.2.2.2.2.2
theorem j_end {l : Int} {M : Mem} (r1 : (-2147483648) ≤ l ∧ l ≤ 2147483647) (h : J M) : wp (mX8_end 1 l M) (fun q1 => wp (mX9_end 126 l q1.2) (fun q2 => J q2.2 ∧ EQ q1 q2)) := by
  obtain ⟨iM, wf, rel⟩ := h
  refine w_mono (w_pw (s_X8_end r1 iM) (pl_end iM)) ?_
  rintro ⟨a, M1⟩ ⟨⟨i1, k1, -⟩, h1⟩
  have i1 : I (mN M) M1 := i1
  have k1 : Keep (mN M) W_X8_end M M1 := k1
  have w1 := wf8 iM wf k1 (fun b j z => by unfold W_X8_end at z; omega)
  refine w_mono (w_pw (s_X9_end r1 i1) (pr_end i1)) ?_
  rintro ⟨b, M2⟩ ⟨⟨i2, k2, -⟩, h2⟩
  have i2 : I (mN M) M2 := i2
  have k2 : Keep (mN M) W_X9_end M1 M2 := k2
  have w2 := w1.kp i1 k2 (fun b j z => by unfold W_X9_end at z; omega)
  have hn : (169 : Int) ≤ ((mN M : Nat) : Int) := by have := iM.2.2.2.2.1; omega
  have s0 := (rel.1 0 (by decide) (by decide) (Or.inl rfl)).z
  have e9 : ∀ b j : Int, 126 ≤ b → b ≤ 169 → mG M1 b j = mG M b j := fun b j b0 b1 => k1.2.2 b j (by omega) (fun z => by unfold W_X8_end at z; omega)
  have e128 : mG M1 128 0 = mG M 3 5 := (e9 128 0 (by decide) (by decide)).trans s0.2.2.2.2.1.symm
  rw [e128] at h2
  rcases h1 with ⟨p1, p2, p3⟩ | ⟨p1, p2, p3⟩
  · have p1 : a = -1 := p1
    have p3 : M1 = M := p3
    subst p3
    rcases h2 with ⟨q1, q2, q3⟩ | ⟨q1, q2, q3⟩
    · exact ⟨J.mk i2 w2 (rel.fr iM (fun b j z => q3 b j (by unfold RC at z; omega))), p1.trans (Eq.symm q1)⟩
    · exact absurd q2 p2
  · have p1 : a = l := p1
    have p3 : M1 = mS M 3 5 l := p3
    have p5 : ∀ b j : Int, ¬ (b = 3 ∧ j = 5) → mG M1 b j = mG M b j := fun b j x => st_ne p3 x
    rcases h2 with ⟨q1, q2, q3⟩ | ⟨q1, q2, q3, q5⟩
    · exact absurd p2 q2
    · have q3 : mG M2 128 0 = l := q3
      have q5 : ∀ b j : Int, ¬ b = 126 → ¬ (b = 128 ∧ j = 0) → mG M2 b j = mG M1 b j := q5
      have e8 : ∀ b j : Int, b ≤ 125 → mG M2 b j = mG M1 b j := fun b j hb => q5 b j (by omega) (by omega)
      have ex : ∀ b j : Int, 126 ≤ b → b ≤ 169 → ¬ b = 126 → ¬ (b = 128 ∧ j = 0) → mG M2 b j = mG M b j := fun b j b0 b1 x y => (q5 b j x y).trans (e9 b j b0 b1)
      have ec : ∀ b j : Int, b ≤ 125 → ¬ (b = 3 ∧ j = 5) → mG M2 b j = mG M b j := fun b j hb x => (e8 b j hb).trans (p5 b j x)
      refine ⟨J.mk i2 w2 (Rel.sc (M1 := M1) iM rel (fun b j z => ec b j (by omega) (by omega)) (fun b j z => ex b j (by omega) (by omega) (by omega) (by omega)) ?_ ?_ ?_ ?_), p1.trans (Eq.symm q1)⟩
      · rw [e8 3 5 (by decide), st_eq p3, q3]
      · rw [ec 3 13 (by decide) (by decide), ex 131 0 (by decide) (by decide) (by decide) (by decide)]; exact s0.2.2.2.2.2.1
      · rw [ec 3 14 (by decide) (by decide), ex 132 0 (by decide) (by decide) (by decide) (by decide)]; exact s0.2.2.2.2.2.2.1
      · rw [ec 3 18 (by decide) (by decide), ex 146 0 (by decide) (by decide) (by decide) (by decide)]; exact s0.2.2.2.2.2.2.2
theorem j_day {l : Int} {M : Mem} (r1 : (-2147483648) ≤ l ∧ l ≤ 2147483647) (h : J M) : wp (mX8_day 1 l M) (fun q1 => wp (mX9_day 126 l q1.2) (fun q2 => J q2.2 ∧ EQ q1 q2)) := by
  obtain ⟨iM, wf, rel⟩ := h
  refine w_mono (w_pw (s_X8_day r1 iM) (pl_day iM)) ?_
  rintro ⟨a, M1⟩ ⟨⟨i1, k1, -⟩, h1⟩
  have i1 : I (mN M) M1 := i1
  have k1 : Keep (mN M) W_X8_day M M1 := k1
  have w1 := wf8 iM wf k1 (fun b j z => by unfold W_X8_day at z; omega)
  refine w_mono (w_pw (s_X9_day r1 i1) (pr_day i1)) ?_
  rintro ⟨b, M2⟩ ⟨⟨i2, k2, -⟩, h2⟩
  have i2 : I (mN M) M2 := i2
  have k2 : Keep (mN M) W_X9_day M1 M2 := k2
  have w2 := w1.kp i1 k2 (fun b j z => by unfold W_X9_day at z; omega)
  have hn : (169 : Int) ≤ ((mN M : Nat) : Int) := by have := iM.2.2.2.2.1; omega
  have s0 := (rel.1 0 (by decide) (by decide) (Or.inl rfl)).z
  have e9 : ∀ b j : Int, 126 ≤ b → b ≤ 169 → mG M1 b j = mG M b j := fun b j b0 b1 => k1.2.2 b j (by omega) (fun z => by unfold W_X8_day at z; omega)
  have e131 : mG M1 131 0 = mG M 3 13 := (e9 131 0 (by decide) (by decide)).trans s0.2.2.2.2.2.1.symm
  rw [e131] at h2
  rcases h1 with ⟨p1, p2, p3⟩ | ⟨p1, p2, p3⟩
  · have p1 : a = 0 := p1
    have p3 : M1 = M := p3
    subst p3
    rcases h2 with ⟨q1, q2, q3⟩ | ⟨q1, q2, q3⟩
    · exact ⟨J.mk i2 w2 (rel.fr iM (fun b j z => q3 b j (by unfold RC at z; omega))), p1.trans (Eq.symm q1)⟩
    · exact absurd q2 p2
  · have p1 : a = 1 := p1
    have p3 : M1 = mS M 3 13 l := p3
    have p5 : ∀ b j : Int, ¬ (b = 3 ∧ j = 13) → mG M1 b j = mG M b j := fun b j x => st_ne p3 x
    rcases h2 with ⟨q1, q2, q3⟩ | ⟨q1, q2, q3, q5⟩
    · exact absurd p2 q2
    · have q3 : mG M2 131 0 = l := q3
      have q5 : ∀ b j : Int, ¬ b = 126 → ¬ (b = 131 ∧ j = 0) → mG M2 b j = mG M1 b j := q5
      have e8 : ∀ b j : Int, b ≤ 125 → mG M2 b j = mG M1 b j := fun b j hb => q5 b j (by omega) (by omega)
      have ex : ∀ b j : Int, 126 ≤ b → b ≤ 169 → ¬ b = 126 → ¬ (b = 131 ∧ j = 0) → mG M2 b j = mG M b j := fun b j b0 b1 x y => (q5 b j x y).trans (e9 b j b0 b1)
      have ec : ∀ b j : Int, b ≤ 125 → ¬ (b = 3 ∧ j = 13) → mG M2 b j = mG M b j := fun b j hb x => (e8 b j hb).trans (p5 b j x)
      refine ⟨J.mk i2 w2 (Rel.sc (M1 := M1) iM rel (fun b j z => ec b j (by omega) (by omega)) (fun b j z => ex b j (by omega) (by omega) (by omega) (by omega)) ?_ ?_ ?_ ?_), p1.trans (Eq.symm q1)⟩
      · rw [ec 3 5 (by decide) (by decide), ex 128 0 (by decide) (by decide) (by decide) (by decide)]; exact s0.2.2.2.2.1
      · rw [e8 3 13 (by decide), st_eq p3, q3]
      · rw [ec 3 14 (by decide) (by decide), ex 132 0 (by decide) (by decide) (by decide) (by decide)]; exact s0.2.2.2.2.2.2.1
      · rw [ec 3 18 (by decide) (by decide), ex 146 0 (by decide) (by decide) (by decide) (by decide)]; exact s0.2.2.2.2.2.2.2
theorem j_view {l : Int} {M : Mem} (r1 : (-2147483648) ≤ l ∧ l ≤ 2147483647) (h : J M) : wp (mX8_view 1 l M) (fun q1 => wp (mX9_view 126 l q1.2) (fun q2 => J q2.2 ∧ EQ q1 q2)) := by
  obtain ⟨iM, wf, rel⟩ := h
  refine w_mono (w_pw (s_X8_view r1 iM) (pl_view iM)) ?_
  rintro ⟨a, M1⟩ ⟨⟨i1, k1, -⟩, h1⟩
  have i1 : I (mN M) M1 := i1
  have k1 : Keep (mN M) W_X8_view M M1 := k1
  have w1 := wf8 iM wf k1 (fun b j z => by unfold W_X8_view at z; omega)
  refine w_mono (w_pw (s_X9_view r1 i1) (pr_view i1)) ?_
  rintro ⟨b, M2⟩ ⟨⟨i2, k2, -⟩, h2⟩
  have i2 : I (mN M) M2 := i2
  have k2 : Keep (mN M) W_X9_view M1 M2 := k2
  have w2 := w1.kp i1 k2 (fun b j z => by unfold W_X9_view at z; omega)
  have hn : (169 : Int) ≤ ((mN M : Nat) : Int) := by have := iM.2.2.2.2.1; omega
  have s0 := (rel.1 0 (by decide) (by decide) (Or.inl rfl)).z
  have e9 : ∀ b j : Int, 126 ≤ b → b ≤ 169 → mG M1 b j = mG M b j := fun b j b0 b1 => k1.2.2 b j (by omega) (fun z => by unfold W_X8_view at z; omega)
  have e131 : mG M1 131 0 = mG M 3 13 := (e9 131 0 (by decide) (by decide)).trans s0.2.2.2.2.2.1.symm
  rw [e131] at h2
  rcases h1 with ⟨p1, p2, p3⟩ | ⟨p1, p2, p3⟩
  · have p1 : a = 0 := p1
    have p3 : M1 = M := p3
    subst p3
    rcases h2 with ⟨q1, q2, q3⟩ | ⟨q1, q2, q3⟩
    · exact ⟨J.mk i2 w2 (rel.fr iM (fun b j z => q3 b j (by unfold RC at z; omega))), p1.trans (Eq.symm q1)⟩
    · exact absurd q2 p2
  · have p1 : a = 1 := p1
    have p3 : M1 = mS M 3 14 l := p3
    have p5 : ∀ b j : Int, ¬ (b = 3 ∧ j = 14) → mG M1 b j = mG M b j := fun b j x => st_ne p3 x
    rcases h2 with ⟨q1, q2, q3⟩ | ⟨q1, q2, q3, q5⟩
    · exact absurd p2 q2
    · have q3 : mG M2 132 0 = l := q3
      have q5 : ∀ b j : Int, ¬ b = 126 → ¬ (b = 132 ∧ j = 0) → mG M2 b j = mG M1 b j := q5
      have e8 : ∀ b j : Int, b ≤ 125 → mG M2 b j = mG M1 b j := fun b j hb => q5 b j (by omega) (by omega)
      have ex : ∀ b j : Int, 126 ≤ b → b ≤ 169 → ¬ b = 126 → ¬ (b = 132 ∧ j = 0) → mG M2 b j = mG M b j := fun b j b0 b1 x y => (q5 b j x y).trans (e9 b j b0 b1)
      have ec : ∀ b j : Int, b ≤ 125 → ¬ (b = 3 ∧ j = 14) → mG M2 b j = mG M b j := fun b j hb x => (e8 b j hb).trans (p5 b j x)
      refine ⟨J.mk i2 w2 (Rel.sc (M1 := M1) iM rel (fun b j z => ec b j (by omega) (by omega)) (fun b j z => ex b j (by omega) (by omega) (by omega) (by omega)) ?_ ?_ ?_ ?_), p1.trans (Eq.symm q1)⟩
      · rw [ec 3 5 (by decide) (by decide), ex 128 0 (by decide) (by decide) (by decide) (by decide)]; exact s0.2.2.2.2.1
      · rw [ec 3 13 (by decide) (by decide), ex 131 0 (by decide) (by decide) (by decide) (by decide)]; exact s0.2.2.2.2.2.1
      · rw [e8 3 14 (by decide), st_eq p3, q3]
      · rw [ec 3 18 (by decide) (by decide), ex 146 0 (by decide) (by decide) (by decide) (by decide)]; exact s0.2.2.2.2.2.2.2
/-- story and guess: the tape is empty on both sides -/
theorem j_text {M : Mem} {x : Option (Int × Mem)} {y : Mem → Option (Int × Mem)} {W8 W9 : Int → Int → Prop} {P8 P9 : Int × Mem → Prop} (h : J M) (hx : I (mN M) M → wp x (fun q => SN (mN M) W8 M q ∧ P8 q)) (d8 : ∀ b j, W8 b j → b ≤ 73 ∧ ¬ (4 ≤ b ∧ b ≤ 10) ∧ ¬ (b = 3 ∧ (j = 13 ∨ j = 14 ∨ j = 18))) (hy : ∀ (n : Nat) (M1 : Mem), WF M1 → I n M1 → wp (y M1) (fun q => I n q.2 ∧ Keep n W9 M1 q.2 ∧ P9 q ∧ WF q.2 ∧ mG q.2 128 0 = 0 ∧ ∀ j : Int, ¬ j = 0 → mG q.2 128 j = mG M1 128 j)) (d9 : ∀ b j, W9 b j → 126 ≤ b ∧ ¬ (131 ≤ b ∧ b ≤ 136) ∧ ¬ b = 146 ∧ ¬ b = 169) : wp x (fun q1 => wp (y q1.2) (fun q2 => J q2.2)) := by
  obtain ⟨iM, wf, rel⟩ := h
  have hn : (169 : Int) ≤ ((mN M : Nat) : Int) := by have := iM.2.2.2.2.1; omega
  have s0 := (rel.1 0 (by decide) (by decide) (Or.inl rfl)).z
  refine w_mono (hx iM) ?_
  rintro q1 ⟨⟨n1, hn1, i1, k1, z1⟩, -⟩
  have w1 := wf8 iM wf k1 (fun b j z => by have := (d8 b j z).1; omega)
  refine w_mono (hy n1 _ w1 i1) ?_
  rintro q2 ⟨i2, k2, -, w2, z2, zj⟩
  have hn2 : (169 : Int) ≤ (n1 : Int) := by omega
  have ec : ∀ b j : Int, b ≤ 125 → ¬ W8 b j → mG q2.2 b j = mG M b j := fun b j hb hw => (k2.2.2 b j (by omega) (fun z => by have := (d9 b j z).1; omega)).trans (k1.2.2 b j (by omega) hw)
  have e1 : ∀ b j : Int, 126 ≤ b → b ≤ 169 → mG q1.2 b j = mG M b j := fun b j b0 b1 => k1.2.2 b j (by omega) (fun z => by have := (d8 b j z).1; omega)
  have ex : ∀ b j : Int, 126 ≤ b → b ≤ 169 → (131 ≤ b ∧ b ≤ 136) ∨ b = 146 ∨ b = 169 → mG q2.2 b j = mG M b j := fun b j b0 b1 hb => (k2.2.2 b j (by omega) (fun z => by have z := (d9 b j z).2; omega)).trans (e1 b j b0 b1)
  have h3 : ∀ j : Int, j = 13 ∨ j = 14 ∨ j = 18 → mG q2.2 3 j = mG M 3 j := fun j hj => ec 3 j (by decide) (fun z => (d8 3 j z).2.2 ⟨rfl, hj⟩)
  refine J.mk i2 w2 (Rel.sc (M1 := q1.2) iM rel (fun b j z => ?_) (fun b j z => ?_) ?_ ?_ ?_ ?_)
  · rcases z with z | z
    · exact ec b j (by omega) (fun y => (d8 b j y).2.1 z)
    · exact ec b j (by omega) (fun y => by have := (d8 b j y).1; omega)
  · rcases z with z | z | z
    · exact ex b j (by omega) (by omega) (by omega)
    · exact ex b j (by omega) (by omega) (by omega)
    · by_cases e : b = 128
      · subst e; exact (zj j (by omega)).trans (e1 128 j (by decide) (by decide))
      · exact ex b j (by omega) (by omega) (by omega)
  · rw [show mG q2.2 3 5 = mG q1.2 3 5 from k2.2.2 3 5 (by omega) (fun z => by have := (d9 3 5 z).1; omega), z1, z2]
  · rw [h3 13 (by decide), ex 131 0 (by decide) (by decide) (by decide)]; exact s0.2.2.2.2.2.1
  · rw [h3 14 (by decide), ex 132 0 (by decide) (by decide) (by decide)]; exact s0.2.2.2.2.2.2.1
  · rw [h3 18 (by decide), ex 146 0 (by decide) (by decide) (by decide)]; exact s0.2.2.2.2.2.2.2
theorem j_story {M : Mem} (h : J M) : wp (mX8_story 1 M) (fun q1 => wp (mX9_story 126 q1.2) (fun q2 => J q2.2)) := by
  refine j_text h (fun i => s_X8_story i) (fun b j z => ?_) (fun n M1 w i => s_X9_story w i) (fun b j z => ?_)
  · unfold W_X8_story at z
    rcases z with z | z | z | z | z | z | z | z | z | z | z | z | z | z | z | z | z | z <;> omega
  · unfold W_X9_story at z
    rcases z with z | z | z | z | z | z | z | z | z | z | z | z | z | z | z <;> omega
theorem j_guess {M : Mem} (h : J M) : wp (mX8_guess 1 M) (fun q1 => wp (mX9_guess 126 q1.2) (fun q2 => J q2.2)) := by
  refine j_text h (fun i => s_X8_guess i) (fun b j z => ?_) (fun n M1 w i => s_X9_guess w i) (fun b j z => ?_)
  · unfold W_X8_guess at z
    rcases z with z | z | z | z | z | z | z | z | z | z | z | z | z | z | z | z | z | z <;> omega
  · unfold W_X9_guess at z
    rcases z with z | z | z | z | z | z | z | z | z | z | z | z | z | z | z <;> omega
