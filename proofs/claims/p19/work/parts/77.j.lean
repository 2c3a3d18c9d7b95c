section
/-! ===== known, the tape, days ===== -/
theorem j_known {l1 l2 l3 l4 : Int} {M : Mem} (r1 : (-2147483648) ≤ l1 ∧ l1 ≤ 2147483647) (r2 : (-2147483648) ≤ l2 ∧ l2 ≤ 2147483647) (r3 : (-2147483648) ≤ l3 ∧ l3 ≤ 2147483647) (r4 : 0 ≤ l4 ∧ l4 ≤ 1) (h : J M) : wp (mX8_known 1 l1 l2 l3 l4 M) (fun q1 => wp (mX9_known 126 l1 l2 l3 l4 q1.2) (fun q2 => J q2.2 ∧ EQ q1 q2)) := by
  obtain ⟨iM, wf, rel⟩ := h
  refine w_mono (w_pw (s_X8_known r1 r2 r3 r4 iM) (pl_known iM)) ?_
  rintro ⟨a, M1⟩ ⟨⟨i1, k1, -, -⟩, h1⟩
  have i1 : I (mN M) M1 := i1
  have k1 : Keep (mN M) W_X8_known M M1 := k1
  have w1 := wf8 iM wf k1 (fun b j z => by unfold W_X8_known at z; omega)
  refine w_mono (w_pw (s_X9_known r1 r2 r3 r4 i1) (pr_known i1)) ?_
  rintro ⟨b, M2⟩ ⟨⟨i2, k2, -, -⟩, h2⟩
  have i2 : I (mN M) M2 := i2
  have k2 : Keep (mN M) W_X9_known M1 M2 := k2
  have w2 := w1.kp i1 k2 (fun b j z => by unfold W_X9_known at z; omega)
  have hn : (169 : Int) ≤ ((mN M : Nat) : Int) := by have := iM.2.2.2.2.1; omega
  have s0 := (rel.1 0 (by decide) (by decide) (Or.inl rfl)).z
  have e9 : ∀ b j : Int, 126 ≤ b → b ≤ 169 → mG M1 b j = mG M b j := fun b j b0 b1 => k1.2.2 b j (by omega) (fun z => by unfold W_X8_known at z; omega)
  have hC : C_kn l1 l2 l3 M ↔ (mG M1 146 0 < 40 ∧ (0 ≤ l1 ∧ l1 < mG M1 134 0) ∧ (0 ≤ l2 ∧ l2 ≤ 2) ∧ (mG M1 136 l1 = -1 ∨ (0 ≤ l3 ∧ l3 ≤ 2))) := by
    rw [e9 146 0 (by decide) (by decide), e9 134 0 (by decide) (by decide), e9 136 l1 (by decide) (by decide), ← s0.2.2.2.2.2.2.2, ← s0.2.1]
    unfold C_kn
    constructor
    · rintro ⟨x1, x2, x3⟩
      rw [(s0.2.2.1 l1 x2.1 (by rw [← s0.2.1]; exact x2.2)).2] at x3
      exact ⟨x1, x2, x3⟩
    · rintro ⟨x1, x2, x3⟩
      rw [← (s0.2.2.1 l1 x2.1 (by rw [← s0.2.1]; exact x2.2)).2] at x3
      exact ⟨x1, x2, x3⟩
  rcases h1 with ⟨p1, p2, p3⟩ | ⟨p1, p2, p3, p4, p5, p6, p7⟩
  · have p1 : a = 0 := p1
    have p3 : M1 = M := p3
    subst p3
    rcases h2 with ⟨q1, q2, q3⟩ | ⟨q1, q2, q3⟩
    · exact ⟨J.mk i2 w2 (rel.fr iM (fun b j z => q3 b j (by unfold RC at z; omega))), p1.trans (Eq.symm q1)⟩
    · exact absurd (hC.mpr q2) p2
  · have p1 : a = 1 := p1
    have p3 : mG M1 3 18 = mG M 3 18 + 1 := p3
    have p7 : ∀ b j : Int, ¬ (17 ≤ b ∧ b ≤ 19 ∧ j = mG M 3 18) → ¬ (b = 3 ∧ j = 18) → mG M1 b j = mG M b j := p7
    rcases h2 with ⟨q1, q2, q3⟩ | ⟨q1, q2, q3, q4, q5, q6, q7⟩
    · exact absurd (hC.mp p2) q2
    · have q3 : mG M2 146 0 = mG M1 146 0 + 1 := q3
      have q7 : ∀ b j : Int, ¬ b = 126 → ¬ (b = 146 ∧ j = 0) → ¬ (147 ≤ b ∧ b ≤ 149 ∧ j = mG M1 146 0) → mG M2 b j = mG M1 b j := q7
      have e8 : ∀ b j : Int, b ≤ 125 → mG M2 b j = mG M1 b j := fun b j hb => q7 b j (by omega) (by omega) (by omega)
      have ex : ∀ b j : Int, 126 ≤ b → b ≤ 169 → ¬ b = 126 → ¬ (b = 146 ∧ j = 0) → ¬ (147 ≤ b ∧ b ≤ 149) → mG M2 b j = mG M b j := fun b j b0 b1 x y z => (q7 b j x y (fun u => z ⟨u.1, u.2.1⟩)).trans (e9 b j b0 b1)
      have ec : ∀ b j : Int, b ≤ 125 → ¬ (17 ≤ b ∧ b ≤ 19) → ¬ (b = 3 ∧ j = 18) → mG M2 b j = mG M b j := fun b j hb x y => (e8 b j hb).trans (p7 b j (fun u => x ⟨u.1, u.2.1⟩) y)
      refine ⟨J.mk i2 w2 (Rel.sc (M1 := M1) iM rel (fun b j z => ec b j (by omega) (by omega) (by omega)) (fun b j z => ex b j (by omega) (by omega) (by omega) (by omega) (by omega)) ?_ ?_ ?_ ?_), p1.trans (Eq.symm q1)⟩
      · rw [ec 3 5 (by decide) (by decide) (by decide), ex 128 0 (by decide) (by decide) (by decide) (by decide) (by decide)]; exact s0.2.2.2.2.1
      · rw [ec 3 13 (by decide) (by decide) (by decide), ex 131 0 (by decide) (by decide) (by decide) (by decide) (by decide)]; exact s0.2.2.2.2.2.1
      · rw [ec 3 14 (by decide) (by decide) (by decide), ex 132 0 (by decide) (by decide) (by decide) (by decide) (by decide)]; exact s0.2.2.2.2.2.2.1
      · rw [e8 3 18 (by decide), p3, q3, e9 146 0 (by decide) (by decide), s0.2.2.2.2.2.2.2]
theorem j_feed {l1 l2 l3 l4 l5 : Int} {M : Mem} (r1 : (-2147483648) ≤ l1 ∧ l1 ≤ 2147483647) (r2 : (-2147483648) ≤ l2 ∧ l2 ≤ 2147483647) (r3 : (-2147483648) ≤ l3 ∧ l3 ≤ 2147483647) (r4 : (-2147483648) ≤ l4 ∧ l4 ≤ 2147483647) (r5 : (-2147483648) ≤ l5 ∧ l5 ≤ 2147483647) (h : J M) : wp (mX8_feed 1 l1 l2 l3 l4 l5 M) (fun q1 => wp (mX9_feed 126 l1 l2 l3 l4 l5 q1.2) (fun q2 => J q2.2 ∧ EQ q1 q2)) := by
  obtain ⟨iM, wf, rel⟩ := h
  refine w_mono (w_pw (s_X8_feed r1 r2 r3 r4 r5 iM) (pl_feed iM rfl)) ?_
  rintro ⟨a, M1⟩ ⟨⟨i1, k1, -⟩, h1⟩
  have i1 : I (mN M) M1 := i1
  have k1 : Keep (mN M) W_X8_feed M M1 := k1
  have w1 := wf8 iM wf k1 (fun b j z => by unfold W_X8_feed at z; omega)
  refine w_mono (w_pw (s_X9_feed r1 r2 r3 r4 r5 i1) (pr_feed i1 rfl)) ?_
  rintro ⟨b, M2⟩ ⟨⟨i2, k2, -⟩, h2⟩
  have i2 : I (mN M) M2 := i2
  have k2 : Keep (mN M) W_X9_feed M1 M2 := k2
  have w2 := w1.kp i1 k2 (fun b j z => by unfold W_X9_feed at z; omega)
  have hn : (169 : Int) ≤ ((mN M : Nat) : Int) := by have := iM.2.2.2.2.1; omega
  have s0 := (rel.1 0 (by decide) (by decide) (Or.inl rfl)).z
  have e9 : ∀ b j : Int, 126 ≤ b → b ≤ 169 → mG M1 b j = mG M b j := fun b j b0 b1 => k1.2.2 b j (by omega) (fun z => by unfold W_X8_feed at z; omega)
  have e128 : mG M1 128 0 = mG M 3 5 := (e9 128 0 (by decide) (by decide)).trans s0.2.2.2.2.1.symm
  rw [e128] at h2
  rcases h1 with ⟨p1, p2, p3⟩ | ⟨p1, p2, p3, p4, p5⟩
  · have p1 : a = -1 := p1
    have p3 : M1 = M := p3
    subst p3
    rcases h2 with ⟨q1, q2, q3⟩ | ⟨q1, q2, q3⟩
    · exact ⟨J.mk i2 w2 (rel.fr iM (fun b j z => q3 b j (by unfold RC at z; omega))), p1.trans (Eq.symm q1)⟩
    · exact absurd q2 (by omega)
  · have p1 : a = mG M 3 5 + 20 := p1
    have p3 : mG M1 3 5 = mG M 3 5 + 20 := p3
    have p5 : ∀ b j : Int, ¬ (b = 3 ∧ j = 5) → ¬ b = 13 → mG M1 b j = mG M b j := p5
    rcases h2 with ⟨q1, q2, q3⟩ | ⟨q1, q2, q3, q4, q5⟩
    · exact absurd q2 (by omega)
    · have q3 : mG M2 128 0 = mG M 3 5 + 20 := q3
      have q5 : ∀ b j : Int, ¬ b = 126 → ¬ (b = 128 ∧ j = 0) → ¬ b = 127 → mG M2 b j = mG M1 b j := q5
      have e8 : ∀ b j : Int, b ≤ 125 → mG M2 b j = mG M1 b j := fun b j hb => q5 b j (by omega) (by omega) (by omega)
      have ex : ∀ b j : Int, 126 ≤ b → b ≤ 169 → ¬ b = 126 → ¬ (b = 128 ∧ j = 0) → ¬ b = 127 → mG M2 b j = mG M b j := fun b j b0 b1 x y z => (q5 b j x y z).trans (e9 b j b0 b1)
      have ec : ∀ b j : Int, b ≤ 125 → ¬ (b = 3 ∧ j = 5) → ¬ b = 13 → mG M2 b j = mG M b j := fun b j hb x y => (e8 b j hb).trans (p5 b j x y)
      refine ⟨J.mk i2 w2 (Rel.sc (M1 := M1) iM rel (fun b j z => ec b j (by omega) (by omega) (by omega)) (fun b j z => ex b j (by omega) (by omega) (by omega) (by omega) (by omega)) ?_ ?_ ?_ ?_), p1.trans (Eq.symm q1)⟩
      · rw [e8 3 5 (by decide), p3, q3]
      · rw [ec 3 13 (by decide) (by decide) (by decide), ex 131 0 (by decide) (by decide) (by decide) (by decide) (by decide)]; exact s0.2.2.2.2.2.1
      · rw [ec 3 14 (by decide) (by decide) (by decide), ex 132 0 (by decide) (by decide) (by decide) (by decide) (by decide)]; exact s0.2.2.2.2.2.2.1
      · rw [ec 3 18 (by decide) (by decide) (by decide), ex 146 0 (by decide) (by decide) (by decide) (by decide) (by decide)]; exact s0.2.2.2.2.2.2.2
theorem j_end {l : Int} {M : Mem} (r1 : (-2147483648) ≤ l ∧ l ≤ 2147483647) (h : J M) : wp (mX8_end 1 l M) (fun q1 => wp (mX9_end 126 l q1.2) (fun q2 => J q2.2 ∧ EQ q1 q2)) := by
  obtain ⟨iM, wf, rel⟩ := h
  refine w_mono (w_pw (s_X8_end r1 iM) (pl_end iM)) ?_
  rintro ⟨a, M1⟩ ⟨⟨i1, k1, -⟩, h1⟩
  have i1 : I (mN M) M1 := i1
  have k1 : Keep (mN M) W_X8_end M M1 := k1
  have w1 := wf8 iM wf k1 (fun b j z => by unfold W_X8_end at z; omega)
  refine w_mono (w_pw (s_X9_end r1 i1) (pr_end i1)) ?_
  rintro ⟨b, M2⟩ ⟨⟨i2, k2, -⟩, h2⟩
  have i2 : I (mN M) M2 := i2
  have k2 : Keep (mN M) W_X9_end M1 M2 := k2
  have w2 := w1.kp i1 k2 (fun b j z => by unfold W_X9_end at z; omega)
  have hn : (169 : Int) ≤ ((mN M : Nat) : Int) := by have := iM.2.2.2.2.1; omega
  have s0 := (rel.1 0 (by decide) (by decide) (Or.inl rfl)).z
  have e9 : ∀ b j : Int, 126 ≤ b → b ≤ 169 → mG M1 b j = mG M b j := fun b j b0 b1 => k1.2.2 b j (by omega) (fun z => by unfold W_X8_end at z; omega)
  have e128 : mG M1 128 0 = mG M 3 5 := (e9 128 0 (by decide) (by decide)).trans s0.2.2.2.2.1.symm
  rw [e128] at h2
  rcases h1 with ⟨p1, p2, p3⟩ | ⟨p1, p2, p3⟩
  · have p1 : a = -1 := p1
    have p3 : M1 = M := p3
    subst p3
    rcases h2 with ⟨q1, q2, q3⟩ | ⟨q1, q2, q3⟩
    · exact ⟨J.mk i2 w2 (rel.fr iM (fun b j z => q3 b j (by unfold RC at z; omega))), p1.trans (Eq.symm q1)⟩
    · exact absurd q2 p2
  · have p1 : a = l := p1
    have p3 : M1 = mS M 3 5 l := p3
    have p5 : ∀ b j : Int, ¬ (b = 3 ∧ j = 5) → mG M1 b j = mG M b j := fun b j x => st_ne p3 x
    rcases h2 with ⟨q1, q2, q3⟩ | ⟨q1, q2, q3, q5⟩
    · exact absurd p2 q2
    · have q3 : mG M2 128 0 = l := q3
      have q5 : ∀ b j : Int, ¬ b = 126 → ¬ (b = 128 ∧ j = 0) → mG M2 b j = mG M1 b j := q5
      have e8 : ∀ b j : Int, b ≤ 125 → mG M2 b j = mG M1 b j := fun b j hb => q5 b j (by omega) (by omega)
      have ex : ∀ b j : Int, 126 ≤ b → b ≤ 169 → ¬ b = 126 → ¬ (b = 128 ∧ j = 0) → mG M2 b j = mG M b j := fun b j b0 b1 x y => (q5 b j x y).trans (e9 b j b0 b1)
      have ec : ∀ b j : Int, b ≤ 125 → ¬ (b = 3 ∧ j = 5) → mG M2 b j = mG M b j := fun b j hb x => (e8 b j hb).trans (p5 b j x)
      refine ⟨J.mk i2 w2 (Rel.sc (M1 := M1) iM rel (fun b j z => ec b j (by omega) (by omega)) (fun b j z => ex b j (by omega) (by omega) (by omega) (by omega)) ?_ ?_ ?_ ?_), p1.trans (Eq.symm q1)⟩
      · rw [e8 3 5 (by decide), st_eq p3, q3]
      · rw [ec 3 13 (by decide) (by decide), ex 131 0 (by decide) (by decide) (by decide) (by decide)]; exact s0.2.2.2.2.2.1
      · rw [ec 3 14 (by decide) (by decide), ex 132 0 (by decide) (by decide) (by decide) (by decide)]; exact s0.2.2.2.2.2.2.1
      · rw [ec 3 18 (by decide) (by decide), ex 146 0 (by decide) (by decide) (by decide) (by decide)]; exact s0.2.2.2.2.2.2.2
theorem j_day {l : Int} {M : Mem} (r1 : (-2147483648) ≤ l ∧ l ≤ 2147483647) (h : J M) : wp (mX8_day 1 l M) (fun q1 => wp (mX9_day 126 l q1.2) (fun q2 => J q2.2 ∧ EQ q1 q2)) := by
  obtain ⟨iM, wf, rel⟩ := h
  refine w_mono (w_pw (s_X8_day r1 iM) (pl_day iM)) ?_
  rintro ⟨a, M1⟩ ⟨⟨i1, k1, -⟩, h1⟩
  have i1 : I (mN M) M1 := i1
  have k1 : Keep (mN M) W_X8_day M M1 := k1
  have w1 := wf8 iM wf k1 (fun b j z => by unfold W_X8_day at z; omega)
  refine w_mono (w_pw (s_X9_day r1 i1) (pr_day i1)) ?_
  rintro ⟨b, M2⟩ ⟨⟨i2, k2, -⟩, h2⟩
  have i2 : I (mN M) M2 := i2
  have k2 : Keep (mN M) W_X9_day M1 M2 := k2
  have w2 := w1.kp i1 k2 (fun b j z => by unfold W_X9_day at z; omega)
  have hn : (169 : Int) ≤ ((mN M : Nat) : Int) := by have := iM.2.2.2.2.1; omega
  have s0 := (rel.1 0 (by decide) (by decide) (Or.inl rfl)).z
  have e9 : ∀ b j : Int, 126 ≤ b → b ≤ 169 → mG M1 b j = mG M b j := fun b j b0 b1 => k1.2.2 b j (by omega) (fun z => by unfold W_X8_day at z; omega)
  have e131 : mG M1 131 0 = mG M 3 13 := (e9 131 0 (by decide) (by decide)).trans s0.2.2.2.2.2.1.symm
  rw [e131] at h2
  rcases h1 with ⟨p1, p2, p3⟩ | ⟨p1, p2, p3⟩
  · have p1 : a = 0 := p1
    have p3 : M1 = M := p3
    subst p3
    rcases h2 with ⟨q1, q2, q3⟩ | ⟨q1, q2, q3⟩
    · exact ⟨J.mk i2 w2 (rel.fr iM (fun b j z => q3 b j (by unfold RC at z; omega))), p1.trans (Eq.symm q1)⟩
    · exact absurd q2 p2
  · have p1 : a = 1 := p1
    have p3 : M1 = mS M 3 13 l := p3
    have p5 : ∀ b j : Int, ¬ (b = 3 ∧ j = 13) → mG M1 b j = mG M b j := fun b j x => st_ne p3 x
    rcases h2 with ⟨q1, q2, q3⟩ | ⟨q1, q2, q3, q5⟩
    · exact absurd p2 q2
    · have q3 : mG M2 131 0 = l := q3
      have q5 : ∀ b j : Int, ¬ b = 126 → ¬ (b = 131 ∧ j = 0) → mG M2 b j = mG M1 b j := q5
      have e8 : ∀ b j : Int, b ≤ 125 → mG M2 b j = mG M1 b j := fun b j hb => q5 b j (by omega) (by omega)
      have ex : ∀ b j : Int, 126 ≤ b → b ≤ 169 → ¬ b = 126 → ¬ (b = 131 ∧ j = 0) → mG M2 b j = mG M b j := fun b j b0 b1 x y => (q5 b j x y).trans (e9 b j b0 b1)
      have ec : ∀ b j : Int, b ≤ 125 → ¬ (b = 3 ∧ j = 13) → mG M2 b j = mG M b j := fun b j hb x => (e8 b j hb).trans (p5 b j x)
      refine ⟨J.mk i2 w2 (Rel.sc (M1 := M1) iM rel (fun b j z => ec b j (by omega) (by omega)) (fun b j z => ex b j (by omega) (by omega) (by omega) (by omega)) ?_ ?_ ?_ ?_), p1.trans (Eq.symm q1)⟩
      · rw [ec 3 5 (by decide) (by decide), ex 128 0 (by decide) (by decide) (by decide) (by decide)]; exact s0.2.2.2.2.1
      · rw [e8 3 13 (by decide), st_eq p3, q3]
      · rw [ec 3 14 (by decide) (by decide), ex 132 0 (by decide) (by decide) (by decide) (by decide)]; exact s0.2.2.2.2.2.2.1
      · rw [ec 3 18 (by decide) (by decide), ex 146 0 (by decide) (by decide) (by decide) (by decide)]; exact s0.2.2.2.2.2.2.2
theorem j_view {l : Int} {M : Mem} (r1 : (-2147483648) ≤ l ∧ l ≤ 2147483647) (h : J M) : wp (mX8_view 1 l M) (fun q1 => wp (mX9_view 126 l q1.2) (fun q2 => J q2.2 ∧ EQ q1 q2)) := by
  obtain ⟨iM, wf, rel⟩ := h
  refine w_mono (w_pw (s_X8_view r1 iM) (pl_view iM)) ?_
  rintro ⟨a, M1⟩ ⟨⟨i1, k1, -⟩, h1⟩
  have i1 : I (mN M) M1 := i1
  have k1 : Keep (mN M) W_X8_view M M1 := k1
  have w1 := wf8 iM wf k1 (fun b j z => by unfold W_X8_view at z; omega)
  refine w_mono (w_pw (s_X9_view r1 i1) (pr_view i1)) ?_
  rintro ⟨b, M2⟩ ⟨⟨i2, k2, -⟩, h2⟩
  have i2 : I (mN M) M2 := i2
  have k2 : Keep (mN M) W_X9_view M1 M2 := k2
  have w2 := w1.kp i1 k2 (fun b j z => by unfold W_X9_view at z; omega)
  have hn : (169 : Int) ≤ ((mN M : Nat) : Int) := by have := iM.2.2.2.2.1; omega
  have s0 := (rel.1 0 (by decide) (by decide) (Or.inl rfl)).z
  have e9 : ∀ b j : Int, 126 ≤ b → b ≤ 169 → mG M1 b j = mG M b j := fun b j b0 b1 => k1.2.2 b j (by omega) (fun z => by unfold W_X8_view at z; omega)
  have e131 : mG M1 131 0 = mG M 3 13 := (e9 131 0 (by decide) (by decide)).trans s0.2.2.2.2.2.1.symm
  rw [e131] at h2
  rcases h1 with ⟨p1, p2, p3⟩ | ⟨p1, p2, p3⟩
  · have p1 : a = 0 := p1
    have p3 : M1 = M := p3
    subst p3
    rcases h2 with ⟨q1, q2, q3⟩ | ⟨q1, q2, q3⟩
    · exact ⟨J.mk i2 w2 (rel.fr iM (fun b j z => q3 b j (by unfold RC at z; omega))), p1.trans (Eq.symm q1)⟩
    · exact absurd q2 p2
  · have p1 : a = 1 := p1
    have p3 : M1 = mS M 3 14 l := p3
    have p5 : ∀ b j : Int, ¬ (b = 3 ∧ j = 14) → mG M1 b j = mG M b j := fun b j x => st_ne p3 x
    rcases h2 with ⟨q1, q2, q3⟩ | ⟨q1, q2, q3, q5⟩
    · exact absurd p2 q2
    · have q3 : mG M2 132 0 = l := q3
      have q5 : ∀ b j : Int, ¬ b = 126 → ¬ (b = 132 ∧ j = 0) → mG M2 b j = mG M1 b j := q5
      have e8 : ∀ b j : Int, b ≤ 125 → mG M2 b j = mG M1 b j := fun b j hb => q5 b j (by omega) (by omega)
      have ex : ∀ b j : Int, 126 ≤ b → b ≤ 169 → ¬ b = 126 → ¬ (b = 132 ∧ j = 0) → mG M2 b j = mG M b j := fun b j b0 b1 x y => (q5 b j x y).trans (e9 b j b0 b1)
      have ec : ∀ b j : Int, b ≤ 125 → ¬ (b = 3 ∧ j = 14) → mG M2 b j = mG M b j := fun b j hb x => (e8 b j hb).trans (p5 b j x)
      refine ⟨J.mk i2 w2 (Rel.sc (M1 := M1) iM rel (fun b j z => ec b j (by omega) (by omega)) (fun b j z => ex b j (by omega) (by omega) (by omega) (by omega)) ?_ ?_ ?_ ?_), p1.trans (Eq.symm q1)⟩
      · rw [ec 3 5 (by decide) (by decide), ex 128 0 (by decide) (by decide) (by decide) (by decide)]; exact s0.2.2.2.2.1
      · rw [ec 3 13 (by decide) (by decide), ex 131 0 (by decide) (by decide) (by decide) (by decide)]; exact s0.2.2.2.2.2.1
      · rw [e8 3 14 (by decide), st_eq p3, q3]
      · rw [ec 3 18 (by decide) (by decide), ex 146 0 (by decide) (by decide) (by decide) (by decide)]; exact s0.2.2.2.2.2.2.2
/-- story and guess: the tape is empty on both sides -/
theorem j_text {M : Mem} {x : Option (Int × Mem)} {y : Mem → Option (Int × Mem)} {W8 W9 : Int → Int → Prop} {P8 P9 : Int × Mem → Prop} (h : J M) (hx : I (mN M) M → wp x (fun q => SN (mN M) W8 M q ∧ P8 q)) (d8 : ∀ b j, W8 b j → b ≤ 73 ∧ ¬ (4 ≤ b ∧ b ≤ 10) ∧ ¬ (b = 3 ∧ (j = 13 ∨ j = 14 ∨ j = 18))) (hy : ∀ (n : Nat) (M1 : Mem), WF M1 → I n M1 → wp (y M1) (fun q => I n q.2 ∧ Keep n W9 M1 q.2 ∧ P9 q ∧ WF q.2 ∧ mG q.2 128 0 = 0 ∧ ∀ j : Int, ¬ j = 0 → mG q.2 128 j = mG M1 128 j)) (d9 : ∀ b j, W9 b j → 126 ≤ b ∧ ¬ (131 ≤ b ∧ b ≤ 136) ∧ ¬ b = 146 ∧ ¬ b = 169) : wp x (fun q1 => wp (y q1.2) (fun q2 => J q2.2)) := by
  obtain ⟨iM, wf, rel⟩ := h
  have hn : (169 : Int) ≤ ((mN M : Nat) : Int) := by have := iM.2.2.2.2.1; omega
  have s0 := (rel.1 0 (by decide) (by decide) (Or.inl rfl)).z
  refine w_mono (hx iM) ?_
  rintro q1 ⟨⟨n1, hn1, i1, k1, z1⟩, -⟩
  have w1 := wf8 iM wf k1 (fun b j z => by have := (d8 b j z).1; omega)
  refine w_mono (hy n1 _ w1 i1) ?_
  rintro q2 ⟨i2, k2, -, w2, z2, zj⟩
  have hn2 : (169 : Int) ≤ (n1 : Int) := by omega
  have ec : ∀ b j : Int, b ≤ 125 → ¬ W8 b j → mG q2.2 b j = mG M b j := fun b j hb hw => (k2.2.2 b j (by omega) (fun z => by have := (d9 b j z).1; omega)).trans (k1.2.2 b j (by omega) hw)
  have e1 : ∀ b j : Int, 126 ≤ b → b ≤ 169 → mG q1.2 b j = mG M b j := fun b j b0 b1 => k1.2.2 b j (by omega) (fun z => by have := (d8 b j z).1; omega)
  have ex : ∀ b j : Int, 126 ≤ b → b ≤ 169 → (131 ≤ b ∧ b ≤ 136) ∨ b = 146 ∨ b = 169 → mG q2.2 b j = mG M b j := fun b j b0 b1 hb => (k2.2.2 b j (by omega) (fun z => by have z := (d9 b j z).2; omega)).trans (e1 b j b0 b1)
  have h3 : ∀ j : Int, j = 13 ∨ j = 14 ∨ j = 18 → mG q2.2 3 j = mG M 3 j := fun j hj => ec 3 j (by decide) (fun z => (d8 3 j z).2.2 ⟨rfl, hj⟩)
  refine J.mk i2 w2 (Rel.sc (M1 := q1.2) iM rel (fun b j z => ?_) (fun b j z => ?_) ?_ ?_ ?_ ?_)
  · rcases z with z | z
    · exact ec b j (by omega) (fun y => (d8 b j y).2.1 z)
    · exact ec b j (by omega) (fun y => by have := (d8 b j y).1; omega)
  · rcases z with z | z | z
    · exact ex b j (by omega) (by omega) (by omega)
    · exact ex b j (by omega) (by omega) (by omega)
    · by_cases e : b = 128
      · subst e; exact (zj j (by omega)).trans (e1 128 j (by decide) (by decide))
      · exact ex b j (by omega) (by omega) (by omega)
  · rw [show mG q2.2 3 5 = mG q1.2 3 5 from k2.2.2 3 5 (by omega) (fun z => by have := (d9 3 5 z).1; omega), z1, z2]
  · rw [h3 13 (by decide), ex 131 0 (by decide) (by decide) (by decide)]; exact s0.2.2.2.2.2.1
  · rw [h3 14 (by decide), ex 132 0 (by decide) (by decide) (by decide)]; exact s0.2.2.2.2.2.2.1
  · rw [h3 18 (by decide), ex 146 0 (by decide) (by decide) (by decide)]; exact s0.2.2.2.2.2.2.2
theorem j_story {M : Mem} (h : J M) : wp (mX8_story 1 M) (fun q1 => wp (mX9_story 126 q1.2) (fun q2 => J q2.2)) := by
  refine j_text h (fun i => s_X8_story i) (fun b j z => ?_) (fun n M1 w i => s_X9_story w i) (fun b j z => ?_)
  · unfold W_X8_story at z
    rcases z with z | z | z | z | z | z | z | z | z | z | z | z | z | z | z | z | z | z <;> omega
  · unfold W_X9_story at z
    rcases z with z | z | z | z | z | z | z | z | z | z | z | z | z | z | z <;> omega
theorem j_guess {M : Mem} (h : J M) : wp (mX8_guess 1 M) (fun q1 => wp (mX9_guess 126 q1.2) (fun q2 => J q2.2)) := by
  refine j_text h (fun i => s_X8_guess i) (fun b j z => ?_) (fun n M1 w i => s_X9_guess w i) (fun b j z => ?_)
  · unfold W_X8_guess at z
    rcases z with z | z | z | z | z | z | z | z | z | z | z | z | z | z | z | z | z | z <;> omega
  · unfold W_X9_guess at z
    rcases z with z | z | z | z | z | z | z | z | z | z | z | z | z | z | z <;> omega
end
section
/-! ===== images; facts and keep answer alike; the beginning ===== -/
theorem SR.cpy {i i' : Int} {M M' : Mem} (h : SR i M) (hR : mG M 134 i ≤ 4) (lo : LO (sOf i' + 1) M') (c6 : mG M' (sOf i' + 1) 6 = mG M (sOf i + 1) 6) (cf : ∀ j : Int, tfld j = true → mG M' (sOf i') j = mG M (sOf i) j) (cr : ∀ d j : Int, 0 ≤ j → j < tlen d → mG M' (sOf i' + d) j = mG M (sOf i + d) j) (r9 : ∀ b N j : Int, b ∈ L25 → rlen b = N → 0 ≤ j → j < N → mG M' b (N * i' + j) = mG M b (N * i + j)) : SR i' M' := by
  obtain ⟨h1, h2, h3, h4, h5, h6, h7, h8⟩ := h
  have one : ∀ b : Int, b ∈ L25 → rlen b = 1 → mG M' b i' = mG M b i := fun b hb hN => by
    have z := r9 b 1 0 hb hN (by decide) (by decide)
    rw [show 1 * i' + 0 = i' by omega, show 1 * i + 0 = i by omega] at z; exact z
  have e134 := one 134 (by decide) rfl
  refine ⟨fun k k0 k1 => ?_, ?_, fun r r0 r1 => ?_, lo, ?_, ?_, ?_, ?_⟩
  · rw [cr 2 k k0 (by show k < 3; omega), r9 133 3 k (by decide) rfl k0 k1]; exact h1 k k0 k1
  · rw [c6, e134]; exact h2
  · rw [e134] at r1
    rw [cr 3 r r0 (by show r < 4; omega), cr 4 r r0 (by show r < 4; omega), r9 135 4 r (by decide) rfl r0 (by omega), r9 136 4 r (by decide) rfl r0 (by omega)]
    exact h3 r r0 r1
  · rw [cf 5 rfl, one 128 (by decide) rfl]; exact h5
  · rw [cf 13 rfl, one 131 (by decide) rfl]; exact h6
  · rw [cf 14 rfl, one 132 (by decide) rfl]; exact h7
  · rw [cf 18 rfl, one 146 (by decide) rfl]; exact h8
theorem SDo {i i' b j : Int} {M M' : Mem} {l1 : Int} (c : CpS L25 l1 i' M M') (hi : ¬ i = i') (z : SD i b j) : mG M' b j = mG M b j := by
  rcases z with z | z | z
  · obtain ⟨z0, z1, z2⟩ := z
    subst z0
    exact c.oth (N := 3) rfl (by omega)
  · obtain ⟨z0, z1⟩ := z
    rcases z0 with z0 | z0 | z0 | z0 | z0 <;> (subst z0; exact c.oth (N := 1) rfl (by omega))
  · obtain ⟨z0, z1, z2⟩ := z
    rcases z0 with z0 | z0 <;> (subst z0; exact c.oth (N := 4) rfl (by omega))
theorem sOf_s (l : Int) (h0 : 0 ≤ l) : sOf (l + 1) = 75 + 17 * l := by unfold sOf; rw [if_neg (by omega)]; omega
theorem w_and2 {M : Mem} {x : Option (Int × Mem)} {y : Mem → Option (Int × Mem)} {A : Int × Mem → Prop} {B : Int × Mem → Int × Mem → Prop} (h : wp x (fun q1 => wp (y q1.2) A)) (k : pw x (fun q1 => pw (y q1.2) (B q1))) : wp x (fun q1 => wp (y q1.2) (fun q2 => A q2 ∧ B q1 q2)) := by
  obtain ⟨q1, e1, q2, e2, a⟩ := h
  exact ⟨q1, e1, q2, e2, a, k q1 e1 q2 e2⟩
theorem j_image {l : Int} {M : Mem} (r1 : (-2147483648) ≤ l ∧ l ≤ 2147483647) (h : J M) : wp (mX8_image 1 l M) (fun q1 => wp (mX9_image 126 l q1.2) (fun q2 => J q2.2 ∧ EQ q1 q2)) := by
  obtain ⟨iM, wf, rel⟩ := h
  refine w_mono (w_pw (s_X8_image r1 iM) (pl_image iM)) ?_
  rintro ⟨a, M1⟩ ⟨⟨i1, k1, -⟩, h1⟩
  have i1 : I (mN M) M1 := i1
  have k1 : Keep (mN M) W_X8_image M M1 := k1
  have hn : (169 : Int) ≤ ((mN M : Nat) : Int) := by have := iM.2.2.2.2.1; omega
  have e9 : ∀ b j : Int, 126 ≤ b → b ≤ 169 → mG M1 b j = mG M b j := fun b j b0 b1 => by
    rcases h1 with ⟨-, -, p3⟩ | ⟨-, p2, Mx, c, p3⟩
    · have p3 : M1 = M := p3
      rw [p3]
    · have p3 : M1 = mS Mx 74 l 1 := p3
      rw [st_ne p3 (fun z => by omega)]
      exact c.2.2.2.2 b j (by omega)
  have w1 : WF M1 := WF_of wf (fun j => e9 _ _ (by decide) (by decide)) (fun j => e9 _ _ (by decide) (by decide)) (fun j => e9 _ _ (by decide) (by decide)) (fun j => e9 _ _ (by decide) (by decide)) (fun j => e9 _ _ (by decide) (by decide))
  refine w_mono (w_pw (s_X9_image i1 w1) (p_wp (x_image i1))) ?_
  rintro ⟨b, M2⟩ ⟨⟨i2, k2, w2⟩, N1, hN1, h2⟩
  have i2 : I (mN M) M2 := i2
  have w2 : WF M2 := w2
  have gN : ∀ b j : Int, ¬ b = 126 → mG N1 b j = mG M1 b j := fun b j hb => st_ne hN1 (fun z => hb z.1)
  have hR : ∀ i : Int, mG M 134 i ≤ 4 := fun i => (rd_Mrelations iM (a := 134) rfl).2
  rcases h1 with ⟨p1, p2, p3⟩ | ⟨p1, p2, Mx, c, p3⟩
  · have p1 : a = 0 := p1
    have p3 : M1 = M := p3
    subst p3
    rcases h2 with ⟨q1, q2, q3⟩ | ⟨q1, q2, q3⟩
    · have q3 : M2 = N1 := q3
      rw [q3] at i2 w2
      exact ⟨by show J M2; rw [q3]; exact J.mk i2 w2 (rel.fr iM (fun b j z => gN b j (by unfold RC at z; omega))), p1.trans (Eq.symm q1)⟩
    · exact absurd q2 p2
  · have p1 : a = 1 := p1
    have p3 : M1 = mS Mx 74 l 1 := p3
    rcases h2 with ⟨q1, q2, q3⟩ | ⟨q1, q2, M3, d, q3⟩
    · exact absurd p2 q2
    · have q3 : M2 = mS M3 169 l 1 := q3
      obtain ⟨lo, c6, cf, cr, cfr⟩ := c
      have gx : ∀ b j : Int, ¬ b = 74 → mG M1 b j = mG Mx b j := fun b j hb => st_ne p3 (fun z => hb z.1)
      have g2 : ∀ b j : Int, ¬ b = 169 → mG M2 b j = mG M3 b j := fun b j hb => st_ne q3 (fun z => hb z.1)
      have d8 : ∀ b j : Int, b ≤ 125 → mG M2 b j = mG M1 b j := fun b j hb => by
        rw [g2 b j (by omega), d.at (fun z => by have := L25_m z; omega), gN b j (by omega)]
      have c8 : ∀ b j : Int, b ≤ 125 → ¬ b = 74 → mG M2 b j = mG Mx b j := fun b j hb hc => (d8 b j hb).trans (gx b j hc)
      have c9 : ∀ b j : Int, 127 ≤ b → b ≤ 151 → mG N1 b j = mG M b j := fun b j b0 b1 => (gN b j (by omega)).trans (e9 b j (by omega) (by omega))
      have k169 : ∀ j : Int, ¬ j = l → mG M2 169 j = mG M 169 j := fun j hj => by
        rw [st_ne q3 (fun z => hj z.2), d.at (by decide), gN 169 j (by decide), e9 169 j (by decide) (by decide)]
      refine ⟨J.mk i2 w2 ⟨fun i i0 i1 hi => ?_, fun k k0 k1 => ?_⟩, p1.trans (Eq.symm q1)⟩
      · by_cases e : i = l + 1
        · subst e
          have s0 := rel.1 0 (by decide) (by decide) (Or.inl rfl)
          refine s0.cpy (hR 0) ?_ ?_ (fun j hj => ?_) (fun d' j j0 j1 => ?_) (fun b N j hb hN j0 j1 => ?_)
          · rw [sOf_s l p2.1]
            exact lo.of (fun b j b0 b1 => c8 b j (by omega) (by omega))
          · rw [sOf_s l p2.1, c8 _ _ (by omega) (by omega)]; exact c6
          · rw [sOf_s l p2.1, c8 _ _ (by omega) (by omega)]; exact cf j hj
          · have hd : 0 ≤ d' ∧ d' ≤ 16 := by
              unfold tlen at j1
              split at j1 <;> omega
            rw [sOf_s l p2.1, c8 _ _ (by omega) (by omega)]; exact cr d' j j0 j1
          · have hb' := L25_m hb
            rw [g2 b _ (by omega), d.get hb hN j0 j1]
            exact c9 b _ (by omega) (by omega)
        · have hi' : i = 0 ∨ mG M 169 (i - 1) = 1 := by
            rcases hi with hi | hi
            · exact Or.inl hi
            · rw [k169 _ (by omega)] at hi; exact Or.inr hi
          refine (rel.1 i i0 i1 hi').fr (hR i) (fun b j z => ?_) (fun b j z => ?_)
          · have zr := z.rc i0 i1
            have hb : b ≤ 125 ∧ ¬ (75 + 17 * l ≤ b ∧ b ≤ 75 + 17 * l + 16) ∧ ¬ b = 74 := by
              unfold SC at z
              rcases sOf_c i0 i1 with ⟨x1, x2⟩ | ⟨x1, x2⟩
              · rw [x2] at z; omega
              · rw [x2] at z
                have : i ≤ l ∨ l + 2 ≤ i := by omega
                omega
            rw [c8 b j hb.1 hb.2.2]
            exact cfr b j hb.2.1
          · have hb : 127 ≤ b ∧ b ≤ 151 := by unfold SD at z; omega
            rw [g2 b j (by omega), SDo d e z]
            exact c9 b j hb.1 hb.2
      · by_cases e : k = l
        · subst e
          rw [d8 74 k (by decide), st_eq p3, st_eq q3]
        · rw [k169 k e, d8 74 k (by decide), st_ne p3 (fun z => e z.2), cfr 74 k (by omega)]
          exact rel.2 k k0 k1
theorem j_again {l : Int} {M : Mem} (r1 : (-2147483648) ≤ l ∧ l ≤ 2147483647) (h : J M) : wp (mX8_again 1 l M) (fun q1 => wp (mX9_again 126 l q1.2) (fun q2 => J q2.2 ∧ EQ q1 q2)) := by
  obtain ⟨iM, wf, rel⟩ := h
  refine w_mono (w_pw (s_X8_again r1 iM) (pl_again iM)) ?_
  rintro ⟨a, M1⟩ ⟨⟨i1, k1, -⟩, h1⟩
  have i1 : I (mN M) M1 := i1
  have k1 : Keep (mN M) W_X8_again M M1 := k1
  have hn : (169 : Int) ≤ ((mN M : Nat) : Int) := by have := iM.2.2.2.2.1; omega
  have e9 : ∀ b j : Int, 74 ≤ b → b ≤ 169 → mG M1 b j = mG M b j := fun b j b0 b1 => by
    rcases h1 with ⟨-, -, p3⟩ | ⟨-, p2, Mx, c, p3⟩
    · have p3 : M1 = M := p3
      rw [p3]
    · have p3 : ∀ b j : Int, ¬ b = 2 → ¬ b = 24 → mG M1 b j = mG Mx b j := p3
      rw [p3 b j (by omega) (by omega)]
      exact c.2.2.2.2 b j (by omega)
  have w1 : WF M1 := WF_of wf (fun j => e9 _ _ (by decide) (by decide)) (fun j => e9 _ _ (by decide) (by decide)) (fun j => e9 _ _ (by decide) (by decide)) (fun j => e9 _ _ (by decide) (by decide)) (fun j => e9 _ _ (by decide) (by decide))
  refine w_mono (w_pw (s_X9_again i1 w1) (p_wp (x_again i1))) ?_
  rintro ⟨b, M2⟩ ⟨⟨i2, k2, w2⟩, N1, hN1, h2⟩
  have i2 : I (mN M) M2 := i2
  have w2 : WF M2 := w2
  have gN : ∀ b j : Int, ¬ b = 126 → mG N1 b j = mG M1 b j := fun b j hb => st_ne hN1 (fun z => hb z.1)
  have hR : ∀ i : Int, mG M 134 i ≤ 4 := fun i => (rd_Mrelations iM (a := 134) rfl).2
  have hC : (0 ≤ l ∧ l ≤ 2 ∧ mG M 74 l = 1) ↔ (0 ≤ l ∧ l ≤ 2 ∧ mG M1 169 l = 1) := by
    rw [e9 169 l (by decide) (by decide)]
    constructor
    · rintro ⟨x1, x2, x3⟩
      exact ⟨x1, x2, by rw [← rel.2 l x1 (by omega)]; exact x3⟩
    · rintro ⟨x1, x2, x3⟩
      exact ⟨x1, x2, by rw [rel.2 l x1 (by omega)]; exact x3⟩
  rcases h1 with ⟨p1, p2, p3⟩ | ⟨p1, p2, Mx, c, p3⟩
  · have p1 : a = 0 := p1
    have p3 : M1 = M := p3
    subst p3
    rcases h2 with ⟨q1, q2, q3⟩ | ⟨q1, q2, q3⟩
    · have q3 : M2 = N1 := q3
      rw [q3] at i2 w2
      exact ⟨by show J M2; rw [q3]; exact J.mk i2 w2 (rel.fr iM (fun b j z => gN b j (by unfold RC at z; omega))), p1.trans (Eq.symm q1)⟩
    · exact absurd (hC.mpr q2) p2
  · have p1 : a = 1 := p1
    have p3 : ∀ b j : Int, ¬ b = 2 → ¬ b = 24 → mG M1 b j = mG Mx b j := p3
    rcases h2 with ⟨q1, q2, q3⟩ | ⟨q1, q2, d⟩
    · exact absurd (hC.mp p2) q2
    · have d : CpS L25 (l + 1) 0 N1 M2 := d
      obtain ⟨lo, c6, cf, cr, cfr⟩ := c
      have d8 : ∀ b j : Int, b ≤ 125 → mG M2 b j = mG M1 b j := fun b j hb => by
        rw [d.at (fun z => by have := L25_m z; omega), gN b j (by omega)]
      have c9 : ∀ b j : Int, 127 ≤ b → b ≤ 151 → mG N1 b j = mG M b j := fun b j b0 b1 => (gN b j (by omega)).trans (e9 b j (by omega) (by omega))
      have c8 : ∀ b j : Int, 3 ≤ b → b ≤ 19 → mG M2 b j = mG Mx b j := fun b j b0 b1 => (d8 b j (by omega)).trans (p3 b j (by omega) (by omega))
      have k169 : ∀ j : Int, mG M2 169 j = mG M 169 j := fun j => by
        rw [d.at (by decide), gN 169 j (by decide), e9 169 j (by decide) (by decide)]
      refine ⟨J.mk i2 w2 (rel.r0 iM ?_ (fun b j b0 b1 => (d8 b j b1).trans (e9 b j b0 (by omega))) (fun i b j hi hi4 z => ?_) k169), p1.trans (Eq.symm q1)⟩
      · have s1 := rel.1 (l + 1) (by omega) (by omega) (Or.inr (by rw [show l + 1 - 1 = l by omega, ← rel.2 l p2.1 (by omega)]; exact p2.2.2))
        refine s1.cpy (hR _) ?_ ?_ (fun j hj => ?_) (fun d' j j0 j1 => ?_) (fun b N j hb hN j0 j1 => ?_)
        · exact lo.of (fun b j b0 b1 => c8 b j (by omega) (by omega))
        · rw [sOf_s l p2.1, show sOf 0 = 3 from rfl, c8 _ _ (by decide) (by decide)]; exact c6
        · rw [sOf_s l p2.1, show sOf 0 = 3 from rfl, c8 _ _ (by decide) (by decide)]; exact cf j hj
        · have hd : 0 ≤ d' ∧ d' ≤ 16 := by
            unfold tlen at j1
            split at j1 <;> omega
          rw [sOf_s l p2.1, show sOf 0 = 3 from rfl, c8 _ _ (by omega) (by omega)]; exact cr d' j j0 j1
        · have hb' := L25_m hb
          rw [d.get hb hN j0 j1]
          exact c9 b _ (by omega) (by omega)
      · have hb : 127 ≤ b ∧ b ≤ 151 := by unfold SD at z; omega
        rw [SDo d (by omega) z]
        exact c9 b j hb.1 hb.2
theorem stCF {M : Mem} (h : SR 0 M) (iM : ∃ n, I n M) : ∀ r : Nat, (r : Int) ≤ mG M 134 0 → stC 4 M r = stF M r := by
  have s := h.z
  obtain ⟨n, iM⟩ := iM
  have sz : ∀ k : Int, -1 ≤ k → k ≤ 2 → szC 4 M k = szF M k := fun k k0 k1 => by
    unfold szC szF
    by_cases e : k = -1
    · rw [if_pos e, if_pos e]
    · rw [if_neg e, if_neg e]; exact s.1 k (by omega) (by omega)
  intro r
  induction r with
  | zero => intro _; rfl
  | succ r ih =>
    intro hr
    have f1 := rd_Sfirst (i := (r : Int)) iM (a := 6) rfl
    have f2 := rd_Ssecond (i := (r : Int)) iM (a := 7) rfl
    obtain ⟨x1, x2⟩ := s.2.2.1 r (by omega) (by omega)
    show stC 4 M r + szC 4 M (mG M 6 r) * szC 4 M (mG M 7 r) = stF M r + szF M (mG M 135 r) * szF M (mG M 136 r)
    rw [ih (by omega), sz _ (by omega) f1.2, sz _ f2.1 f2.2, x1, x2]
theorem j_factsE {M : Mem} (h : J M) : wp (mX8_facts 1 M) (fun q1 => wp (mX9_facts 126 q1.2) (fun q2 => J q2.2 ∧ EQ q1 q2)) := by
  refine w_and2 (M := M) (j_facts h) ?_
  obtain ⟨iM, wf, rel⟩ := h
  have s0 := rel.1 0 (by decide) (by decide) (Or.inl rfl)
  have z := s0.z
  have rr := rd_Mrelations (i := 0) iM (a := 134) rfl
  unfold mX8_facts
  refine p_gFc (ji := 1) rfl (rd_VS_1 iM (a := 1) rfl) (p_gFc (ji := 0) rfl (rd_Told_0 iM (a := 3) rfl) (p_gF (ji := 7) rfl (fun v hv => p_ret ?_)))
  have hv : mG M 4 7 = v := hv
  show pw (mX9_facts 126 M) _
  unfold mX9_facts
  refine p_pF (ji := 0) rfl (fun M1 h1 => p_gK ?_)
  have i1 : I (mN M) M1 := wr_Model_0 iM rfl ⟨by omega, by omega⟩ h1
  have g1 : ∀ b j : Int, ¬ b = 126 → mG M1 b j = mG M b j := fun b j hb => st_ne h1 (fun z => hb z.1)
  refine p_call (p_wp (s_X9_bringSizes i1)) ?_
  rintro v2 m2 ⟨i2, k2, n2, s2, -⟩
  have i2 : I (mN M) m2 := i2
  have k2 : Keep (mN M) W_X9_bringSizes M1 m2 := k2
  have s2 : SF m2 := s2
  have hn : (169 : Int) ≤ ((mN M : Nat) : Int) := by have := iM.2.2.2.2.1; omega
  have g2 : ∀ b j : Int, 127 ≤ b → b ≤ 151 → mG m2 b j = mG M b j := fun b j b0 b1 => (k2.2.2 b j (by omega) (fun z => by unfold W_X9_bringSizes at z; omega)).trans (g1 b j (by omega))
  refine p_gK (p_call (p_wp (s_X9_manyFacts i2)) ?_)
  rintro v3 m3 ⟨i3, k3, -, e3, -⟩
  have k3 : Keep (mN M) W_X9_manyFacts m2 m3 := k3
  have e3 : v3 = mG m3 153 (mG m3 134 0) := e3
  have g3 : ∀ b j : Int, b ≤ 169 → mG m3 b j = mG m2 b j := fun b j hb => k3.2.2 b j (by omega) (fun z => by unfold W_X9_manyFacts at z; exact z)
  refine p_ret ?_
  show v = v3
  have e134 : mG m2 134 0 = mG M 134 0 := g2 134 0 (by decide) (by decide)
  rw [e3, g3 153 _ (by decide), g3 134 0 (by decide), e134]
  have es := s2.1 (mG M 134 0).toNat (by rw [e134]; omega)
  rw [show (((mG M 134 0).toNat : Nat) : Int) = mG M 134 0 by omega] at es
  rw [es, stF_of (fun j => g2 133 j (by decide) (by decide)) (fun j => g2 135 j (by decide) (by decide)) (fun j => g2 136 j (by decide) (by decide)), ← stCF s0 ⟨_, iM⟩ _ (by omega), ← hv, z.2.2.2.1.1, z.2.1]
theorem j_keepE {l : Int} {M : Mem} (r1 : (-2147483648) ≤ l ∧ l ≤ 2147483647) (h : J M) : wp (mX8_keep 1 l M) (fun q1 => wp (mX9_keep 126 l q1.2) (fun q2 => J q2.2 ∧ EQ q1 q2)) := by
  refine w_and2 (M := M) (j_keep r1 h) ?_
  refine p_mono (pl_keep h.1) (fun q1 h1 => p_mono pr_keep (fun q2 h2 => ?_))
  show q1.1 = q2.1
  rcases h1 with ⟨a, b⟩ | ⟨a, b⟩ <;> rcases h2 with ⟨c, d⟩ | ⟨c, d⟩
  · rw [a, c]
  · exact absurd d b
  · exact absurd b d
  · rw [a, c]
theorem init_J {M : Mem} (r : RepL 197 169 M) : J M := by
  obtain ⟨i, w⟩ := init_ok r
  have g := r.2.2.1
  have z169 : ∀ k : Int, mG M 169 k = 0 := fun k => (g 169 k).trans (lkL_z (by decide +kernel))
  refine J.mk i w ⟨fun i i0 i1 hi => ?_, fun k k0 k1 => ?_⟩
  · have e : i = 0 := by
      rcases hi with hi | hi
      · exact hi
      · rw [z169] at hi; exact absurd hi (by decide)
    subst e
    have e134 : mG M 134 0 = 0 := (g _ _).trans (by decide +kernel)
    have e46 : mG M 4 6 = 0 := (g _ _).trans (by decide +kernel)
    have sz : ∀ k : Nat, k < 3 → lkL 197 5 k = lkL 197 133 k := by decide +kernel
    refine SR.mz (fun k k0 k1 => ?_) (e46.trans e134.symm) (fun r r0 r1 => by omega) ⟨?_, fun r hr => by omega⟩ ?_ ?_ ?_ ?_
    · have := sz k.toNat (by omega)
      rw [show ((k.toNat : Nat) : Int) = k by omega] at this
      rw [g, g]; exact this
    · rw [e46, g]; exact (by decide +kernel : lkL 197 4 7 = 0)
    · rw [g, g]; decide +kernel
    · rw [g, g]; decide +kernel
    · rw [g, g]; decide +kernel
    · rw [g, g]; decide +kernel
  · rw [z169, g]; exact lkL_z (by decide +kernel)
end
section
/-! ===== runs on the fresh memory ===== -/
def tvo (X : Int) (T : List ((Int × Int) × Int)) (a j : Int) : Option Int := match T.find? (fun e => decide (e.1.1 = a ∧ e.1.2 = j)) with | some e => some e.2 | none => if a = X then none else some (lkL 197 a j)
def TR (X lo hi : Int) (T : List ((Int × Int) × Int)) (M : Mem) : Prop := (∀ a j r, lo ≤ a → a ≤ hi → tvo X T a j = some r → mG M a j = r) ∧ ∀ b : Nat, b < 169 → mK M ((b : Int) + 1) = layL.getD b (99, 0)
def cpl (al : Int) : List Int → Int → List ((Int × Int) × Int)
  | [], _ => []
  | v :: vs, k => ((al, k), v) :: cpl al vs (k + 1)
section TR
variable {X lo hi : Int} {T : List ((Int × Int) × Int)} {M M' : Mem}
theorem TR.v {a j r : Int} (t : TR X lo hi T M) (h : tvo X T a j = some r) (hr : lo ≤ a ∧ a ≤ hi) : mG M a j = r := t.1 a j r hr.1 hr.2 h
theorem TR.l {a n : Int} (t : TR X lo hi T M) (h : ((layL.getD (a - 1).toNat (99, 0)).2 : Int) = n) (hr : 1 ≤ a ∧ a ≤ 169) : ((mK M a).2 : Int) = n := by
  have := t.2 (a - 1).toNat (by omega)
  rw [show (((a - 1).toNat : Nat) : Int) + 1 = a by omega] at this
  rw [this, h]
theorem TR.st {al il xl a i x : Int} (t : TR X lo hi T M) (hM : M' = mS M a i x) (ha : a = al) (hi' : i = il) (hx : x = xl) : TR X lo hi (((al, il), xl) :: T) M' := by
  subst ha; subst hi'; subst hx
  refine ⟨fun b j r h1 h2 h => ?_, fun b hb => (st_k hM _).trans (t.2 b hb)⟩
  unfold tvo at h
  rw [List.find?_cons] at h
  by_cases e : b = a ∧ j = i
  · obtain ⟨e1, e2⟩ := e
    subst e1; subst e2
    rw [decide_eq_true (⟨rfl, rfl⟩ : b = b ∧ j = j)] at h
    have h : some x = some r := h
    rw [st_eq hM]; exact Option.some.inj h
  · rw [st_ne hM e]
    rw [decide_eq_false (fun z : a = b ∧ i = j => e ⟨z.1.symm, z.2.symm⟩)] at h
    exact t.1 b j r h1 h2 h
theorem TR.forget (t : TR X lo hi T M) : TR X lo hi (T.filter (fun e => decide (¬ e.1.1 = X))) M := by
  refine ⟨fun b j r h1 h2 h => ?_, t.2⟩
  refine t.1 b j r h1 h2 ?_
  unfold tvo at h ⊢
  rw [List.find?_filter] at h
  by_cases e : b = X
  · exfalso
    rw [List.find?_eq_none.mpr (fun x _ z => by
      have z := of_decide_eq_true z
      exact of_decide_eq_true z.1 ((of_decide_eq_true z.2).1.trans e)), if_pos e] at h
    cases h
  · have : (fun a : (Int × Int) × Int => decide (decide (¬ a.1.1 = X) = true ∧ decide (a.1.1 = b ∧ a.1.2 = j) = true)) = (fun a => decide (a.1.1 = b ∧ a.1.2 = j)) := by
      funext x
      by_cases z : x.1.1 = b ∧ x.1.2 = j
      · rw [decide_eq_true z, decide_eq_true (show ¬ x.1.1 = X from fun y => e (z.1.symm.trans y))]; rfl
      · rw [decide_eq_false z]
        exact decide_eq_false (fun w => by cases w.2)
    rw [this] at h
    exact h
theorem TR.wX {i x : Int} (t : TR X lo hi T M) (hT : ∀ e, e ∈ T → ¬ e.1.1 = X) (hM : M' = mS M X i x) : TR X lo hi T M' := by
  refine ⟨fun b j r h1 h2 h => ?_, fun b hb => (st_k hM _).trans (t.2 b hb)⟩
  by_cases e : b = X
  · exfalso
    unfold tvo at h
    rw [List.find?_eq_none.mpr (fun x hx z => by simp at z; exact hT x hx (z.1.trans e)), if_pos e] at h
    cases h
  · rw [st_ne hM (fun z => e z.1)]; exact t.1 b j r h1 h2 h
theorem cpl_find {al : Int} : ∀ (vs : List Int) (k b j : Int), (cpl al vs k).find? (fun e => decide (e.1.1 = b ∧ e.1.2 = j)) = if b = al ∧ k ≤ j ∧ j < k + (vs.length : Int) then some ((al, j), vs.getD (j - k).toNat 0) else none := by
  intro vs
  induction vs with
  | nil => intro k b j; rw [if_neg (fun z => by have z3 := z.2.2; have z2 := z.2.1; simp only [List.length_nil] at z3; omega)]; rfl
  | cons v vs ih =>
    intro k b j
    show (((al, k), v) :: cpl al vs (k + 1)).find? _ = _
    rw [List.find?_cons]
    by_cases e : al = b ∧ k = j
    · obtain ⟨e1, e2⟩ := e
      subst e1; subst e2
      rw [decide_eq_true (⟨rfl, rfl⟩ : al = al ∧ k = k), if_pos ⟨rfl, Int.le_refl _, by simp only [List.length_cons]; omega⟩, Int.sub_self]; rfl
    · rw [decide_eq_false e]
      show (cpl al vs (k + 1)).find? _ = _
      rw [ih]
      by_cases z : b = al ∧ k + 1 ≤ j ∧ j < k + 1 + (vs.length : Int)
      · rw [if_pos z, if_pos ⟨z.1, by omega, by simp only [List.length_cons]; omega⟩, show (j - k).toNat = (j - (k + 1)).toNat + 1 by omega]; rfl
      · rw [if_neg z, if_neg (fun y => by
          obtain ⟨y1, y2, y3⟩ := y
          simp only [List.length_cons] at y3
          by_cases x : k = j
          · exact e ⟨y1.symm, x⟩
          · exact z ⟨y1, by omega, by omega⟩)]
theorem TR.cp {vs : List Int} {al a0 sp a dp n : Int} (t : TR X lo hi T M) (hM : M' = mC M a0 sp a dp n) (h1 : a = al ∧ dp = 0 ∧ sp = 0) (h2 : n = (vs.length : Int)) (h3 : lo ≤ a0 ∧ a0 ≤ hi) (h4 : ∀ m, m < vs.length → tvo X T a0 (m : Int) = some (vs.getD m 0)) : TR X lo hi (cpl al vs 0 ++ T) M' := by
  obtain ⟨e1, e2, e3⟩ := h1
  subst e1; subst e2; subst e3; subst h2
  refine ⟨fun b j r b1 b2 h => ?_, fun b hb => (cp_k hM _).trans (t.2 b hb)⟩
  unfold tvo at h
  rw [List.find?_append, cpl_find] at h
  rw [cp_g hM]
  by_cases z : b = a ∧ 0 ≤ j ∧ j < 0 + (vs.length : Int)
  · rw [if_pos z] at h ⊢
    have h : some (vs.getD (j - 0).toNat 0) = some r := h
    have := t.v (h4 (j - 0).toNat (by omega)) h3
    rw [show (((j - 0).toNat : Nat) : Int) = 0 + (j - 0) by omega] at this
    rw [this]; exact Option.some.inj h
  · rw [if_neg z] at h ⊢
    exact t.1 b j r b1 b2 h
theorem TR.of (r : RepL 197 169 M) : TR X lo hi [] M := ⟨fun a j v _ _ h => by
  unfold tvo at h
  have h : (if a = X then none else some (lkL 197 a j)) = some v := h
  by_cases e : a = X
  · rw [if_pos e] at h; cases h
  · rw [if_neg e] at h; rw [r.2.2.1 a j]; exact Option.some.inj h, r.2.1⟩
theorem TR.fr (t : TR X lo hi T M) (h : ∀ a j, lo ≤ a → a ≤ hi → mG M' a j = mG M a j) (hk : ∀ b : Nat, b < 169 → mK M' ((b : Int) + 1) = mK M ((b : Int) + 1)) : TR X lo hi T M' := ⟨fun a j r h1 h2 e => (h a j h1 h2).trans (t.1 a j r h1 h2 e), fun b hb => (hk b hb).trans (t.2 b hb)⟩
section
variable {β : Type} {Q : β → Prop} {P : Int × Mem → Prop}
theorem p_it1 {C : Prop} [Decidable C] {a b : Option β} (h : C) (k : pw a Q) : pw (if C then a else b) Q := by rw [if_pos h]; exact k
theorem p_it0 {C : Prop} [Decidable C] {a b : Option β} (h : ¬ C) (k : pw b Q) : pw (if C then a else b) Q := by rw [if_neg h]; exact k
theorem p_ifle_l {x y r : Int} {a b : Option β} {_ : Decidable (x ≤ y)} (e : x = r) (h1 : r ≤ y → pw a Q) (h2 : ¬ r ≤ y → pw b Q) : pw (if x ≤ y then a else b) Q := by subst e; exact p_if h1 h2
theorem p_ifle_r {x y r : Int} {a b : Option β} {_ : Decidable (x ≤ y)} (e : y = r) (h1 : x ≤ r → pw a Q) (h2 : ¬ x ≤ r → pw b Q) : pw (if x ≤ y then a else b) Q := by subst e; exact p_if h1 h2
theorem p_iflt_l {x y r : Int} {a b : Option β} {_ : Decidable (x < y)} (e : x = r) (h1 : r < y → pw a Q) (h2 : ¬ r < y → pw b Q) : pw (if x < y then a else b) Q := by subst e; exact p_if h1 h2
theorem p_iflt_r {x y r : Int} {a b : Option β} {_ : Decidable (x < y)} (e : y = r) (h1 : x < r → pw a Q) (h2 : ¬ x < r → pw b Q) : pw (if x < y then a else b) Q := by subst e; exact p_if h1 h2
theorem p_ifeq_l {x y r : Int} {a b : Option β} {_ : Decidable (x = y)} (e : x = r) (h1 : r = y → pw a Q) (h2 : ¬ r = y → pw b Q) : pw (if x = y then a else b) Q := by subst e; exact p_if h1 h2
theorem p_ifeq_r {x y r : Int} {a b : Option β} {_ : Decidable (x = y)} (e : y = r) (h1 : x = r → pw a Q) (h2 : ¬ x = r → pw b Q) : pw (if x = y then a else b) Q := by subst e; exact p_if h1 h2
theorem p_rc {v r : Int} (h : v = r) (k : P (r, M)) : pw (some (v, M)) P := by subst h; exact p_ret k
theorem p_bindg {x : Option (Int × Mem)} {f : Int × Mem → Option β} (h : ∀ Q2 : Int × Mem → Prop, (∀ a, pw (f a) Q → Q2 a) → pw x Q2) : pw (x.bind f) Q := by
  have := h (fun a => pw (f a) Q) (fun _ z => z)
  intro a e
  cases hx : x with
  | none => rw [hx] at e; cases e
  | some q => rw [hx] at e; exact this q hx a e
theorem p_tGc {L : List Int} {i r : Int} {f : Int → Option β} (h : L.getD i.toNat 0 = r) (k : pw (f r) Q) : pw ((tG L i).bind f) Q := by
  unfold tG; split
  · rw [h]; exact k
  · exact p_none
theorem p_dQc {x y r : Int} {f : Int → Option β} (h : idiv x y = r) (k : pw (f r) Q) : pw ((dQ x y).bind f) Q := p_dQ (fun v hv => by rw [hv, h]; exact k)
theorem p_dM {x y : Int} {f : Int → Option β} (k : ∀ v, v = irem x y → pw (f v) Q) : pw ((dM x y).bind f) Q := by
  unfold dM; split
  · exact p_none
  · exact k _ rfl
theorem p_dMc {x y r : Int} {f : Int → Option β} (h : irem x y = r) (k : pw (f r) Q) : pw ((dM x y).bind f) Q := p_dM (fun v hv => by rw [hv, h]; exact k)
theorem p_tG {L : List Int} {i : Int} {f : Int → Option β} (k : ∀ v, pw (f v) Q) : pw ((tG L i).bind f) Q := by
  unfold tG; split
  · exact k _
  · exact p_none
theorem p_val {x : Option (Int × Mem)} {r : Int} (h : pw x (fun q => q.1 = r ∧ q.2 = M)) (k : pw (some (r, M)) P) : pw x P :=
  p_mono h (fun q e => by obtain ⟨a, m⟩ := q; obtain ⟨e1, e2⟩ := e; have e1 : a = r := e1; have e2 : m = M := e2; subst e1; subst e2; exact k _ rfl)
theorem p_val2 {x : Option (Int × Mem)} {r : Int} (h : pw x (fun q => q.1 = r ∧ TR X lo hi T q.2)) (k : ∀ M', TR X lo hi T M' → pw (some (r, M')) P) : pw x P :=
  p_mono h (fun q e => by obtain ⟨a, m⟩ := q; obtain ⟨e1, e2⟩ := e; have e1 : a = r := e1; subst e1; exact k m e2 _ rfl)
end
end TR
end
section
/-! ===== texts, as both sides read them ===== -/
abbrev RE : Type := (Int → Int) × Int × Int × (Int → Int) × (Int → Int)
def RE.t (E : RE) : Int → Int := E.1
def RE.n (E : RE) : Int := E.2.1
def RE.nr (E : RE) : Int := E.2.2.1
def RE.k1 (E : RE) : Int → Int := E.2.2.2.1
def RE.k2 (E : RE) : Int → Int := E.2.2.2.2
/-- the first place from p on where P ends -/
def ru (P : Int → Bool) : Nat → Int → Int
  | 0, p => p
  | k + 1, p => if P p = true then ru P k (p + 1) else p
theorem ru_eq {P : Int → Bool} : ∀ (k : Nat) (p q : Int), p ≤ q → q - p ≤ (k : Int) → (∀ i, p ≤ i → i < q → P i = true) → P q = false → ru P k p = q := by
  intro k
  induction k with
  | zero =>
    intro p q h1 h2 h3 h4
    show p = q
    omega
  | succ k ih =>
    intro p q h1 h2 h3 h4
    show (if P p = true then ru P k (p + 1) else p) = q
    by_cases e : p = q
    · subst e
      rw [if_neg (by rw [h4]; decide)]
    · rw [if_pos (h3 p (Int.le_refl _) (by omega))]
      exact ih (p + 1) q (by omega) (by omega) (fun i i0 i1 => h3 i (by omega) i1) h4
theorem ru_spec {P : Int → Bool} {n : Int} (hn : ∀ i, P i = true → i < n) : ∀ (k : Nat) (p : Int), n - p ≤ (k : Int) → p ≤ ru P k p ∧ (∀ i, p ≤ i → i < ru P k p → P i = true) ∧ P (ru P k p) = false ∧ (ru P k p ≤ n ∨ ru P k p = p) := by
  intro k
  induction k with
  | zero =>
    intro p h
    refine ⟨Int.le_refl _, fun i i0 i1 => ?_, ?_, Or.inr rfl⟩
    · have i1 : i < p := i1
      exact absurd i1 (by omega)
    · show P p = false
      cases e : P p with
      | false => rfl
      | true => have := hn p e; exfalso; omega
  | succ k ih =>
    intro p h
    have e0 : ru P (k + 1) p = if P p = true then ru P k (p + 1) else p := rfl
    by_cases e : P p = true
    · rw [e0, if_pos e]
      obtain ⟨a1, a2, a3, a4⟩ := ih (p + 1) (by omega)
      refine ⟨by omega, fun i i0 i1 => ?_, a3, ?_⟩
      · by_cases z : i = p
        · rw [z]; exact e
        · exact a2 i (by omega) i1
      · have := hn p e
        rcases a4 with a4 | a4
        · exact Or.inl a4
        · left; omega
    · rw [e0, if_neg e]
      refine ⟨Int.le_refl _, fun i i0 i1 => absurd i1 (by omega), ?_, Or.inr rfl⟩
      cases z : P p with
      | false => rfl
      | true => exact absurd z e
section
variable (E : RE)
def RE.blk (p : Int) : Bool := decide (p < E.n ∧ (E.t p = 10 ∨ E.t p = 32))
def RE.let' (p : Int) : Bool := decide (p < E.n ∧ 97 ≤ E.t p ∧ E.t p ≤ 122)
def RE.dig (p : Int) : Bool := decide (p < E.n ∧ 48 ≤ E.t p ∧ E.t p ≤ 57)
def RE.sk (p : Int) : Int := ru E.blk 400 p
def RE.we (p : Int) : Int := ru E.let' 400 p
def RE.de (p : Int) : Int := ru E.dig 400 p
/-- the bytes of a word -/
def RE.wd (b : Int) : List Int := (List.range (E.we b - b).toNat).map (fun (i : Nat) => E.t (b + (i : Int)))
/-- the value of the digits from b, k of them -/
def RE.val (b : Int) : Nat → Int
  | 0 => 0
  | k + 1 => 10 * RE.val b k + E.t (b + (k : Int)) - 48
end
def actW (w : List Int) : Int :=
  if w = [97, 108, 108] then 0 else if w = [115, 111, 109, 101] then 1 else if w = [108, 101, 97, 115, 116] then 2 else if w = [109, 111, 115, 116] then 3 else if w = [110, 111, 116] then 4 else if w = [97, 110, 100] then 5 else if w = [111, 114] then 6 else if w = [105, 102] then 7 else if w = [115, 97, 109, 101] then 8 else if w = [114, 101, 97, 99, 104] then 9 else if w = [116, 114, 101, 101] then 10 else -1
def varW (w : List Int) : Int := if w = [120] then 0 else if w = [121] then 1 else if w = [122] then 2 else if w = [119] then 3 else -1
def kindW (w : List Int) : Int := if w = [109, 97, 110] then 0 else if w = [104, 111, 117, 115, 101] then 1 else if w = [100, 97, 121] then 2 else -1
def relW (nr : Int) (w : List Int) : Int :=
  let r : Int := if w = [114] then 0 else if w = [115] then 1 else if w = [116] then 2 else if w = [117] then 3 else -1
  if nr ≤ r then -1 else r
/-- the class's number of a variable: w x y z -/
def cv (v : Int) : Int := if v = 3 then 0 else v + 1
def bnd (bo v : Int) : Int := let k := iand (ishr bo (wI (2 * v))) 3; if k = 3 then -1 else k
def cbd (sc v : Int) : Int := iand (ishr sc (wI (4 * cv v))) 15
def slt (sc v : Int) : Int := ishr (wI (cbd sc v - 1)) 2
def bindC (sc v k s : Int) : Int := ior (ior (iand (iand sc 65535) (ixor (ishl 15 (wI (4 * v))) (-1))) (ishl (wI (wI (1 + k) + wI (4 * s))) (wI (4 * v)))) (ishl (wI (ishr sc 16 + 1)) 16)
def bindR (bo v k : Int) : Int := wI (ior (iand bo (ixor (ishl 3 (wI (2 * v))) (-1))) (ishl k (wI (2 * v))) + 256)
abbrev Row : Type := Int × Int × Int × Int × Int × Int × Int × Int
def Row.c0 (r : Row) : Int := r.1
def Row.c1 (r : Row) : Int := r.2.1
def Row.c2 (r : Row) : Int := r.2.2.1
def Row.c3 (r : Row) : Int := r.2.2.2.1
def Row.r0 (r : Row) : Int := r.2.2.2.2.1
def Row.r1 (r : Row) : Int := r.2.2.2.2.2.1
def Row.r2 (r : Row) : Int := r.2.2.2.2.2.2.1
def Row.r3 (r : Row) : Int := r.2.2.2.2.2.2.2
abbrev RS : Type := Int × List (Int × Int) × List Row
def RS.b (S : RS) : Int := S.1
def RS.ws (S : RS) : List (Int × Int) := S.2.1
def RS.ps (S : RS) : List Row := S.2.2
section
variable (E : RE)
/-- a variable that must be bound, as this kind where one is given: its number, and the next token's place -/
def RE.rv (bo kind b : Int) : Option (Int × Int) :=
  let v := varW (E.wd b)
  if v = -1 then none else if bnd bo v = -1 then none else if ¬ kind = -1 ∧ ¬ bnd bo v = kind then none else some (v, E.sk (E.we b))
def RE.rn (a b : Int) : Option (Int × Int) :=
  if a < 2 then some (0, b) else if E.dig b = true ∧ E.de b - b ≤ 4 then some (E.val b (E.de b - b).toNat, E.sk (E.de b)) else none
def RE.rBind (a sc bo : Int) (ws : List (Int × Int)) (ps : List Row) (b : Int) : Option RS :=
  if 4 ≤ ishr sc 16 then none else
  (E.rn a (E.sk (E.we b))).bind fun c =>
  let v := varW (E.wd c.2)
  if v = -1 then none else
  let b3 := E.sk (E.we c.2)
  let k := kindW (E.wd b3)
  if k = -1 then none else
  some ⟨E.sk (E.we b3), (bindC sc (cv v) k (ishr sc 16), bindR bo v k) :: ws, ps ++ [⟨a, c.1, ishr sc 16, k, a, v, k, c.1⟩]⟩
def RE.rSame (sc bo : Int) (ws : List (Int × Int)) (ps : List Row) (b : Int) : Option RS :=
  (E.rv bo (-1) (E.sk (E.we b))).bind fun x =>
  (E.rv bo (bnd bo x.1) x.2).bind fun y =>
  some ⟨y.2, ws, ps ++ [⟨8, 0, slt sc x.1, slt sc y.1, 8, x.1, y.1, 0⟩]⟩
/-- the relation of reach and tree -/
def RE.rRoad (b : Int) : Option (Int × Int) :=
  let r := relW E.nr (E.wd b)
  if r = -1 then none else if ¬ E.k2 r = E.k1 r then none else some (r, E.sk (E.we b))
def RE.rReach (sc bo : Int) (ws : List (Int × Int)) (ps : List Row) (b : Int) : Option RS :=
  (E.rRoad (E.sk (E.we b))).bind fun r =>
  (E.rv bo (E.k1 r.1) r.2).bind fun x =>
  (E.rv bo (E.k2 r.1) x.2).bind fun y =>
  some ⟨y.2, ws, ps ++ [⟨9, r.1, slt sc x.1, slt sc y.1, 9, r.1, x.1, y.1⟩]⟩
def RE.rTree (ws : List (Int × Int)) (ps : List Row) (b : Int) : Option RS :=
  (E.rRoad (E.sk (E.we b))).bind fun r => some ⟨r.2, ws, ps ++ [⟨10, r.1, 0, 0, 10, r.1, 0, 0⟩]⟩
def RE.rFact (sc bo : Int) (ws : List (Int × Int)) (ps : List Row) (b : Int) : Option RS :=
  let r := relW E.nr (E.wd b)
  if r = -1 then none else
  (E.rv bo (E.k1 r) (E.sk (E.we b))).bind fun x =>
  if E.k2 r = -1 then some ⟨x.2, ws, ps ++ [⟨11, r, slt sc x.1, 0, 11, r, x.1, 0⟩]⟩ else
  (E.rv bo (E.k2 r) x.2).bind fun y =>
  some ⟨y.2, ws, ps ++ [⟨11, r, slt sc x.1, slt sc y.1, 12, r, x.1, y.1⟩]⟩
/-- one part; none: a fault, whichever -/
def RE.rPart (S : RS) : Option RS :=
  match S.ws with
  | [] => none
  | (sc, bo) :: ws =>
    if 40 ≤ S.ps.length then none else
    let a := actW (E.wd S.b)
    if a = -1 then E.rFact sc bo ws S.ps S.b
    else if a ≤ 3 then E.rBind a sc bo ws S.ps S.b
    else if a = 8 then E.rSame sc bo ws S.ps S.b
    else if a = 9 then E.rReach sc bo ws S.ps S.b
    else if a = 10 then E.rTree ws S.ps S.b
    else some ⟨E.sk (E.we S.b), if a = 4 then (sc, bo) :: ws else (sc, bo) :: (sc, bo) :: ws, S.ps ++ [⟨a, 0, 0, 0, a, 0, 0, 0⟩]⟩
def RE.rLoop : Nat → RS → Option RS
  | 0, _ => none
  | k + 1, S => if S.ws = [] then some S else (E.rPart S).bind (RE.rLoop k)
def RE.rText : Option (List Row) := (E.rLoop 42 ⟨E.sk 0, [(0, 255)], []⟩).bind fun S => if E.n ≤ S.b then some S.ps else none
end
end
