/-! ===== calls that change what Rel sees ===== -/
theorem J.hn {M : Mem} (h : J M) : (169 : Int) ≤ ((mN M : Nat) : Int) := by have := h.1.2.2.2.2.1; omega
theorem SR.z {M : Mem} (h : SR 0 M) : (∀ k : Int, 0 ≤ k → k < 3 → mG M 5 k = mG M 133 k) ∧ mG M 4 6 = mG M 134 0 ∧ (∀ r : Int, 0 ≤ r → r < mG M 134 0 → mG M 6 r = mG M 135 r ∧ mG M 7 r = mG M 136 r) ∧ LO 4 M ∧ mG M 3 5 = mG M 128 0 ∧ mG M 3 13 = mG M 131 0 ∧ mG M 3 14 = mG M 132 0 ∧ mG M 3 18 = mG M 146 0 := by
  obtain ⟨h1, h2, h3, h4, h5⟩ := h
  refine ⟨fun k k0 k1 => ?_, h2, fun r r0 r1 => ?_, h4, h5⟩
  · have := h1 k k0 k1
    rw [show 3 * (0 : Int) + k = k by omega] at this; exact this
  · have := h3 r r0 r1
    rw [show 4 * (0 : Int) + r = r by omega] at this; exact this
theorem SR.mz {M : Mem} (h1 : ∀ k : Int, 0 ≤ k → k < 3 → mG M 5 k = mG M 133 k) (h2 : mG M 4 6 = mG M 134 0) (h3 : ∀ r : Int, 0 ≤ r → r < mG M 134 0 → mG M 6 r = mG M 135 r ∧ mG M 7 r = mG M 136 r) (h4 : LO 4 M) (h5 : mG M 3 5 = mG M 128 0) (h6 : mG M 3 13 = mG M 131 0) (h7 : mG M 3 14 = mG M 132 0) (h8 : mG M 3 18 = mG M 146 0) : SR 0 M := by
  refine ⟨fun k k0 k1 => ?_, h2, fun r r0 r1 => ?_, h4, h5, h6, h7, h8⟩
  · rw [show 3 * (0 : Int) + k = k by omega]; exact h1 k k0 k1
  · rw [show 4 * (0 : Int) + r = r by omega]; exact h3 r r0 r1
theorem wf8 {n : Nat} {W : Int → Int → Prop} {M M' : Mem} (iM : I n M) (h : WF M) (k : Keep n W M M') (hw : ∀ b j, W b j → b ≤ 125) : WF M' := h.kp iM k (fun b j z => by have := hw b j z; omega)
def EQ (q1 q2 : Int × Mem) : Prop := q1.1 = q2.1
/-- cells of neither the images nor their slots -/
theorem SD1 {i b j : Int} (hi : 1 ≤ i) (h : SD i b j) : (b = 133 ∧ 3 ≤ j) ∨ ((b = 134 ∨ b = 128 ∨ b = 131 ∨ b = 132 ∨ b = 146) ∧ 1 ≤ j) ∨ ((b = 135 ∨ b = 136) ∧ 4 ≤ j) := by
  unfold SD at h
  rcases h with h | h | h
  · exact Or.inl ⟨h.1, by omega⟩
  · exact Or.inr (Or.inl ⟨h.1, by omega⟩)
  · exact Or.inr (Or.inr ⟨h.1, by omega⟩)
theorem SD1b {i b j : Int} (hi : 1 ≤ i) (h : SD i b j) : 128 ≤ b ∧ b ≤ 146 ∧ ¬ b = 137 ∧ (b = 133 → 3 ≤ j) ∧ (b = 134 → 1 ≤ j) ∧ (b = 128 → 1 ≤ j) ∧ (b = 131 → 1 ≤ j) ∧ (b = 132 → 1 ≤ j) ∧ (b = 146 → 1 ≤ j) ∧ (b = 135 → 4 ≤ j) ∧ (b = 136 → 4 ≤ j) := by
  rcases SD1 hi h with z | z | z
  · omega
  · omega
  · omega
theorem j_size {l1 l2 : Int} {M : Mem} (r1 : (-2147483648) ≤ l1 ∧ l1 ≤ 2147483647) (r2 : (-2147483648) ≤ l2 ∧ l2 ≤ 2147483647) (h : J M) : wp (mX8_size 1 l1 l2 M) (fun q1 => wp (mX9_size 126 l1 l2 q1.2) (fun q2 => J q2.2 ∧ EQ q1 q2)) := by
  obtain ⟨iM, wf, rel⟩ := h
  refine w_mono (w_pw (s_X8_size r1 r2 iM) (pl_size iM)) ?_
  rintro ⟨a, M1⟩ ⟨⟨i1, k1, -, -⟩, h1⟩
  have i1 : I (mN M) M1 := i1
  have k1 : Keep (mN M) W_X8_size M M1 := k1
  have w1 := wf8 iM wf k1 (fun b j z => by unfold W_X8_size at z; omega)
  refine w_mono (w_pw (s_X9_size r1 r2 i1) (pr_size i1)) ?_
  rintro ⟨b, M2⟩ ⟨⟨i2, k2, -, -⟩, h2⟩
  have i2 : I (mN M) M2 := i2
  have k2 : Keep (mN M) W_X9_size M1 M2 := k2
  have w2 := w1.kp i1 k2 (fun b j z => by unfold W_X9_size at z; omega)
  have hn : (169 : Int) ≤ ((mN M : Nat) : Int) := by have := iM.2.2.2.2.1; omega
  have s0 := (rel.1 0 (by decide) (by decide) (Or.inl rfl)).z
  have e9 : ∀ b j : Int, 126 ≤ b → b ≤ 169 → mG M1 b j = mG M b j := fun b j b0 b1 => k1.2.2 b j (by omega) (fun z => by unfold W_X8_size at z; omega)
  have hC : C_size l1 l2 M ↔ (0 ≤ l1 ∧ l1 ≤ 2 ∧ 1 ≤ l2 ∧ l2 ≤ 3 ∧ ¬ mG M1 133 l1 = l2) := by
    unfold C_size
    constructor
    · rintro ⟨x1, x2, x3, x4, x5⟩
      exact ⟨x1, x2, x3, x4, by rw [e9 133 l1 (by decide) (by decide), ← s0.1 l1 x1 (by omega)]; exact x5⟩
    · rintro ⟨x1, x2, x3, x4, x5⟩
      exact ⟨x1, x2, x3, x4, by rw [s0.1 l1 x1 (by omega), ← e9 133 l1 (by decide) (by decide)]; exact x5⟩
  rcases h1 with ⟨p1, p2, p3⟩ | ⟨p1, p2, p3, p4, p5⟩
  · have p1 : a = 0 := p1
    have p3 : M1 = M := p3
    subst p3
    rcases h2 with ⟨q1, q2, q3⟩ | ⟨q1, q2, q3, q4⟩
    · exact ⟨J.mk i2 w2 (rel.fr iM (fun b j z => q3 b j (by unfold RC at z; omega))), p1.trans (Eq.symm q1)⟩
    · exact absurd (hC.mpr q2) p2
  · have p1 : a = 1 := p1
    have p4 : mG M1 5 l1 = l2 := p4
    have p5 : ∀ b j : Int, ¬ (b = 5 ∧ j = l1) → ¬ (b = 4 ∧ j = 7) → ¬ (8 ≤ b ∧ b ≤ 10) → ¬ (b = 3 ∧ j = 1) → ¬ b = 12 → ¬ b = 2 → ¬ b = 24 → mG M1 b j = mG M b j := p5
    rcases h2 with ⟨q1, q2, q3⟩ | ⟨q1, q2, q3, q4⟩
    · exact absurd (hC.mp p2) q2
    · have q3 : mG M2 133 l1 = l2 := q3
      have q4 : ∀ b j : Int, ¬ b = 126 → ¬ (b = 133 ∧ j = l1) → ¬ b = 137 → ¬ b = 151 → mG M2 b j = mG M1 b j := q4
      have e8 : ∀ b j : Int, b ≤ 125 → mG M2 b j = mG M1 b j := fun b j hb => q4 b j (by omega) (by omega) (by omega) (by omega)
      have x2 := q2.1
      have x3 := q2.2.1
      have ex : ∀ b j : Int, 126 ≤ b → b ≤ 169 → ¬ b = 126 → ¬ (b = 133 ∧ j = l1) → ¬ b = 137 → ¬ b = 151 → mG M2 b j = mG M b j := fun b j b0 b1 x y z w => (q4 b j x y z w).trans (e9 b j b0 b1)
      have ec : ∀ b j : Int, b ≤ 125 → ¬ (b = 5 ∧ j = l1) → ¬ (b = 4 ∧ j = 7) → ¬ (8 ≤ b ∧ b ≤ 10) → ¬ (b = 3 ∧ j = 1) → ¬ b = 12 → ¬ b = 2 → ¬ b = 24 → mG M2 b j = mG M b j := fun b j hb x y z w u v t => (e8 b j hb).trans (p5 b j x y z w u v t)
      refine ⟨J.mk i2 w2 (rel.r0 iM (SR.mz (fun k k0 k1 => ?_) ?_ (fun r r0 r1' => ?_) (p3.of (fun b j b0 b1 => e8 b j (by omega))) ?_ ?_ ?_ ?_) (fun b j b0 b1 => ec b j b1 (by omega) (by omega) (by omega) (by omega) (by omega) (by omega) (by omega)) (fun i b j hi hi4 z => ?_) (fun j => ex 169 j (by decide) (by decide) (by decide) (by omega) (by decide) (by decide))), p1.trans (Eq.symm q1)⟩
      · by_cases e : k = l1
        · subst e; rw [e8 5 k (by decide), p4, q3]
        · rw [ec 5 k (by decide) (by omega) (by omega) (by omega) (by omega) (by decide) (by decide) (by decide), ex 133 k (by decide) (by decide) (by decide) (by omega) (by decide) (by decide)]; exact s0.1 k k0 k1
      · rw [ec 4 6 (by decide) (by omega) (by omega) (by omega) (by omega) (by decide) (by decide) (by decide), ex 134 0 (by decide) (by decide) (by decide) (by omega) (by decide) (by decide)]; exact s0.2.1
      · rw [ex 134 0 (by decide) (by decide) (by decide) (by omega) (by decide) (by decide)] at r1'
        rw [ec 6 r (by decide) (by omega) (by omega) (by omega) (by omega) (by decide) (by decide) (by decide), ec 7 r (by decide) (by omega) (by omega) (by omega) (by omega) (by decide) (by decide) (by decide), ex 135 r (by decide) (by decide) (by decide) (by omega) (by decide) (by decide), ex 136 r (by decide) (by decide) (by decide) (by omega) (by decide) (by decide)]
        exact s0.2.2.1 r r0 r1'
      · rw [ec 3 5 (by decide) (by omega) (by omega) (by omega) (by omega) (by decide) (by decide) (by decide), ex 128 0 (by decide) (by decide) (by decide) (by omega) (by decide) (by decide)]; exact s0.2.2.2.2.1
      · rw [ec 3 13 (by decide) (by omega) (by omega) (by omega) (by omega) (by decide) (by decide) (by decide), ex 131 0 (by decide) (by decide) (by decide) (by omega) (by decide) (by decide)]; exact s0.2.2.2.2.2.1
      · rw [ec 3 14 (by decide) (by omega) (by omega) (by omega) (by omega) (by decide) (by decide) (by decide), ex 132 0 (by decide) (by decide) (by decide) (by omega) (by decide) (by decide)]; exact s0.2.2.2.2.2.2.1
      · rw [ec 3 18 (by decide) (by omega) (by omega) (by omega) (by omega) (by decide) (by decide) (by decide), ex 146 0 (by decide) (by decide) (by decide) (by omega) (by decide) (by decide)]; exact s0.2.2.2.2.2.2.2
      · have z := SD1b hi z
        exact ex b j (by omega) (by omega) (by omega) (by omega) (by omega) (by omega)
theorem j_relation {l1 l2 : Int} {M : Mem} (r1 : (-2147483648) ≤ l1 ∧ l1 ≤ 2147483647) (r2 : (-2147483648) ≤ l2 ∧ l2 ≤ 2147483647) (h : J M) : wp (mX8_relation 1 l1 l2 M) (fun q1 => wp (mX9_relation 126 l1 l2 q1.2) (fun q2 => J q2.2 ∧ EQ q1 q2)) := by
  obtain ⟨iM, wf, rel⟩ := h
  refine w_mono (w_pw (s_X8_relation r1 r2 iM) (pl_relation iM)) ?_
  rintro ⟨a, M1⟩ ⟨⟨i1, k1, -, -⟩, h1⟩
  have i1 : I (mN M) M1 := i1
  have k1 : Keep (mN M) W_X8_relation M M1 := k1
  have w1 := wf8 iM wf k1 (fun b j z => by unfold W_X8_relation at z; omega)
  refine w_mono (w_pw (s_X9_relation r1 r2 i1) (pr_relation i1)) ?_
  rintro ⟨b, M2⟩ ⟨⟨i2, k2, -, -⟩, h2⟩
  have i2 : I (mN M) M2 := i2
  have k2 : Keep (mN M) W_X9_relation M1 M2 := k2
  have w2 := w1.kp i1 k2 (fun b j z => by unfold W_X9_relation at z; omega)
  have hn : (169 : Int) ≤ ((mN M : Nat) : Int) := by have := iM.2.2.2.2.1; omega
  have s0 := (rel.1 0 (by decide) (by decide) (Or.inl rfl)).z
  have e9 : ∀ b j : Int, 126 ≤ b → b ≤ 169 → mG M1 b j = mG M b j := fun b j b0 b1 => k1.2.2 b j (by omega) (fun z => by unfold W_X8_relation at z; omega)
  have e134 : mG M1 134 0 = mG M 4 6 := (e9 134 0 (by decide) (by decide)).trans s0.2.1.symm
  have rr := rd_Shape_6 iM (a := 4) rfl
  rw [e134] at h2
  rcases h1 with ⟨p1, p2, p3⟩ | ⟨p1, p2, p3, p4, p5, p6, p7⟩
  · have p1 : a = -1 := p1
    have p3 : M1 = M := p3
    subst p3
    rcases h2 with ⟨q1, q2, q3⟩ | ⟨q1, q2, q3⟩
    · exact ⟨J.mk i2 w2 (rel.fr iM (fun b j z => q3 b j (by unfold RC at z; omega))), p1.trans (Eq.symm q1)⟩
    · exact absurd q2 p2
  · obtain ⟨R, hR⟩ : ∃ R, mG M 4 6 = R := ⟨_, rfl⟩
    rw [hR] at p1 p4 p5 p6 p7 h2 e134 rr
    have p1 : a = R := p1
    have p4 : mG M1 4 6 = R + 1 := p4
    have p5 : mG M1 6 R = l1 := p5
    have p6 : mG M1 7 R = l2 := p6
    have p7 : ∀ b j : Int, ¬ (b = 6 ∧ j = R) → ¬ (b = 7 ∧ j = R) → ¬ (b = 4 ∧ j = 6) → ¬ (b = 4 ∧ j = 7) → ¬ (8 ≤ b ∧ b ≤ 10) → ¬ (b = 3 ∧ j = 1) → ¬ b = 12 → ¬ b = 2 → ¬ b = 24 → mG M1 b j = mG M b j := p7
    rcases h2 with ⟨q1, q2, q3⟩ | ⟨q1, q2, q3, q4, q5, q6⟩
    · unfold C_rel at p2
      rw [hR] at p2
      exact absurd p2 q2
    · have q3 : mG M2 134 0 = R + 1 := q3
      have q4 : mG M2 135 R = l1 := q4
      have q5 : mG M2 136 R = l2 := q5
      have q6 : ∀ b j : Int, ¬ b = 126 → ¬ (b = 134 ∧ j = 0) → ¬ (b = 135 ∧ j = R) → ¬ (b = 136 ∧ j = R) → ¬ b = 137 → ¬ b = 151 → mG M2 b j = mG M1 b j := q6
      have e8 : ∀ b j : Int, b ≤ 125 → mG M2 b j = mG M1 b j := fun b j hb => q6 b j (by omega) (by omega) (by omega) (by omega) (by omega) (by omega)
      have hR4 := q2.1
      have ex : ∀ b j : Int, 126 ≤ b → b ≤ 169 → ¬ b = 126 → ¬ (b = 134 ∧ j = 0) → ¬ (b = 135 ∧ j = R) → ¬ (b = 136 ∧ j = R) → ¬ b = 137 → ¬ b = 151 → mG M2 b j = mG M b j := fun b j b0 b1 x y z w u v => (q6 b j x y z w u v).trans (e9 b j b0 b1)
      have ec : ∀ b j : Int, b ≤ 125 → ¬ (b = 6 ∧ j = R) → ¬ (b = 7 ∧ j = R) → ¬ (b = 4 ∧ j = 6) → ¬ (b = 4 ∧ j = 7) → ¬ (8 ≤ b ∧ b ≤ 10) → ¬ (b = 3 ∧ j = 1) → ¬ b = 12 → ¬ b = 2 → ¬ b = 24 → mG M2 b j = mG M b j := fun b j hb x1 x2 x3 x4 x5 x6 x7 x8 x9 => (e8 b j hb).trans (p7 b j x1 x2 x3 x4 x5 x6 x7 x8 x9)
      refine ⟨J.mk i2 w2 (rel.r0 iM (SR.mz (fun k k0 k1 => ?_) ?_ (fun r r0 r1' => ?_) (p3.of (fun b j b0 b1 => e8 b j (by omega))) ?_ ?_ ?_ ?_) (fun b j b0 b1 => ec b j b1 (by omega) (by omega) (by omega) (by omega) (by omega) (by omega) (by omega) (by omega) (by omega)) (fun i b j hi hi4 z => ?_) (fun j => ex 169 j (by decide) (by decide) (by decide) (by omega) (by omega) (by omega) (by decide) (by decide))), p1.trans (Eq.symm q1)⟩
      · rw [ec 5 k (by decide) (by omega) (by omega) (by omega) (by omega) (by omega) (by omega) (by decide) (by decide) (by decide), ex 133 k (by decide) (by decide) (by decide) (by omega) (by omega) (by omega) (by decide) (by decide)]; exact s0.1 k k0 k1
      · rw [e8 4 6 (by decide), p4, q3]
      · rw [q3] at r1'
        by_cases e : r = R
        · subst e; rw [e8 6 r (by decide), e8 7 r (by decide), p5, p6, q4, q5]; exact ⟨rfl, rfl⟩
        · rw [ec 6 r (by decide) (by omega) (by omega) (by omega) (by omega) (by omega) (by omega) (by decide) (by decide) (by decide), ec 7 r (by decide) (by omega) (by omega) (by omega) (by omega) (by omega) (by omega) (by decide) (by decide) (by decide), ex 135 r (by decide) (by decide) (by decide) (by omega) (by omega) (by omega) (by decide) (by decide), ex 136 r (by decide) (by decide) (by decide) (by omega) (by omega) (by omega) (by decide) (by decide)]
          exact s0.2.2.1 r r0 (by rw [← s0.2.1, hR]; omega)
      · rw [ec 3 5 (by decide) (by omega) (by omega) (by omega) (by omega) (by omega) (by omega) (by decide) (by decide) (by decide), ex 128 0 (by decide) (by decide) (by decide) (by omega) (by omega) (by omega) (by decide) (by decide)]; exact s0.2.2.2.2.1
      · rw [ec 3 13 (by decide) (by omega) (by omega) (by omega) (by omega) (by omega) (by omega) (by decide) (by decide) (by decide), ex 131 0 (by decide) (by decide) (by decide) (by omega) (by omega) (by omega) (by decide) (by decide)]; exact s0.2.2.2.2.2.1
      · rw [ec 3 14 (by decide) (by omega) (by omega) (by omega) (by omega) (by omega) (by omega) (by decide) (by decide) (by decide), ex 132 0 (by decide) (by decide) (by decide) (by omega) (by omega) (by omega) (by decide) (by decide)]; exact s0.2.2.2.2.2.2.1
      · rw [ec 3 18 (by decide) (by omega) (by omega) (by omega) (by omega) (by omega) (by omega) (by decide) (by decide) (by decide), ex 146 0 (by decide) (by decide) (by decide) (by omega) (by omega) (by omega) (by decide) (by decide)]; exact s0.2.2.2.2.2.2.2
      · have z := SD1b hi z
        exact ex b j (by omega) (by omega) (by omega) (by omega) (by omega) (by omega) (by omega) (by omega)
/-- slot 0's scalars alone have changed: what stays -/
theorem Rel.sc {n : Nat} {M M1 M2 : Mem} (iM : I n M) (rel : Rel M) (e8 : ∀ b j : Int, (4 ≤ b ∧ b ≤ 10) ∨ (74 ≤ b ∧ b ≤ 125) → mG M2 b j = mG M b j) (e9 : ∀ b j : Int, (133 ≤ b ∧ b ≤ 136) ∨ b = 169 ∨ ((b = 128 ∨ b = 131 ∨ b = 132 ∨ b = 146) ∧ 1 ≤ j) → mG M2 b j = mG M b j) (h5 : mG M2 3 5 = mG M2 128 0) (h6 : mG M2 3 13 = mG M2 131 0) (h7 : mG M2 3 14 = mG M2 132 0) (h8 : mG M2 3 18 = mG M2 146 0) : Rel M2 := by
  have s0 := (rel.1 0 (by decide) (by decide) (Or.inl rfl)).z
  refine rel.r0 iM (SR.mz (fun k k0 k1 => ?_) ?_ (fun r r0 r1 => ?_) (s0.2.2.2.1.of (fun b j b0 b1 => e8 b j (Or.inl ⟨b0, by omega⟩))) h5 h6 h7 h8) (fun b j b0 b1 => e8 b j (Or.inr ⟨b0, b1⟩)) (fun i b j hi hi4 z => ?_) (fun j => e9 169 j (Or.inr (Or.inl rfl)))
  · rw [e8 5 k (by decide), e9 133 k (Or.inl (by decide))]; exact s0.1 k k0 k1
  · rw [e8 4 6 (by decide), e9 134 0 (by decide)]; exact s0.2.1
  · rw [e9 134 0 (by decide)] at r1
    rw [e8 6 r (by decide), e8 7 r (by decide), e9 135 r (Or.inl (by decide)), e9 136 r (Or.inl (by decide))]
    exact s0.2.2.1 r r0 r1
  · refine e9 b j ?_
    rcases SD1 hi z with z | z | z
    · exact Or.inl (by omega)
    · rcases z with ⟨z1 | z1 | z1 | z1 | z1, z2⟩
      · exact Or.inl (by omega)
      · exact Or.inr (Or.inr ⟨Or.inl z1, z2⟩)
      · exact Or.inr (Or.inr ⟨Or.inr (Or.inl z1), z2⟩)
      · exact Or.inr (Or.inr ⟨Or.inr (Or.inr (Or.inl z1)), z2⟩)
      · exact Or.inr (Or.inr ⟨Or.inr (Or.inr (Or.inr z1)), z2⟩)
    · exact Or.inl (by omega)
