/-! ===== the worlds: images, what is cleared, what is kept ===== -/
section
variable {M M' : Mem} {n : Nat} {l l1 l2 : Int}
/-- both sides alike, and the worlds -/
theorem J4.sp {M : Mem} {x : Option (Int × Mem)} {y : Mem → Option (Int × Mem)} (hb : wp x (fun q1 => wp (y q1.2) (fun q2 => JB q2.2))) (he : wp x (fun q1 => wp (y q1.2) (fun q2 => J2 q2.2 ∧ EQ q1 q2))) (kp : pw x (fun q1 => pw (y q1.2) (fun q2 => EQ q1 q2 → KW q2.2))) : wp x (fun q1 => wp (y q1.2) (fun q2 => J4 q2.2)) :=
  w_mono (w_and4 (M := M) (w_and3 (M := M) hb (w_p2 he)) (p_mono kp (fun q1 z => p_mono z (fun q2 y a => y a.2.2)))) (fun q1 z => w_mono z (fun q2 y => ⟨y.1.1, y.2⟩))
theorem j4_image (r1 : (-2147483648) ≤ l ∧ l ≤ 2147483647) (h : J4 M) : wp (mX8_image 1 l M) (fun q1 => wp (mX9_image 126 l q1.2) (fun q2 => J4 q2.2)) := by
  have jj := h.1.1.1.1
  exact J4.sp (M := M) (jb_image r1 h.1) (j2_image r1 h.1.1.1) (p_mono (img_gen (P := SX) r1 jj (fun i a => KW.sx jj.1 jj.2.2 h.2 a) (fun i i' M' _ _ s c => s.cpy c) (fun i M' i0 i1 s g => s.vf ⟨i0, i1⟩ g)) (fun q1 z => p_mono z (fun q2 y e i a => (y e i a).2)))
theorem j4_again (r1 : (-2147483648) ≤ l ∧ l ≤ 2147483647) (h : J4 M) : wp (mX8_again 1 l M) (fun q1 => wp (mX9_again 126 l q1.2) (fun q2 => J4 q2.2)) := by
  have jj := h.1.1.1.1
  exact J4.sp (M := M) (jb_again r1 h.1) (j2_again r1 h.1.1.1) (p_mono (aga_gen (P := SX) r1 jj (fun i a => KW.sx jj.1 jj.2.2 h.2 a) (fun i i' M' _ _ s c => s.cpy c) (fun i M' i0 i1 s g => s.vf ⟨i0, i1⟩ g)) (fun q1 z => p_mono z (fun q2 y e i a => (y e i a).2)))
/-- the world of now -/
def W0 (k : Nat) (M : Mem) : Prop := (mG M 3 1 = ((wn (mG M 137) k : Nat) : Int) ∧ ∀ f : Int, (k : Int) ≤ f → f < 36 → mG M 137 f = 0) ∧ ∀ p : Int, 0 ≤ p → p < 4 → ¬ mG M 12 p = 0 → mG M 11 p = ((wn (fun f => mG M 150 (36 * p + f)) k : Nat) : Int)
theorem w0_e1 : (fun f => mG M 137 (36 * 0 + f)) = mG M 137 := funext (fun f => by rw [show 36 * (0 : Int) + f = f by omega])
theorem w0_e2 (p : Int) : (fun f => mG M 150 (144 * 0 + 36 * p + f)) = fun f => mG M 150 (36 * p + f) := funext (fun f => by rw [show 144 * (0 : Int) + 36 * p + f = 36 * p + f by omega])
theorem SW.w0 (h : SW 0 M) : W0 (nfs 0 M) M := by
  obtain ⟨⟨a, b⟩, c⟩ := h
  rw [w0_e1, sOf_0] at a
  rw [sOf_0] at c
  refine ⟨⟨a, fun f f0 f1 => ?_⟩, fun p p0 p1 hp => ?_⟩
  · have := b f f0 f1
    rw [show 36 * (0 : Int) + f = f by omega] at this
    exact this
  · have := c p p0 p1 hp
    rw [w0_e2] at this
    exact this
theorem W0.sw (h : W0 (nfs 0 M) M) : SW 0 M := by
  obtain ⟨⟨a, b⟩, c⟩ := h
  unfold SW
  rw [w0_e1, sOf_0]
  refine ⟨⟨a, fun f f0 f1 => ?_⟩, fun p p0 p1 hp => ?_⟩
  · rw [show 36 * (0 : Int) + f = f by omega]
    exact b f f0 f1
  · rw [w0_e2]
    exact c p p0 p1 hp
theorem nfs_0 (iM : I n M) : nfs 0 M ≤ 36 ∧ ((nfs 0 M : Nat) : Int) = mG M 4 7 := by
  have := nfs_b (i := 0) iM (by decide) (by decide)
  rw [sOf_0] at this
  exact this
theorem nfs_e (e : mG M' 4 7 = mG M 4 7) : nfs 0 M' = nfs 0 M := by
  unfold nfs
  rw [sOf_0]
  show (mG M' 4 7).toNat = (mG M 4 7).toNat
  rw [e]
/-- all is cleared -/
theorem W0.z {k : Nat} (hk : k ≤ 36) (h1 : mG M 3 1 = 0) (h2 : ∀ f : Int, 0 ≤ f → f < 36 → mG M 137 f = 0) (h3 : ∀ p : Int, 0 ≤ p → p < 4 → mG M 12 p = 0) : W0 k M := by
  refine ⟨⟨?_, fun f f0 f1 => h2 f (by omega) f1⟩, fun p p0 p1 hp => absurd (h3 p p0 p1) hp⟩
  rw [h1, wn_of (w := 0) (Nat.two_pow_pos k) (fun f f0 f1 => ?_)]
  · rfl
  · rw [h2 f f0 (by omega)]
    unfold phw
    rw [Nat.zero_testBit]; rfl
theorem kw_size (r1 : (-2147483648) ≤ l1 ∧ l1 ≤ 2147483647) (r2 : (-2147483648) ≤ l2 ∧ l2 ≤ 2147483647) (iM : I n M) (kw : KW M) : pw (mX8_size 1 l1 l2 M) (fun q1 => pw (mX9_size 126 l1 l2 q1.2) (fun q2 => EQ q1 q2 → KW q2.2)) := by
  refine p_mono (p_and (p_and (p_wp (s_X8_size r1 r2 iM)) (pl_size iM)) (p2_size iM r1 r2)) ?_
  rintro ⟨a, M1⟩ ⟨⟨⟨i1, -⟩, h1⟩, c1⟩
  refine p_mono (p_and (pr_size i1) (r2_size i1)) ?_
  rintro ⟨b, M2⟩ ⟨h2, c2⟩ eq
  replace eq : a = b := eq
  show KW M2
  rcases h1 with ⟨p1, _, p3⟩ | ⟨p1, _, _, _, p5⟩
  · replace p1 : a = 0 := p1
    replace p3 : M1 = M := p3
    subst p3
    rcases h2 with ⟨_, _, q3⟩ | ⟨q1, _⟩
    · exact kw.fr iM (fun b j z => q3 b j (by unfold WX8 at z; omega))
    · replace q1 : b = 1 := q1
      omega
  · replace p1 : a = 1 := p1
    rcases h2 with ⟨q1, _⟩ | ⟨_, _, _, q5⟩
    · replace q1 : b = 0 := q1
      omega
    have c1 := c1.resolve_left (by show ¬ a = 0; omega)
    have c2 := c2.resolve_left (by show ¬ b = 0; omega)
    replace p5 : ∀ b j : Int, ¬ (b = 5 ∧ j = l1) → ¬ (b = 4 ∧ j = 7) → ¬ (8 ≤ b ∧ b ≤ 10) → ¬ (b = 3 ∧ j = 1) → ¬ b = 12 → ¬ b = 2 → ¬ b = 24 → mG M1 b j = mG M b j := p5
    replace q5 : ∀ b j : Int, ¬ b = 126 → ¬ (b = 133 ∧ j = l1) → ¬ b = 137 → ¬ b = 151 → mG M2 b j = mG M1 b j := q5
    obtain ⟨d1, d2⟩ := c1
    replace d1 : mG M1 3 1 = 0 := d1
    replace d2 : ∀ p : Int, 0 ≤ p → p < 4 → mG M1 12 p = 0 := d2
    obtain ⟨c3, _, c5⟩ := c2
    replace c3 : ∀ k : Int, 0 ≤ k → k < 36 → mG M2 137 k = 0 := c3
    replace c5 : ∀ b j : Int, (b = 137 ∧ ¬ (0 ≤ j ∧ j < 36)) ∨ (b = 151 ∧ ¬ (0 ≤ j ∧ j < 4)) → mG M2 b j = mG M1 b j := c5
    have en : nfs 0 M2 = nfs 0 M1 := nfs_e (q5 4 7 (by decide) (by omega) (by decide) (by decide))
    refine kw.r0 iM (W0.sw (W0.z (by rw [en]; exact (nfs_0 i1).1) ((q5 3 1 (by decide) (by omega) (by decide) (by decide)).trans d1) c3 (fun p p0 p1 => (q5 12 p (by decide) (by omega) (by decide) (by decide)).trans (d2 p p0 p1)))) (fun b j z => ?_)
    have e1 : mG M1 b j = mG M b j := p5 b j (by omega) (by omega) (by omega) (by omega) (by omega) (by omega) (by omega)
    rw [← e1]
    by_cases e : b = 137
    · exact c5 b j (Or.inl ⟨e, by omega⟩)
    · exact q5 b j (by omega) (by omega) e (by omega)
theorem kw_relation (r1 : (-2147483648) ≤ l1 ∧ l1 ≤ 2147483647) (r2 : (-2147483648) ≤ l2 ∧ l2 ≤ 2147483647) (iM : I n M) (kw : KW M) : pw (mX8_relation 1 l1 l2 M) (fun q1 => pw (mX9_relation 126 l1 l2 q1.2) (fun q2 => EQ q1 q2 → KW q2.2)) := by
  have r6 := rd_Shape_6 iM (a := 4) rfl
  refine p_mono (p_and (p_and (p_wp (s_X8_relation r1 r2 iM)) (pl_relation iM)) (p2_relation iM r1 r2)) ?_
  rintro ⟨a, M1⟩ ⟨⟨⟨i1, -⟩, h1⟩, c1⟩
  have r9 : 0 ≤ mG M1 134 0 ∧ mG M1 134 0 ≤ 4 := rd_Mrelations i1 (a := 134) (i := 0) rfl
  refine p_mono (p_and (pr_relation i1) (r2_relation i1)) ?_
  rintro ⟨b, M2⟩ ⟨h2, c2⟩ eq
  replace eq : a = b := eq
  show KW M2
  rcases h1 with ⟨p1, _, p3⟩ | ⟨p1, _, _, _, _, _, p5⟩
  · replace p1 : a = -1 := p1
    replace p3 : M1 = M := p3
    subst p3
    rcases h2 with ⟨_, _, q3⟩ | ⟨q1, _⟩
    · exact kw.fr iM (fun b j z => q3 b j (by unfold WX8 at z; omega))
    · replace q1 : b = mG M1 134 0 := q1
      omega
  · replace p1 : a = mG M 4 6 := p1
    rcases h2 with ⟨q1, _⟩ | ⟨_, _, _, _, _, q5⟩
    · replace q1 : b = -1 := q1
      omega
    have c1 := c1.resolve_left (by show ¬ a = -1; omega)
    have c2 := c2.resolve_left (by show ¬ b = -1; omega)
    replace p5 : ∀ b j : Int, ¬ (b = 6 ∧ j = mG M 4 6) → ¬ (b = 7 ∧ j = mG M 4 6) → ¬ (b = 4 ∧ j = 6) → ¬ (b = 4 ∧ j = 7) → ¬ (8 ≤ b ∧ b ≤ 10) → ¬ (b = 3 ∧ j = 1) → ¬ b = 12 → ¬ b = 2 → ¬ b = 24 → mG M1 b j = mG M b j := p5
    replace q5 : ∀ b j : Int, ¬ b = 126 → ¬ (b = 134 ∧ j = 0) → ¬ (b = 135 ∧ j = mG M1 134 0) → ¬ (b = 136 ∧ j = mG M1 134 0) → ¬ b = 137 → ¬ b = 151 → mG M2 b j = mG M1 b j := q5
    obtain ⟨d1, d2⟩ := c1
    replace d1 : mG M1 3 1 = 0 := d1
    replace d2 : ∀ p : Int, 0 ≤ p → p < 4 → mG M1 12 p = 0 := d2
    obtain ⟨c3, _, c5⟩ := c2
    replace c3 : ∀ k : Int, 0 ≤ k → k < 36 → mG M2 137 k = 0 := c3
    replace c5 : ∀ b j : Int, (b = 137 ∧ ¬ (0 ≤ j ∧ j < 36)) ∨ (b = 151 ∧ ¬ (0 ≤ j ∧ j < 4)) → mG M2 b j = mG M1 b j := c5
    have en : nfs 0 M2 = nfs 0 M1 := nfs_e (q5 4 7 (by decide) (by omega) (by omega) (by omega) (by decide) (by decide))
    refine kw.r0 iM (W0.sw (W0.z (by rw [en]; exact (nfs_0 i1).1) ((q5 3 1 (by decide) (by omega) (by omega) (by omega) (by decide) (by decide)).trans d1) c3 (fun p p0 p1 => (q5 12 p (by decide) (by omega) (by omega) (by omega) (by decide) (by decide)).trans (d2 p p0 p1)))) (fun b j z => ?_)
    have e1 : mG M1 b j = mG M b j := p5 b j (by omega) (by omega) (by omega) (by omega) (by omega) (by omega) (by omega) (by omega) (by omega)
    rw [← e1]
    by_cases e : b = 137
    · exact c5 b j (Or.inl ⟨e, by omega⟩)
    · exact q5 b j (by omega) (by omega) (by omega) (by omega) e (by omega)
theorem kw_keep (r1 : (-2147483648) ≤ l ∧ l ≤ 2147483647) (iM : I n M) (kw : KW M) : pw (mX8_keep 1 l M) (fun q1 => pw (mX9_keep 126 l q1.2) (fun q2 => EQ q1 q2 → KW q2.2)) := by
  refine p_mono (p_and (p_wp (s_X8_keep r1 iM)) (p2_keep iM)) ?_
  rintro ⟨a, M1⟩ ⟨⟨i1, -⟩, h1⟩
  refine p_mono (r2_keep i1) ?_
  rintro ⟨b, M2⟩ h2 -
  show KW M2
  rcases h1 with ⟨_, p2, p3⟩ | ⟨_, p2, p3, p4, p5⟩
  · replace p3 : M1 = M := p3
    subst p3
    rcases h2 with ⟨_, _, q3⟩ | ⟨_, q2, _⟩
    · exact kw.fr iM (fun b j z => q3 b j (by unfold WX8 at z; omega))
    · exact absurd q2 p2
  · rcases h2 with ⟨_, q2, _⟩ | ⟨_, _, q3, q4, q5⟩
    · exact absurd p2 q2
    replace p3 : mG M1 11 l = mG M 3 1 := p3
    replace p5 : ∀ b j : Int, ¬ (b = 11 ∧ j = l) → ¬ (b = 12 ∧ j = l) → mG M1 b j = mG M b j := p5
    replace q4 : ∀ k : Int, 0 ≤ k → k < 36 → mG M2 150 (36 * l + k) = mG M1 137 k := q4
    replace q5 : ∀ b j : Int, ¬ b = 126 → ¬ (b = 151 ∧ j = l) → ¬ (b = 150 ∧ 36 * l ≤ j ∧ j < 36 * l + 36) → mG M2 b j = mG M1 b j := q5
    have w0 := (kw 0 ⟨by decide, by decide, Or.inl rfl⟩).w0
    have nb := nfs_0 iM
    have g : ∀ b j : Int, ¬ b = 126 → ¬ (b = 151 ∧ j = l) → ¬ (b = 150 ∧ 36 * l ≤ j ∧ j < 36 * l + 36) → ¬ (b = 11 ∧ j = l) → ¬ (b = 12 ∧ j = l) → mG M2 b j = mG M b j := fun b j x1 x2 x3 x4 x5 => (q5 b j x1 x2 x3).trans (p5 b j x4 x5)
    have en : nfs 0 M2 = nfs 0 M := nfs_e (g 4 7 (by decide) (by omega) (by omega) (by omega) (by omega))
    have g137 : ∀ j : Int, mG M2 137 j = mG M 137 j := fun j => g 137 j (by decide) (by omega) (by omega) (by omega) (by omega)
    refine kw.r0 iM (W0.sw ?_) (fun b j z => g b j (by omega) (by omega) (by omega) (by omega) (by omega))
    rw [en]
    refine ⟨⟨?_, fun f f0 f1 => (g137 f).trans (w0.1.2 f f0 f1)⟩, fun p p0 p1 hp => ?_⟩
    · rw [g 3 1 (by decide) (by omega) (by omega) (by omega) (by omega), w0.1.1]
      exact congrArg (fun x : Nat => (x : Int)) (wn_congr (fun f _ _ => (g137 f).symm))
    · by_cases e : p = l
      · subst e
        have e11 : mG M2 11 p = mG M 3 1 := (q5 11 p (by decide) (by omega) (by omega)).trans p3
        rw [e11, w0.1.1]
        refine congrArg (fun x : Nat => (x : Int)) (wn_congr (fun f f0 f1 => ?_))
        rw [q4 f f0 (by omega)]
        exact (p5 137 f (by omega) (by omega)).symm
      · rw [g 12 p (by decide) (by omega) (by omega) (by omega) (by omega)] at hp
        rw [g 11 p (by decide) (by omega) (by omega) (by omega) (by omega), w0.2 p p0 p1 hp]
        exact congrArg (fun x : Nat => (x : Int)) (wn_congr (fun f f0 f1 => (g 150 _ (by decide) (by omega) (by omega) (by omega) (by omega)).symm))
theorem j4_size (r1 : (-2147483648) ≤ l1 ∧ l1 ≤ 2147483647) (r2 : (-2147483648) ≤ l2 ∧ l2 ≤ 2147483647) (h : J4 M) : wp (mX8_size 1 l1 l2 M) (fun q1 => wp (mX9_size 126 l1 l2 q1.2) (fun q2 => J4 q2.2)) :=
  J4.sp (M := M) (jb_size r1 r2 h.1) (j2_size r1 r2 h.1.1.1) (kw_size r1 r2 h.1.1.1.1.1 h.2)
theorem j4_relation (r1 : (-2147483648) ≤ l1 ∧ l1 ≤ 2147483647) (r2 : (-2147483648) ≤ l2 ∧ l2 ≤ 2147483647) (h : J4 M) : wp (mX8_relation 1 l1 l2 M) (fun q1 => wp (mX9_relation 126 l1 l2 q1.2) (fun q2 => J4 q2.2)) :=
  J4.sp (M := M) (jb_relation r1 r2 h.1) (j2_relation r1 r2 h.1.1.1) (kw_relation r1 r2 h.1.1.1.1.1 h.2)
theorem j4_keep (r1 : (-2147483648) ≤ l ∧ l ≤ 2147483647) (h : J4 M) : wp (mX8_keep 1 l M) (fun q1 => wp (mX9_keep 126 l q1.2) (fun q2 => J4 q2.2)) :=
  J4.sp (M := M) (jb_keep r1 h.1) (j2_keep r1 h.1.1.1) (kw_keep r1 h.1.1.1.1.1 h.2)
end
