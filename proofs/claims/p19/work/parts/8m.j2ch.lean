/-! ===== calls that change what Rel2 sees ===== -/
theorem w_and4 {M : Mem} {x : Option (Int × Mem)} {y : Mem → Option (Int × Mem)} {A B : Int × Mem → Int × Mem → Prop} (h : wp x (fun q1 => wp (y q1.2) (A q1))) (k : pw x (fun q1 => pw (y q1.2) (fun q2 => A q1 q2 → B q1 q2))) : wp x (fun q1 => wp (y q1.2) (fun q2 => A q1 q2 ∧ B q1 q2)) := by
  obtain ⟨q1, e1, q2, e2, a⟩ := h
  exact ⟨q1, e1, q2, e2, a, k q1 e1 q2 e2 a⟩
theorem sOf0 : sOf 0 = 3 := rfl
def ZA (b j : Int) : Prop := (b = 13 ∨ b = 127) ∧ 0 ≤ j ∧ j < 400 ∨ b = 128 ∧ j = 0
def ZB (n : Nat) (b j : Int) : Prop := (169 < b ∧ b ≤ (n : Int)) ∨ (b = 138 ∧ j = 0) ∨ (b = 3 ∧ j = 11) ∨ ((14 ≤ b ∧ b ≤ 16) ∧ 0 ≤ j ∧ j < 8) ∨ ((139 ≤ b ∧ b ≤ 141) ∧ 0 ≤ j ∧ j < 8) ∨ ((142 ≤ b ∧ b ≤ 145) ∧ 0 ≤ j ∧ j < 320)
def ZC (n : Nat) (b j : Int) : Prop := (169 < b ∧ b ≤ (n : Int)) ∨ (b = 3 ∧ j = 12) ∨ (b = 141 ∧ j = 8) ∨ ((142 ≤ b ∧ b ≤ 145) ∧ 320 ≤ j ∧ j < 360)
def ZR (M : Mem) (b j : Int) : Prop := (135 ≤ b ∧ b ≤ 136) ∧ 0 ≤ j ∧ j < mG M 134 0
def ZD (b j : Int) : Prop := (b = 146 ∧ j = 0) ∨ ((17 ≤ b ∧ b ≤ 19 ∨ 147 ≤ b ∧ b ≤ 149) ∧ 0 ≤ j ∧ j < 40)
def ZE (b j : Int) : Prop := (b = 12 ∨ b = 151) ∧ 0 ≤ j ∧ j < 4
section
variable {n : Nat} {M M' : Mem}
theorem Sa.z (h : Sa 0 M) (iM : I n M) (g : ∀ b j : Int, ZA b j → mG M' b j = mG M b j) : Sa 0 M' :=
  h.go iM (g 128 0 (Or.inr ⟨rfl, rfl⟩)) (fun j j0 j1 => g (3 + 10) j (Or.inl ⟨Or.inl rfl, j0, j1⟩)) (fun j j0 j1 => by
    rw [show 400 * (0 : Int) + j = j by omega]; exact g 127 j (Or.inl ⟨Or.inr rfl, j0, j1⟩))
theorem Sb.z (h : Sb 0 M) (iM : I n M) (g : ∀ b j : Int, ZB n b j → mG M' b j = mG M b j) (g3 : mG M 134 0 ≤ mG M' 134 0) (g4 : ∀ b j : Int, ZR M b j → mG M' b j = mG M b j) : Sb 0 M' :=
  h.go iM ⟨by decide, by decide⟩ (fun b j b0 b1 => g b j (Or.inl ⟨b0, b1⟩)) (g 138 0 (Or.inr (Or.inl ⟨rfl, rfl⟩))) (g 3 11 (Or.inr (Or.inr (Or.inl ⟨rfl, rfl⟩))))
    (fun d j d0 d1 j0 j1 => by rw [sOf0]; exact g (3 + d) j (Or.inr (Or.inr (Or.inr (Or.inl ⟨by omega, j0, j1⟩)))))
    (fun c j c0 c1 j0 j1 => by rw [show 8 * (0 : Int) + j = j by omega]; exact g c j (Or.inr (Or.inr (Or.inr (Or.inr (Or.inl ⟨by omega, j0, j1⟩))))))
    (fun j j0 j1 => by rw [show 9 * (0 : Int) + j = j by omega]; exact g 141 j (Or.inr (Or.inr (Or.inr (Or.inr (Or.inl ⟨by decide, j0, j1⟩))))))
    (fun c j c0 c1 j0 j1 => by rw [show 360 * (0 : Int) + j = j by omega]; exact g c j (Or.inr (Or.inr (Or.inr (Or.inr (Or.inr ⟨⟨c0, c1⟩, j0, j1⟩))))))
    g3 (fun c r c0 c1 r0 r1 => by rw [show 4 * (0 : Int) + r = r by omega]; exact g4 c r ⟨⟨c0, c1⟩, r0, r1⟩)
theorem Sc.z (h : Sc 0 M) (iM : I n M) (g : ∀ b j : Int, ZC n b j → mG M' b j = mG M b j) (g3 : mG M 134 0 ≤ mG M' 134 0) (g4 : ∀ b j : Int, ZR M b j → mG M' b j = mG M b j) : Sc 0 M' :=
  h.go iM ⟨by decide, by decide⟩ (fun b j b0 b1 => g b j (Or.inl ⟨b0, b1⟩)) (g 3 12 (Or.inr (Or.inl ⟨rfl, rfl⟩))) (g 141 8 (Or.inr (Or.inr (Or.inl ⟨rfl, rfl⟩))))
    (fun c j c0 c1 j0 j1 => by rw [show 360 * (0 : Int) + j = j by omega]; exact g c j (Or.inr (Or.inr (Or.inr ⟨⟨c0, c1⟩, j0, j1⟩))))
    g3 (fun c r c0 c1 r0 r1 => by rw [show 4 * (0 : Int) + r = r by omega]; exact g4 c r ⟨⟨c0, c1⟩, r0, r1⟩)
theorem Sd.z (h : Sd 0 M) (iM : I n M) (g : ∀ b j : Int, ZD b j → mG M' b j = mG M b j) : Sd 0 M' :=
  h.go iM (g 146 0 (Or.inl ⟨rfl, rfl⟩)) (fun d j d0 d1 j0 j1 => by rw [sOf0]; exact g (3 + d) j (Or.inr ⟨Or.inl (by omega), j0, j1⟩))
    (fun c j c0 c1 j0 j1 => by rw [show 40 * (0 : Int) + j = j by omega]; exact g c j (Or.inr ⟨Or.inr ⟨c0, c1⟩, j0, j1⟩))
theorem Se.z (h : Se 0 M) (g : ∀ b j : Int, ZE b j → mG M' b j = mG M b j) : Se 0 M' :=
  h.go (fun j j0 j1 => g (3 + 9) j ⟨Or.inl rfl, j0, j1⟩) (fun j j0 j1 => by rw [show 4 * (0 : Int) + j = j by omega]; exact g 151 j ⟨Or.inr rfl, j0, j1⟩)
theorem Se.new (h : ∀ p : Int, 0 ≤ p → p < 4 → mG M' 12 p = mG M' 151 p) : Se 0 M' := fun p p0 p1 => by
  rw [show 4 * (0 : Int) + p = p by omega]; exact h p p0 p1
/-- a change that touches only such cells -/
theorem Rel2.ch (h : Rel2 M) (iM : I n M) (C : Int → Int → Prop) (g : ∀ b j : Int, ¬ C b j → mG M' b j = mG M b j) (h0 : S2 0 M') (hC : ∀ b j : Int, C b j → ¬ ((74 ≤ b ∧ b ≤ 125) ∨ b = 169 ∨ (169 < b ∧ b ≤ (n : Int))) ∧ (126 < b → b ≤ 151 → (b = 127 → j < 400) ∧ (b = 128 ∨ b = 134 ∨ b = 138 ∨ b = 146 → j < 1) ∧ (b = 135 ∨ b = 136 ∨ b = 151 → j < 4) ∧ (b = 139 ∨ b = 140 → j < 8) ∧ (b = 141 → j < 9) ∧ (142 ≤ b ∧ b ≤ 145 → j < 360) ∧ (147 ≤ b ∧ b ≤ 149 → j < 40))) : Rel2 M' :=
  h.r0 iM h0 (fun b j z => g b j (fun y => (hC b j y).1 z)) (fun i b j i1 i4 b0 b1 z => g b j (fun y => by
    have a := v_far i1 i4 b0 b1 z
    have c := (hC b j y).2 b0 b1
    obtain ⟨a1, a2, a3, a4, a5, a6, a7, a8⟩ := a
    obtain ⟨c1, c2, c3, c4, c5, c6, c7⟩ := c
    rcases a8 with a8 | a8 | a8 | a8
    · by_cases e : b = 127
      · have := a1 e; have := c1 e; omega
      · have := a2 (by omega); have := c2 (by omega); omega
    · by_cases e : b = 134
      · have := a2 (by omega); have := c2 (by omega); omega
      · have := a3 (by omega); have := c3 (by omega); omega
    · by_cases e1 : b = 138 ∨ b = 146
      · have := a2 (by omega); have := c2 (by omega); omega
      by_cases e2 : b = 139 ∨ b = 140
      · have := a4 e2; have := c4 e2; omega
      by_cases e3 : b = 141
      · have := a5 e3; have := c5 e3; omega
      by_cases e4 : 142 ≤ b ∧ b ≤ 145
      · have := a6 e4; have := c6 e4; omega
      · have := a7 (by omega); have := c7 (by omega); omega
    · have := a3 (by omega); have := c3 (by omega); omega))
end
section
variable {M : Mem} {l l1 l2 l3 l4 l5 : Int}
theorem j2_size (r1 : (-2147483648) ≤ l1 ∧ l1 ≤ 2147483647) (r2 : (-2147483648) ≤ l2 ∧ l2 ≤ 2147483647) (h : J2 M) : wp (mX8_size 1 l1 l2 M) (fun q1 => wp (mX9_size 126 l1 l2 q1.2) (fun q2 => J2 q2.2 ∧ EQ q1 q2)) := by
  refine J2.ord (w_and4 (M := M) (j_size r1 r2 h.1) ?_)
  obtain ⟨⟨iM, _, _⟩, rel⟩ := h
  refine p_mono (p_and (p_and (p_wp (s_X8_size r1 r2 iM)) (pl_size iM)) (p2_size iM r1 r2)) ?_
  rintro ⟨a, M1⟩ ⟨⟨⟨i1, -⟩, h1⟩, c1⟩
  refine p_mono (p_and (pr_size i1) (r2_size i1)) ?_
  rintro ⟨b, M2⟩ ⟨h2, c2⟩ ⟨-, eq⟩
  replace eq : a = b := eq
  show Rel2 M2
  rcases h1 with ⟨p1, _, p3⟩ | ⟨p1, _, _, _, p5⟩
  · replace p1 : a = 0 := p1
    replace p3 : M1 = M := p3
    subst p3
    rcases h2 with ⟨_, _, q3⟩ | ⟨q1, _⟩
    · exact rel.fr iM (fun b j z => q3 b j (by unfold RC2 at z; omega))
    · have q1 : b = 1 := q1; omega
  · replace p1 : a = 1 := p1
    rcases h2 with ⟨q1, _⟩ | ⟨_, _, _, q5⟩
    · have q1 : b = 0 := q1; omega
    have c1 := c1.resolve_left (by show ¬ a = 0; omega)
    have c2 := c2.resolve_left (by show ¬ b = 0; omega)
    replace p5 : ∀ b j : Int, ¬ (b = 5 ∧ j = l1) → ¬ (b = 4 ∧ j = 7) → ¬ (8 ≤ b ∧ b ≤ 10) → ¬ (b = 3 ∧ j = 1) → ¬ b = 12 → ¬ b = 2 → ¬ b = 24 → mG M1 b j = mG M b j := p5
    replace q5 : ∀ b j : Int, ¬ b = 126 → ¬ (b = 133 ∧ j = l1) → ¬ b = 137 → ¬ b = 151 → mG M2 b j = mG M1 b j := q5
    obtain ⟨_, c3, c4⟩ := c2
    replace c3 : ∀ p : Int, 0 ≤ p → p < 4 → mG M2 151 p = 0 := c3
    replace c4 : ∀ b j : Int, (b = 137 ∧ ¬ (0 ≤ j ∧ j < 36)) ∨ (b = 151 ∧ ¬ (0 ≤ j ∧ j < 4)) → mG M2 b j = mG M1 b j := c4
    have g : ∀ b j : Int, ¬ (b = 5 ∨ b = 4 ∨ (8 ≤ b ∧ b ≤ 10) ∨ (b = 3 ∧ j = 1) ∨ b = 12 ∨ b = 2 ∨ b = 24 ∨ b = 126 ∨ b = 133 ∨ b = 137 ∨ (b = 151 ∧ j < 4)) → mG M2 b j = mG M b j := fun b j z => by
      have e1 : mG M1 b j = mG M b j := p5 b j (fun y => z (by omega)) (fun y => z (by omega)) (fun y => z (by omega)) (fun y => z (by omega)) (fun y => z (by omega)) (fun y => z (by omega)) (fun y => z (by omega))
      by_cases e : b = 151
      · rw [c4 b j (Or.inr ⟨e, fun y => z (by omega)⟩)]; exact e1
      · rw [q5 b j (fun y => z (by omega)) (fun y => z (by omega)) (fun y => z (by omega)) e]; exact e1
    obtain ⟨sa, sb, sc, sd, se⟩ := rel 0 (by decide) (by decide) (Or.inl rfl)
    have e134 : mG M2 134 0 = mG M 134 0 := g 134 0 (by omega)
    refine rel.ch iM _ g ⟨sa.z iM (fun b j z => g b j (by unfold ZA at z; omega)), sb.z iM (fun b j z => g b j (by unfold ZB at z; omega)) (Int.le_of_eq e134.symm) (fun b j z => g b j (by unfold ZR at z; omega)), sc.z iM (fun b j z => g b j (by unfold ZC at z; omega)) (Int.le_of_eq e134.symm) (fun b j z => g b j (by unfold ZR at z; omega)), sd.z iM (fun b j z => g b j (by unfold ZD at z; omega)), Se.new (fun p p0 p1 => ?_)⟩ (fun b j z => ?_)
    · rw [c3 p p0 p1, q5 12 p (by decide) (by omega) (by decide) (by decide)]; exact c1.2 p p0 p1
    · omega
theorem j2_relation (r1 : (-2147483648) ≤ l1 ∧ l1 ≤ 2147483647) (r2 : (-2147483648) ≤ l2 ∧ l2 ≤ 2147483647) (h : J2 M) : wp (mX8_relation 1 l1 l2 M) (fun q1 => wp (mX9_relation 126 l1 l2 q1.2) (fun q2 => J2 q2.2 ∧ EQ q1 q2)) := by
  refine J2.ord (w_and4 (M := M) (j_relation r1 r2 h.1) ?_)
  obtain ⟨⟨iM, _, rl⟩, rel⟩ := h
  have s0 := (rl.1 0 (by decide) (by decide) (Or.inl rfl)).z
  have rr := rd_Mrelations iM (a := 134) (i := 0) rfl
  refine p_mono (p_and (p_and (p_wp (s_X8_relation r1 r2 iM)) (pl_relation iM)) (p2_relation iM r1 r2)) ?_
  rintro ⟨a, M1⟩ ⟨⟨⟨i1, k1, -⟩, h1⟩, c1⟩
  have hn := iM.2.2.2.2.1
  replace k1 : Keep (mN M) W_X8_relation M M1 := k1
  have e9 : ∀ b j : Int, 126 ≤ b → b ≤ 169 → mG M1 b j = mG M b j := fun b j b0 b1 => k1.2.2 b j (by omega) (fun z => by unfold W_X8_relation at z; omega)
  refine p_mono (p_and (pr_relation i1) (r2_relation i1)) ?_
  rintro ⟨b, M2⟩ ⟨h2, c2⟩ ⟨-, eq⟩
  replace eq : a = b := eq
  show Rel2 M2
  rcases h1 with ⟨p1, _, p3⟩ | ⟨p1, _, _, _, _, _, p5⟩
  · replace p1 : a = -1 := p1
    replace p3 : M1 = M := p3
    subst p3
    rcases h2 with ⟨_, _, q3⟩ | ⟨q1, _⟩
    · exact rel.fr iM (fun b j z => q3 b j (by unfold RC2 at z; omega))
    · have q1 : b = mG M1 134 0 := q1; omega
  · replace p1 : a = mG M 4 6 := p1
    have r4 := s0.2.1
    rcases h2 with ⟨q1, _⟩ | ⟨_, qc, q3, _, _, q5⟩
    · have q1 : b = -1 := q1; omega
    have c1 := c1.resolve_left (by show ¬ a = -1; omega)
    have c2 := c2.resolve_left (by show ¬ b = -1; omega)
    replace p5 : ∀ b j : Int, ¬ (b = 6 ∧ j = mG M 4 6) → ¬ (b = 7 ∧ j = mG M 4 6) → ¬ (b = 4 ∧ j = 6) → ¬ (b = 4 ∧ j = 7) → ¬ (8 ≤ b ∧ b ≤ 10) → ¬ (b = 3 ∧ j = 1) → ¬ b = 12 → ¬ b = 2 → ¬ b = 24 → mG M1 b j = mG M b j := p5
    replace q3 : mG M2 134 0 = mG M1 134 0 + 1 := q3
    replace q5 : ∀ b j : Int, ¬ b = 126 → ¬ (b = 134 ∧ j = 0) → ¬ (b = 135 ∧ j = mG M1 134 0) → ¬ (b = 136 ∧ j = mG M1 134 0) → ¬ b = 137 → ¬ b = 151 → mG M2 b j = mG M1 b j := q5
    rw [e9 134 0 (by decide) (by decide)] at q3 q5
    obtain ⟨_, c3, c4⟩ := c2
    replace c3 : ∀ p : Int, 0 ≤ p → p < 4 → mG M2 151 p = 0 := c3
    replace c4 : ∀ b j : Int, (b = 137 ∧ ¬ (0 ≤ j ∧ j < 36)) ∨ (b = 151 ∧ ¬ (0 ≤ j ∧ j < 4)) → mG M2 b j = mG M1 b j := c4
    have lt4 : mG M 134 0 < 4 := by
      have q2 : mG M1 134 0 < 4 := qc.1
      rw [e9 134 0 (by decide) (by decide)] at q2
      exact q2
    obtain ⟨R, hR⟩ : ∃ R, R = mG M 134 0 := ⟨_, rfl⟩
    rw [← hR] at q3 q5 lt4 rr r4
    rw [r4] at p5
    have g : ∀ b j : Int, ¬ (b = 6 ∨ b = 7 ∨ b = 4 ∨ (8 ≤ b ∧ b ≤ 10) ∨ (b = 3 ∧ j = 1) ∨ b = 12 ∨ b = 2 ∨ b = 24 ∨ b = 126 ∨ (b = 134 ∧ j = 0) ∨ ((b = 135 ∨ b = 136) ∧ j = R) ∨ b = 137 ∨ (b = 151 ∧ j < 4)) → mG M2 b j = mG M b j := fun b j z => by
      have e1 : mG M1 b j = mG M b j := p5 b j (fun y => z (by omega)) (fun y => z (by omega)) (fun y => z (by omega)) (fun y => z (by omega)) (fun y => z (by omega)) (fun y => z (by omega)) (fun y => z (by omega)) (fun y => z (by omega)) (fun y => z (by omega))
      by_cases e : b = 151
      · rw [c4 b j (Or.inr ⟨e, fun y => z (by omega)⟩)]; exact e1
      · rw [q5 b j (fun y => z (by omega)) (fun y => z (by omega)) (fun y => z (by omega)) (fun y => z (by omega)) (fun y => z (by omega)) e]; exact e1
    obtain ⟨sa, sb, sc, sd, se⟩ := rel 0 (by decide) (by decide) (Or.inl rfl)
    have le : mG M 134 0 ≤ mG M2 134 0 := by omega
    have gr : ∀ b j : Int, ZR M b j → mG M2 b j = mG M b j := fun b j z => g b j (by unfold ZR at z; omega)
    refine rel.ch iM _ g ⟨sa.z iM (fun b j z => g b j (by unfold ZA at z; omega)), sb.z iM (fun b j z => g b j (by unfold ZB at z; omega)) le gr, sc.z iM (fun b j z => g b j (by unfold ZC at z; omega)) le gr, sd.z iM (fun b j z => g b j (by unfold ZD at z; omega)), Se.new (fun p p0 p1 => ?_)⟩ (fun b j z => ?_)
    · rw [c3 p p0 p1, q5 12 p (by decide) (by omega) (by omega) (by omega) (by decide) (by decide)]; exact c1.2 p p0 p1
    · omega
theorem j2_known (r1 : (-2147483648) ≤ l1 ∧ l1 ≤ 2147483647) (r2 : (-2147483648) ≤ l2 ∧ l2 ≤ 2147483647) (r3 : (-2147483648) ≤ l3 ∧ l3 ≤ 2147483647) (r4 : 0 ≤ l4 ∧ l4 ≤ 1) (h : J2 M) : wp (mX8_known 1 l1 l2 l3 l4 M) (fun q1 => wp (mX9_known 126 l1 l2 l3 l4 q1.2) (fun q2 => J2 q2.2 ∧ EQ q1 q2)) := by
  refine J2.ord (w_and4 (M := M) (j_known r1 r2 r3 r4 h.1) ?_)
  obtain ⟨⟨iM, _, rl⟩, rel⟩ := h
  have s0 := (rl.1 0 (by decide) (by decide) (Or.inl rfl)).z
  refine p_mono (p_and (p_wp (s_X8_known r1 r2 r3 r4 iM)) (pl_known iM)) ?_
  rintro ⟨a, M1⟩ ⟨⟨i1, -⟩, h1⟩
  refine p_mono (pr_known i1) ?_
  rintro ⟨b, M2⟩ h2 ⟨-, eq⟩
  replace eq : a = b := eq
  show Rel2 M2
  rcases h1 with ⟨p1, _, p3⟩ | ⟨p1, pc, p2, p3, p4, p6, p5⟩
  · replace p1 : a = 0 := p1
    replace p3 : M1 = M := p3
    subst p3
    rcases h2 with ⟨_, _, q3⟩ | ⟨q1, _⟩
    · exact rel.fr iM (fun b j z => q3 b j (by unfold RC2 at z; omega))
    · have q1 : b = 1 := q1; omega
  · replace p1 : a = 1 := p1
    rcases h2 with ⟨q1, _⟩ | ⟨_, qc, q2, q3, q4, q6, q5⟩
    · have q1 : b = 0 := q1; omega
    have rk := rd_Told_18 iM (a := 3) rfl
    have eK := s0.2.2.2.2.2.2.2
    replace p3 : mG M1 17 (mG M 3 18) = 9 * l1 + 3 * l2 + (if mG M 7 l1 = -1 then 0 else l3) := p3
    replace p4 : mG M1 18 (mG M 3 18) = l4 := p4
    replace p6 : mG M1 19 (mG M 3 18) = mG M 3 13 := p6
    replace p5 : ∀ b j : Int, ¬ (17 ≤ b ∧ b ≤ 19 ∧ j = mG M 3 18) → ¬ (b = 3 ∧ j = 18) → mG M1 b j = mG M b j := p5
    replace q2 : mG M2 146 0 = mG M1 146 0 + 1 := q2
    replace q3 : mG M2 147 (mG M1 146 0) = 9 * l1 + 3 * l2 + (if mG M1 136 l1 = -1 then 0 else l3) := q3
    replace q4 : mG M2 148 (mG M1 146 0) = (if l4 = 0 then 0 else 1) := q4
    replace q6 : mG M2 149 (mG M1 146 0) = mG M1 131 0 := q6
    replace q5 : ∀ b j : Int, ¬ b = 126 → ¬ (b = 146 ∧ j = 0) → ¬ (147 ≤ b ∧ b ≤ 149 ∧ j = mG M1 146 0) → mG M2 b j = mG M1 b j := q5
    have qc : 0 ≤ l1 ∧ l1 < mG M1 134 0 := qc.2.1
    have pk : mG M 3 18 < 40 := pc.1
    rw [p5 146 0 (by omega) (by omega)] at q2 q3 q4 q5 q6
    rw [p5 136 l1 (by omega) (by omega)] at q3
    rw [p5 131 0 (by omega) (by omega)] at q6
    rw [p5 134 0 (by omega) (by omega)] at qc
    rw [← eK] at q2 q3 q4 q5 q6
    have ek : mG M 7 l1 = mG M 136 l1 := (s0.2.2.1 l1 qc.1 qc.2).2
    obtain ⟨K, hK⟩ : ∃ K, K = mG M 3 18 := ⟨_, rfl⟩
    rw [← hK] at p3 p4 p5 p6 q2 q3 q4 q5 q6 rk pk eK
    have g : ∀ b j : Int, ¬ ((17 ≤ b ∧ b ≤ 19 ∧ j = K) ∨ (b = 3 ∧ j = 18) ∨ b = 126 ∨ (b = 146 ∧ j = 0) ∨ (147 ≤ b ∧ b ≤ 149 ∧ j = K)) → mG M2 b j = mG M b j := fun b j z =>
      (q5 b j (fun y => z (by omega)) (fun y => z (by omega)) (fun y => z (by omega))).trans (p5 b j (fun y => z (by omega)) (fun y => z (by omega)))
    obtain ⟨sa, sb, sc, sd, se⟩ := rel 0 (by decide) (by decide) (Or.inl rfl)
    have e134 : mG M2 134 0 = mG M 134 0 := g 134 0 (by omega)
    have gr : ∀ b j : Int, ZR M b j → mG M2 b j = mG M b j := fun b j z => g b j (by unfold ZR at z; omega)
    refine rel.ch iM _ g ⟨sa.z iM (fun b j z => g b j (by unfold ZA at z; omega)), sb.z iM (fun b j z => g b j (by unfold ZB at z; omega)) (Int.le_of_eq e134.symm) gr, sc.z iM (fun b j z => g b j (by unfold ZC at z; omega)) (Int.le_of_eq e134.symm) gr, fun k k0 k1 => ?_, se.z (fun b j z => g b j (by unfold ZE at z; omega))⟩ (fun b j z => ?_)
    · rw [q2] at k1
      rw [sOf0, show 40 * (0 : Int) + k = k by omega]
      show mG M2 17 k = mG M2 147 k ∧ mG M2 18 k = mG M2 148 k ∧ mG M2 19 k = mG M2 149 k
      by_cases e : k = K
      · rw [e, q3, q4, q6, q5 17 K (by decide) (by omega) (by omega), q5 18 K (by decide) (by omega) (by omega), q5 19 K (by decide) (by omega) (by omega), p3, p4, p6, ek]
        refine ⟨rfl, ?_, s0.2.2.2.2.2.1⟩
        split <;> omega
      · rw [g 17 k (by omega), g 18 k (by omega), g 19 k (by omega), g 147 k (by omega), g 148 k (by omega), g 149 k (by omega)]
        have := sd k k0 (by omega)
        rw [sOf0, show 40 * (0 : Int) + k = k by omega] at this
        exact this
    · omega
theorem j2_keep (r1 : (-2147483648) ≤ l ∧ l ≤ 2147483647) (h : J2 M) : wp (mX8_keep 1 l M) (fun q1 => wp (mX9_keep 126 l q1.2) (fun q2 => J2 q2.2 ∧ EQ q1 q2)) := by
  refine J2.ord (w_and4 (M := M) (j_keepE r1 h.1) ?_)
  obtain ⟨⟨iM, _, rl⟩, rel⟩ := h
  refine p_mono (p_and (p_wp (s_X8_keep r1 iM)) (p2_keep iM)) ?_
  rintro ⟨a, M1⟩ ⟨⟨i1, -⟩, h1⟩
  refine p_mono (r2_keep i1) ?_
  rintro ⟨b, M2⟩ h2 ⟨-, eq⟩
  replace eq : a = b := eq
  show Rel2 M2
  rcases h1 with ⟨p1, _, p3⟩ | ⟨p1, _, _, p4, p5⟩
  · replace p1 : a = 0 := p1
    replace p3 : M1 = M := p3
    subst p3
    rcases h2 with ⟨_, _, q3⟩ | ⟨q1, _⟩
    · exact rel.fr iM (fun b j z => q3 b j (by unfold RC2 at z; omega))
    · have q1 : b = 1 := q1; omega
  · replace p1 : a = 1 := p1
    rcases h2 with ⟨q1, _⟩ | ⟨_, ql, q3, _, q5⟩
    · have q1 : b = 0 := q1; omega
    replace p4 : mG M1 12 l = 1 := p4
    replace p5 : ∀ b j : Int, ¬ (b = 11 ∧ j = l) → ¬ (b = 12 ∧ j = l) → mG M1 b j = mG M b j := p5
    replace q3 : mG M2 151 l = 1 := q3
    replace q5 : ∀ b j : Int, ¬ b = 126 → ¬ (b = 151 ∧ j = l) → ¬ (b = 150 ∧ 36 * l ≤ j ∧ j < 36 * l + 36) → mG M2 b j = mG M1 b j := q5
    have g : ∀ b j : Int, ¬ (b = 11 ∨ (b = 12 ∧ j = l) ∨ b = 126 ∨ b = 150 ∨ (b = 151 ∧ j = l)) → mG M2 b j = mG M b j := fun b j z =>
      (q5 b j (fun y => z (by omega)) (fun y => z (by omega)) (fun y => z (by omega))).trans (p5 b j (fun y => z (by omega)) (fun y => z (by omega)))
    obtain ⟨sa, sb, sc, sd, se⟩ := rel 0 (by decide) (by decide) (Or.inl rfl)
    have e134 : mG M2 134 0 = mG M 134 0 := g 134 0 (by omega)
    have gr : ∀ b j : Int, ZR M b j → mG M2 b j = mG M b j := fun b j z => g b j (by unfold ZR at z; omega)
    refine rel.ch iM _ g ⟨sa.z iM (fun b j z => g b j (by unfold ZA at z; omega)), sb.z iM (fun b j z => g b j (by unfold ZB at z; omega)) (Int.le_of_eq e134.symm) gr, sc.z iM (fun b j z => g b j (by unfold ZC at z; omega)) (Int.le_of_eq e134.symm) gr, sd.z iM (fun b j z => g b j (by unfold ZD at z; omega)), Se.new (fun p p0 p1 => ?_)⟩ (fun b j z => ?_)
    · by_cases e : p = l
      · rw [e, q3, q5 12 l (by decide) (by omega) (by omega)]; exact p4
      · rw [g 12 p (by omega), g 151 p (by omega)]
        have := se p p0 p1
        rw [sOf0, show 4 * (0 : Int) + p = p by omega] at this
        exact this
    · omega
theorem j2_end (r1 : (-2147483648) ≤ l ∧ l ≤ 2147483647) (h : J2 M) : wp (mX8_end 1 l M) (fun q1 => wp (mX9_end 126 l q1.2) (fun q2 => J2 q2.2 ∧ EQ q1 q2)) := by
  refine J2.ord (w_and4 (M := M) (j_end r1 h.1) ?_)
  obtain ⟨⟨iM, _, rl⟩, rel⟩ := h
  have s0 := (rl.1 0 (by decide) (by decide) (Or.inl rfl)).z
  refine p_mono (p_and (p_wp (s_X8_end r1 iM)) (pl_end iM)) ?_
  rintro ⟨a, M1⟩ ⟨⟨i1, -⟩, h1⟩
  refine p_mono (pr_end i1) ?_
  rintro ⟨b, M2⟩ h2 ⟨-, eq⟩
  replace eq : a = b := eq
  show Rel2 M2
  rcases h1 with ⟨p1, _, p3⟩ | ⟨p1, pl, p3⟩
  · replace p1 : a = -1 := p1
    replace p3 : M1 = M := p3
    subst p3
    rcases h2 with ⟨_, _, q3⟩ | ⟨q1, q2, _⟩
    · exact rel.fr iM (fun b j z => q3 b j (by unfold RC2 at z; omega))
    · replace q1 : b = l := q1
      have q2 : 0 ≤ l := q2.1
      omega
  · replace p1 : a = l := p1
    rcases h2 with ⟨q1, _⟩ | ⟨_, _, q3, q5⟩
    · replace q1 : b = -1 := q1
      have := pl.1; omega
    replace p3 : M1 = mS M 3 5 l := p3
    replace q3 : mG M2 128 0 = l := q3
    replace q5 : ∀ b j : Int, ¬ b = 126 → ¬ (b = 128 ∧ j = 0) → mG M2 b j = mG M1 b j := q5
    have pl : l ≤ mG M 3 5 := pl.2
    have g : ∀ b j : Int, ¬ ((b = 3 ∧ j = 5) ∨ b = 126 ∨ (b = 128 ∧ j = 0)) → mG M2 b j = mG M b j := fun b j z =>
      (q5 b j (fun y => z (by omega)) (fun y => z (by omega))).trans (st_ne p3 (fun y => z (by omega)))
    obtain ⟨sa, sb, sc, sd, se⟩ := rel 0 (by decide) (by decide) (Or.inl rfl)
    have e134 : mG M2 134 0 = mG M 134 0 := g 134 0 (by omega)
    have gr : ∀ b j : Int, ZR M b j → mG M2 b j = mG M b j := fun b j z => g b j (by unfold ZR at z; omega)
    refine rel.ch iM _ g ⟨fun j j0 j1 => ?_, sb.z iM (fun b j z => g b j (by unfold ZB at z; omega)) (Int.le_of_eq e134.symm) gr, sc.z iM (fun b j z => g b j (by unfold ZC at z; omega)) (Int.le_of_eq e134.symm) gr, sd.z iM (fun b j z => g b j (by unfold ZD at z; omega)), se.z (fun b j z => g b j (by unfold ZE at z; omega))⟩ (fun b j z => ?_)
    · rw [q3] at j1
      have e5 := s0.2.2.2.2.1
      have := sa j j0 (by omega)
      rw [sOf0, show 400 * (0 : Int) + j = j by omega] at this ⊢
      rw [g (3 + 10) j (by omega), g 127 j (by omega)]
      exact this
    · omega
theorem i2b_255 : ∀ x : Int, iand (i2b x) 255 = iand x 255 := fun x => by
  unfold iand i2b
  congr 1
  rw [Int32.ofInt_toInt]
  generalize Int32.ofInt x = y
  apply Int32.toBitVec_inj.mp
  rw [Int32.toBitVec_and, Int32.toBitVec_and]
  show (y.toBitVec.signExtend 8).signExtend 32 &&& 255#32 = y.toBitVec &&& 255#32
  generalize y.toBitVec = v
  have m : ∀ i : Nat, i < 32 → 8 ≤ i → (255#32).getLsbD i = false := by decide
  apply BitVec.eq_of_getLsbD_eq
  intro i hi
  rw [BitVec.getLsbD_and, BitVec.getLsbD_and]
  by_cases h : i < 8
  · have e : ((v.signExtend 8).signExtend 32).getLsbD i = v.getLsbD i := by
      rw [BitVec.getLsbD_signExtend, BitVec.getLsbD_signExtend, if_pos h, if_pos (by omega)]
      simp [h, hi]
    rw [e]
  · rw [m i hi (by omega), Bool.and_false, Bool.and_false]
theorem j2_feed (r1 : (-2147483648) ≤ l1 ∧ l1 ≤ 2147483647) (r2 : (-2147483648) ≤ l2 ∧ l2 ≤ 2147483647) (r3 : (-2147483648) ≤ l3 ∧ l3 ≤ 2147483647) (r4 : (-2147483648) ≤ l4 ∧ l4 ≤ 2147483647) (r5 : (-2147483648) ≤ l5 ∧ l5 ≤ 2147483647) (h : J2 M) : wp (mX8_feed 1 l1 l2 l3 l4 l5 M) (fun q1 => wp (mX9_feed 126 l1 l2 l3 l4 l5 q1.2) (fun q2 => J2 q2.2 ∧ EQ q1 q2)) := by
  refine J2.ord (w_and4 (M := M) (j_feed r1 r2 r3 r4 r5 h.1) ?_)
  obtain ⟨⟨iM, _, rl⟩, rel⟩ := h
  have s0 := (rl.1 0 (by decide) (by decide) (Or.inl rfl)).z
  have rT := rd_Told_5 iM (a := 3) rfl
  refine p_mono (p_and (p_wp (s_X8_feed r1 r2 r3 r4 r5 iM)) (pl_feed iM (T := mG M 3 5) rfl)) ?_
  rintro ⟨a, M1⟩ ⟨⟨i1, k1, -⟩, h1⟩
  have hn := iM.2.2.2.2.1
  replace k1 : Keep (mN M) W_X8_feed M M1 := k1
  have e128 : mG M1 128 0 = mG M 3 5 := (k1.2.2 128 0 (by omega) (fun z => by unfold W_X8_feed at z; omega)).trans s0.2.2.2.2.1.symm
  refine p_mono (pr_feed i1 (T := mG M 3 5) e128) ?_
  rintro ⟨b, M2⟩ h2 ⟨-, eq⟩
  replace eq : a = b := eq
  show Rel2 M2
  have e5 := s0.2.2.2.2.1
  obtain ⟨T, hT⟩ : ∃ T, T = mG M 3 5 := ⟨_, rfl⟩
  rw [← hT] at h1 h2 rT e5
  rcases h1 with ⟨p1, _, p3⟩ | ⟨p1, pl, _, p4, p5⟩
  · replace p1 : a = -1 := p1
    replace p3 : M1 = M := p3
    subst p3
    rcases h2 with ⟨_, _, q3⟩ | ⟨q1, _⟩
    · exact rel.fr iM (fun b j z => q3 b j (by unfold RC2 at z; omega))
    · have q1 : b = T + 20 := q1; omega
  · replace p1 : a = T + 20 := p1
    rcases h2 with ⟨q1, _⟩ | ⟨_, _, q3, q4, q5⟩
    · have q1 : b = -1 := q1; omega
    replace p4 : ∀ j : Int, mG M1 13 j = if T ≤ j ∧ j < T + 20 then iand (fb l1 l2 l3 l4 l5 (j - T)) 255 else mG M 13 j := p4
    replace p5 : ∀ b j : Int, ¬ (b = 3 ∧ j = 5) → ¬ b = 13 → mG M1 b j = mG M b j := p5
    replace q3 : mG M2 128 0 = T + 20 := q3
    replace q4 : ∀ j : Int, mG M2 127 j = if T ≤ j ∧ j < T + 20 then i2b (fb l1 l2 l3 l4 l5 (j - T)) else mG M1 127 j := q4
    replace q5 : ∀ b j : Int, ¬ b = 126 → ¬ (b = 128 ∧ j = 0) → ¬ b = 127 → mG M2 b j = mG M1 b j := q5
    have g : ∀ b j : Int, ¬ ((b = 3 ∧ j = 5) ∨ b = 13 ∨ b = 126 ∨ (b = 128 ∧ j = 0) ∨ (b = 127 ∧ j < 400)) → mG M2 b j = mG M b j := fun b j z => by
      by_cases e : b = 127
      · subst e
        rw [q4, if_neg (fun y => z (by omega))]
        exact p5 127 j (by omega) (by omega)
      · exact (q5 b j (fun y => z (by omega)) (fun y => z (by omega)) e).trans (p5 b j (fun y => z (by omega)) (fun y => z (by omega)))
    obtain ⟨sa, sb, sc, sd, se⟩ := rel 0 (by decide) (by decide) (Or.inl rfl)
    have e134 : mG M2 134 0 = mG M 134 0 := g 134 0 (by omega)
    have gr : ∀ b j : Int, ZR M b j → mG M2 b j = mG M b j := fun b j z => g b j (by unfold ZR at z; omega)
    refine rel.ch iM _ g ⟨fun j j0 j1 => ?_, sb.z iM (fun b j z => g b j (by unfold ZB at z; omega)) (Int.le_of_eq e134.symm) gr, sc.z iM (fun b j z => g b j (by unfold ZC at z; omega)) (Int.le_of_eq e134.symm) gr, sd.z iM (fun b j z => g b j (by unfold ZD at z; omega)), se.z (fun b j z => g b j (by unfold ZE at z; omega))⟩ (fun b j z => ?_)
    · rw [q3] at j1
      rw [sOf0, show 400 * (0 : Int) + j = j by omega]
      show mG M2 13 j = _
      rw [q5 13 j (by decide) (by omega) (by decide), p4, q4]
      by_cases e : T ≤ j
      · rw [if_pos ⟨e, j1⟩, if_pos ⟨e, j1⟩, i2b_255]
      · rw [if_neg (fun y => e y.1), if_neg (fun y => e y.1), p5 127 j (by omega) (by omega)]
        have := sa j j0 (by omega)
        rw [sOf0, show 400 * (0 : Int) + j = j by omega] at this
        exact this
    · omega
theorem j2_strike (r1 : (-2147483648) ≤ l ∧ l ≤ 2147483647) (h : J2 M) : wp (mX8_strike 1 l M) (fun q1 => wp (mX9_strike 126 l q1.2) (fun q2 => J2 q2.2 ∧ EQ q1 q2)) := by
  have hh := h
  obtain ⟨⟨iM, _, rl⟩, rel⟩ := h
  have s0 := (rl.1 0 (by decide) (by decide) (Or.inl rfl)).z
  obtain ⟨sa, sb, sc, sd, se⟩ := rel 0 (by decide) (by decide) (Or.inl rfl)
  have e11 : mG M 3 11 = mG M 138 0 := sb.1
  have r8 := rd_Mstories iM (a := 138) (i := 0) rfl
  have st : ∀ s : Int, 0 ≤ s → s < mG M 138 0 → mG M 16 s = mG M 140 s := fun s s0 s1 => by
    have := (sb.2 s s0 s1).2.1
    rw [sOf0, show 8 * (0 : Int) + s = s by omega] at this
    exact this
  refine w_mono (w_and4 (M := M) (B := fun q1 q2 => Rel2 q2.2 ∧ EQ q1 q2) (j_strike r1 hh.1) ?_) (fun q1 z => w_mono z (fun q2 y => ⟨⟨y.1, y.2.1⟩, y.2.2⟩))
  refine p_mono (p_and (p_wp (s_X8_strike r1 iM)) (p2_strike iM)) ?_
  rintro ⟨a, M1⟩ ⟨⟨i1, k1, -⟩, h1⟩
  have hn := iM.2.2.2.2.1
  replace k1 : Keep (mN M) W_X8_strike M M1 := k1
  have e9 : ∀ b j : Int, 126 ≤ b → b ≤ 169 → mG M1 b j = mG M b j := fun b j b0 b1 => k1.2.2 b j (by omega) (fun z => by unfold W_X8_strike at z; omega)
  refine p_mono (r2_strike i1) ?_
  rintro ⟨b, M2⟩ h2 -
  show Rel2 M2 ∧ a = b
  rw [e9 138 0 (by decide) (by decide), e9 140 l (by decide) (by decide), e9 131 0 (by decide) (by decide)] at h2
  have iff : ((0 ≤ l ∧ l < mG M 3 11) ∧ mG M 16 l = -1) ↔ ((0 ≤ l ∧ l < mG M 138 0) ∧ mG M 140 l = -1) := by
    rw [e11]
    constructor
    · rintro ⟨x, y⟩; exact ⟨x, by rw [← st l x.1 x.2]; exact y⟩
    · rintro ⟨x, y⟩; exact ⟨x, by rw [st l x.1 x.2]; exact y⟩
  rcases h1 with ⟨p1, p2, p3⟩ | ⟨p1, p2, p3⟩
  · replace p1 : a = 0 := p1
    replace p3 : M1 = M := p3
    subst p3
    rcases h2 with ⟨q1, _, q3⟩ | ⟨_, q2, _⟩
    · replace q1 : b = 0 := q1
      exact ⟨rel.fr iM (fun b j z => q3 b j (by unfold RC2 at z; omega)), p1.trans q1.symm⟩
    · exact absurd (iff.mpr q2) p2
  · replace p1 : a = 1 := p1
    rcases h2 with ⟨_, q2, _⟩ | ⟨q1, q2, q3, q5⟩
    · exact absurd (iff.mp p2) q2
    replace q1 : b = 1 := q1
    refine ⟨?_, p1.trans q1.symm⟩
    replace p3 : M1 = mS M 16 l (mG M 3 13) := p3
    replace q3 : mG M2 140 l = mG M 131 0 := q3
    replace q5 : ∀ b j : Int, ¬ b = 126 → ¬ (b = 140 ∧ j = l) → mG M2 b j = mG M1 b j := q5
    have ql := q2.1
    have g : ∀ b j : Int, ¬ ((b = 16 ∧ j = l) ∨ b = 126 ∨ (b = 140 ∧ j = l)) → mG M2 b j = mG M b j := fun b j z =>
      (q5 b j (fun y => z (by omega)) (fun y => z (by omega))).trans (st_ne p3 (fun y => z (by omega)))
    have e134 : mG M2 134 0 = mG M 134 0 := g 134 0 (by omega)
    have gr : ∀ b j : Int, ZR M b j → mG M2 b j = mG M b j := fun b j z => g b j (by unfold ZR at z; omega)
    refine rel.ch iM _ g ⟨sa.z iM (fun b j z => g b j (by unfold ZA at z; omega)), ⟨?_, fun s s0' s1 => ?_⟩, sc.z iM (fun b j z => g b j (by unfold ZC at z; omega)) (Int.le_of_eq e134.symm) gr, sd.z iM (fun b j z => g b j (by unfold ZD at z; omega)), se.z (fun b j z => g b j (by unfold ZE at z; omega))⟩ (fun b j z => ?_)
    · rw [sOf0, g 3 11 (by omega), g 138 0 (by omega)]; exact e11
    · rw [g 138 0 (by omega)] at s1
      obtain ⟨x1, x2, x3⟩ := sb.2 s s0' s1
      rw [sOf0, show 8 * (0 : Int) + s = s by omega] at x1 x2
      rw [sOf0] at x3
      rw [sOf0, show 8 * (0 : Int) + s = s by omega, g (3 + 12) s (by omega), g 139 s (by omega), g (3 + 11) s (by omega)]
      refine ⟨x1, ?_, x3.go (n := mN M) (tx_at (i := 0) iM (by decide) (by decide) s0' (by omega) x3.1) (fun b j b0 b1 => g b j (by omega)) (g 141 _ (by omega)) (fun c j c0 c1 _ _ => g c _ (by omega)) (Int.le_of_eq e134.symm) (fun c r c0 c1 r0 r1 => g c _ (by omega))⟩
      show mG M2 16 s = _
      by_cases e : s = l
      · rw [e, q3, q5 16 l (by decide) (by omega), st_eq p3]; exact s0.2.2.2.2.2.1
      · rw [g 16 s (by omega), g 140 s (by omega)]; exact x2
    · omega
end
