/-! ===== both sides alike, kept ===== -/
/-- one slot (what is told now, or an image) of both sides -/
def SR (i : Int) (M : Mem) : Prop := (∀ k : Int, 0 ≤ k → k < 3 → mG M (sOf i + 2) k = mG M 133 (3 * i + k)) ∧ mG M (sOf i + 1) 6 = mG M 134 i ∧ (∀ r : Int, 0 ≤ r → r < mG M 134 i → mG M (sOf i + 3) r = mG M 135 (4 * i + r) ∧ mG M (sOf i + 4) r = mG M 136 (4 * i + r)) ∧ LO (sOf i + 1) M ∧ mG M (sOf i) 5 = mG M 128 i ∧ mG M (sOf i) 13 = mG M 131 i ∧ mG M (sOf i) 14 = mG M 132 i ∧ mG M (sOf i) 18 = mG M 146 i
def Rel (M : Mem) : Prop := (∀ i : Int, 0 ≤ i → i < 4 → (i = 0 ∨ mG M 169 (i - 1) = 1) → SR i M) ∧ ∀ k : Int, 0 ≤ k → k < 3 → mG M 74 k = mG M 169 k
def SC (i b j : Int) : Prop := (b = sOf i ∧ (j = 5 ∨ j = 13 ∨ j = 14 ∨ j = 18)) ∨ (sOf i + 1 ≤ b ∧ b ≤ sOf i + 7)
def SD (i b j : Int) : Prop := (b = 133 ∧ 3 * i ≤ j ∧ j < 3 * i + 3) ∨ ((b = 134 ∨ b = 128 ∨ b = 131 ∨ b = 132 ∨ b = 146) ∧ j = i) ∨ ((b = 135 ∨ b = 136) ∧ 4 * i ≤ j ∧ j < 4 * i + 4)
theorem SR.fr {i : Int} {M M' : Mem} (h : SR i M) (hR : mG M 134 i ≤ 4) (g8 : ∀ b j : Int, SC i b j → mG M' b j = mG M b j) (g9 : ∀ b j : Int, SD i b j → mG M' b j = mG M b j) : SR i M' := by
  obtain ⟨h1, h2, h3, h4, h5, h6, h7, h8⟩ := h
  have c (b j : Int) (hb : sOf i + 1 ≤ b ∧ b ≤ sOf i + 7) : mG M' b j = mG M b j := g8 b j (Or.inr hb)
  have f (j : Int) (hj : j = 5 ∨ j = 13 ∨ j = 14 ∨ j = 18) : mG M' (sOf i) j = mG M (sOf i) j := g8 _ _ (Or.inl ⟨rfl, hj⟩)
  have d (b : Int) (hb : b = 134 ∨ b = 128 ∨ b = 131 ∨ b = 132 ∨ b = 146) : mG M' b i = mG M b i := g9 b i (Or.inr (Or.inl ⟨hb, rfl⟩))
  have e134 := d 134 (Or.inl rfl)
  refine ⟨fun k k0 k1 => ?_, ?_, fun r r0 r1 => ?_, h4.of (fun b j b0 b1 => c b j ⟨b0, by omega⟩), ?_, ?_, ?_, ?_⟩
  · rw [c _ _ ⟨by omega, by omega⟩, g9 133 _ (Or.inl ⟨rfl, by omega, by omega⟩)]; exact h1 k k0 k1
  · rw [c _ _ ⟨by omega, by omega⟩, e134]; exact h2
  · rw [e134] at r1
    rw [c (sOf i + 3) r ⟨by omega, by omega⟩, c (sOf i + 4) r ⟨by omega, by omega⟩, g9 135 _ (Or.inr (Or.inr ⟨Or.inl rfl, by omega, by omega⟩)), g9 136 _ (Or.inr (Or.inr ⟨Or.inr rfl, by omega, by omega⟩))]
    exact h3 r r0 r1
  · rw [f 5 (by decide), d 128 (by decide)]; exact h5
  · rw [f 13 (by decide), d 131 (by decide)]; exact h6
  · rw [f 14 (by decide), d 132 (by decide)]; exact h7
  · rw [f 18 (by decide), d 146 (by decide)]; exact h8
theorem sOf_c {i : Int} (h0 : 0 ≤ i) (h1 : i < 4) : (i = 0 ∧ sOf i = 3) ∨ (1 ≤ i ∧ sOf i = 58 + 17 * i) := by
  unfold sOf
  by_cases e : i = 0
  · exact Or.inl ⟨e, by rw [if_pos e]⟩
  · exact Or.inr ⟨by omega, by rw [if_neg e]; omega⟩
/-- nothing that Rel sees has changed -/
def RC (b j : Int) : Prop := (b = 3 ∧ (j = 5 ∨ j = 13 ∨ j = 14 ∨ j = 18)) ∨ (4 ≤ b ∧ b ≤ 10) ∨ (74 ≤ b ∧ b ≤ 125) ∨ b = 128 ∨ (131 ≤ b ∧ b ≤ 136) ∨ b = 146 ∨ b = 169
theorem SC.rc {i b j : Int} (h0 : 0 ≤ i) (h1 : i < 4) (h : SC i b j) : RC b j := by
  unfold SC at h
  unfold RC
  rcases sOf_c h0 h1 with ⟨e, e2⟩ | ⟨e, e2⟩
  · rw [e2] at h
    rcases h with h | h
    · exact Or.inl h
    · exact Or.inr (Or.inl ⟨by omega, by omega⟩)
  · rw [e2] at h
    refine Or.inr (Or.inr (Or.inl ?_))
    rcases h with h | h <;> omega
theorem SD.rc {i b j : Int} (h : SD i b j) : RC b j := by
  unfold SD at h
  unfold RC
  refine Or.inr (Or.inr (Or.inr ?_))
  rcases h with h | h | h
  · exact Or.inr (Or.inl (by omega))
  · rcases h.1 with z | z | z | z | z
    · exact Or.inr (Or.inl (by omega))
    · exact Or.inl z
    · exact Or.inr (Or.inl (by omega))
    · exact Or.inr (Or.inl (by omega))
    · exact Or.inr (Or.inr (Or.inl z))
  · exact Or.inr (Or.inl (by omega))
theorem Rel.fr {n : Nat} {M M' : Mem} (iM : I n M) (h : Rel M) (g : ∀ b j : Int, RC b j → mG M' b j = mG M b j) : Rel M' := by
  refine ⟨fun i i0 i1 hi => (h.1 i i0 i1 ?_).fr (rd_Mrelations iM (a := 134) rfl).2 (fun b j z => g b j (z.rc i0 i1)) (fun b j z => g b j z.rc), fun k k0 k1 => ?_⟩
  · rw [g 169 _ (by unfold RC; omega)] at hi; exact hi
  · rw [g 74 _ (by unfold RC; omega), g 169 _ (by unfold RC; omega)]; exact h.2 k k0 k1
/-- slot 0 is told anew, the images are as they were -/
theorem Rel.r0 {n : Nat} {M M' : Mem} (iM : I n M) (h : Rel M) (h0 : SR 0 M') (g8 : ∀ b j : Int, 74 ≤ b → b ≤ 125 → mG M' b j = mG M b j) (g9 : ∀ i b j : Int, 1 ≤ i → i < 4 → SD i b j → mG M' b j = mG M b j) (g : ∀ j, mG M' 169 j = mG M 169 j) : Rel M' := by
  refine ⟨fun i i0 i1 hi => ?_, fun k k0 k1 => ?_⟩
  · rcases sOf_c i0 i1 with ⟨e, e2⟩ | ⟨e, e2⟩
    · rw [e]; exact h0
    · rw [g] at hi
      refine (h.1 i i0 i1 hi).fr (rd_Mrelations iM (a := 134) rfl).2 (fun b j z => ?_) (fun b j z => g9 i b j e i1 z)
      unfold SC at z
      rw [e2] at z
      rcases z with z | z
      · exact g8 b j (by omega) (by omega)
      · exact g8 b j (by omega) (by omega)
  · rw [g8 74 k (by decide) (by decide), g]; exact h.2 k k0 k1
def SAFE8 (b j : Int) : Prop := b ≤ 2 ∨ (b = 3 ∧ (j = 1 ∨ j = 6 ∨ j = 7 ∨ j = 11 ∨ j = 12)) ∨ (11 ≤ b ∧ b ≤ 73)
def SAFE9 (b j : Int) : Prop := b = 126 ∨ (129 ≤ b ∧ b ≤ 130) ∨ b = 137 ∨ (139 ≤ b ∧ b ≤ 140) ∨ b = 145 ∨ (150 ≤ b ∧ b ≤ 168)
theorem safe8_rc {b j : Int} (h : SAFE8 b j) : ¬ RC b j := by
  unfold SAFE8 at h
  intro z
  unfold RC at z
  rcases h with h | h | h
  · omega
  · obtain ⟨h, h2⟩ := h
    rcases z with z | z
    · obtain ⟨-, z⟩ := z; omega
    · omega
  · omega
theorem safe9_rc {b j : Int} (h : SAFE9 b j) : ¬ RC b j := by
  unfold SAFE9 at h
  intro z
  unfold RC at z
  omega
theorem Rel.k8 {n : Nat} {W : Int → Int → Prop} {M M' : Mem} (iM : I n M) (h : Rel M) (k : Keep n W M M') (hw : ∀ b j, W b j → SAFE8 b j) : Rel M' :=
  h.fr iM (fun b j z => k.2.2 b j (by have := iM.2.2.2.2.1; unfold RC at z; omega) (fun y => safe8_rc (hw b j y) z))
theorem Rel.k9 {n : Nat} {W : Int → Int → Prop} {M M' : Mem} (iM : I n M) (h : Rel M) (k : Keep n W M M') (hw : ∀ b j, W b j → SAFE9 b j) : Rel M' :=
  h.fr iM (fun b j z => k.2.2 b j (by have := iM.2.2.2.2.1; unfold RC at z; omega) (fun y => safe9_rc (hw b j y) z))
theorem WF.kp {n : Nat} {W : Int → Int → Prop} {M M' : Mem} (iM : I n M) (h : WF M) (k : Keep n W M M') (hw : ∀ b j, W b j → ¬ b = 138 ∧ ¬ (141 ≤ b ∧ b ≤ 144)) : WF M' := by
  have hn : (169 : Int) ≤ (n : Int) := by have := iM.2.2.2.2.1; omega
  exact WF_of h (fun j => k.2.2 _ _ (by omega) (fun z => (hw _ _ z).2 (by omega))) (fun j => k.2.2 _ _ (by omega) (fun z => (hw _ _ z).2 (by omega))) (fun j => k.2.2 _ _ (by omega) (fun z => (hw _ _ z).2 (by omega))) (fun j => k.2.2 _ _ (by omega) (fun z => (hw _ _ z).2 (by omega))) (fun j => k.2.2 _ _ (by omega) (fun z => (hw _ _ z).1 rfl))
theorem safe8_wf {b j : Int} (h : SAFE8 b j) : ¬ b = 138 ∧ ¬ (141 ≤ b ∧ b ≤ 144) := by unfold SAFE8 at h; omega
theorem safe9_wf {b j : Int} (h : SAFE9 b j) : ¬ b = 138 ∧ ¬ (141 ≤ b ∧ b ≤ 144) := by unfold SAFE9 at h; omega
/-- what stands between two calls -/
def J (M : Mem) : Prop := I (mN M) M ∧ WF M ∧ Rel M
theorem J.mk {n : Nat} {M : Mem} (i : I n M) (w : WF M) (r : Rel M) : J M := ⟨i.up i.2.2.2.1 (Nat.le_refl _), w, r⟩
/-- a call that changes nothing that Rel sees, on either side -/
theorem J.un {M : Mem} {x : Option (Int × Mem)} {y : Mem → Option (Int × Mem)} {W8 W9 : Int → Int → Prop} {P8 P9 : Int × Mem → Prop} (h : J M) (hx : I (mN M) M → wp x (fun q => I (mN M) q.2 ∧ Keep (mN M) W8 M q.2 ∧ P8 q)) (d8 : ∀ b j, W8 b j → SAFE8 b j) (hy : ∀ M1, WF M1 → I (mN M) M1 → wp (y M1) (fun q => I (mN M) q.2 ∧ Keep (mN M) W9 M1 q.2 ∧ P9 q)) (d9 : ∀ b j, W9 b j → SAFE9 b j) : wp x (fun q1 => wp (y q1.2) (fun q2 => J q2.2)) := by
  obtain ⟨iM, wf, rel⟩ := h
  refine w_mono (hx iM) ?_
  rintro q1 ⟨i1, k1, -⟩
  have w1 := wf.kp iM k1 (fun b j z => safe8_wf (d8 b j z))
  refine w_mono (hy _ w1 i1) ?_
  rintro q2 ⟨i2, k2, -⟩
  exact J.mk i2 (w1.kp i1 k2 (fun b j z => safe9_wf (d9 b j z))) ((rel.k8 iM k1 d8).k9 i1 k2 d9)
