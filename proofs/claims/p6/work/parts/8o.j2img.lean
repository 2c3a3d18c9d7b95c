/-! ===== images: what holds of slots goes with them ===== -/
/-- all cells of a slot -/
def VF (n : Nat) (i b j : Int) : Prop := (sOf i ≤ b ∧ b ≤ sOf i + 16) ∨ (169 < b ∧ b ≤ (n : Int)) ∨ (b ∈ L25 ∧ rlen b * i ≤ j ∧ j < rlen b * i + rlen b)
def alive (i : Int) (M : Mem) : Prop := 0 ≤ i ∧ i < 4 ∧ (i = 0 ∨ mG M 169 (i - 1) = 1)
/-- slot i' of M' is slot i of M -/
def CPY (n : Nat) (i i' : Int) (M M' : Mem) : Prop := (∀ b j : Int, 169 < b → b ≤ (n : Int) → mG M' b j = mG M b j) ∧ LO (sOf i' + 1) M' ∧ mG M' (sOf i' + 1) 6 = mG M (sOf i + 1) 6 ∧ (∀ j : Int, tfld j = true → mG M' (sOf i') j = mG M (sOf i) j) ∧ (∀ d j : Int, 0 ≤ j → j < tlen d → mG M' (sOf i' + d) j = mG M (sOf i + d) j) ∧ ∀ b N j : Int, b ∈ L25 → rlen b = N → 0 ≤ j → j < N → mG M' b (N * i' + j) = mG M b (N * i + j)
theorem rlen_pos {b : Int} (h : b ∈ L25) : 1 ≤ rlen b ∧ rlen b ≤ 400 := L25_c (P := fun b => 1 ≤ rlen b ∧ rlen b ≤ 400) h (by decide) (by decide) (by decide) (by decide) (by decide) (by decide) (by decide) (by decide) (by decide) (by decide) (by decide) (by decide) (by decide) (by decide) (by decide) (by decide) (by decide) (by decide) (by decide) (by decide) (by decide) (by decide) (by decide) (by decide) (by decide)
theorem oth_slot {N i i' j : Int} (hN : 0 ≤ N) (h : ¬ i = i') (h0 : N * i ≤ j) (h1 : j < N * i + N) : j < N * i' ∨ N * i' + N ≤ j := by
  by_cases c : i < i'
  · have a : N * (i + 1) ≤ N * i' := Int.mul_le_mul_of_nonneg_left (by omega) hN
    rw [Int.mul_add] at a
    omega
  · have a : N * (i' + 1) ≤ N * i := Int.mul_le_mul_of_nonneg_left (by omega) hN
    rw [Int.mul_add] at a
    omega
theorem tlen_in {d j : Int} (j0 : 0 ≤ j) (h : j < tlen d) : 0 ≤ d ∧ d ≤ 16 := by
  unfold tlen at h
  split at h <;> omega
section
variable {M : Mem} {l : Int} {P : Int → Mem → Prop}
theorem img_gen (r1 : (-2147483648) ≤ l ∧ l ≤ 2147483647) (h : J M) (hP : ∀ i, alive i M → P i M) (hc : ∀ i i' M', 0 ≤ i → i < 4 → P i M → CPY (mN M) i i' M M' → P i' M') (hf : ∀ i M', 0 ≤ i → i < 4 → P i M → (∀ b j : Int, VF (mN M) i b j → mG M' b j = mG M b j) → P i M') : pw (mX8_image 1 l M) (fun q1 => pw (mX9_image 126 l q1.2) (fun q2 => EQ q1 q2 → ∀ i, alive i q2.2 → P i q2.2)) := by
  obtain ⟨iM, wf, rel⟩ := h
  refine p_mono (p_and (p_wp (s_X8_image r1 iM)) (pl_image iM)) ?_
  rintro ⟨a, M1⟩ ⟨⟨i1, k1, -⟩, h1⟩
  replace i1 : I (mN M) M1 := i1
  have hn : (169 : Int) ≤ ((mN M : Nat) : Int) := by have := iM.2.2.2.2.1; omega
  refine p_mono (p_wp (x_image i1)) ?_
  rintro ⟨b, M2⟩ ⟨N1, hN1, h2⟩ eq
  replace eq : a = b := eq
  show ∀ i, alive i M2 → P i M2
  have gN : ∀ b j : Int, ¬ b = 126 → mG N1 b j = mG M1 b j := fun b j hb => st_ne hN1 (fun z => hb z.1)
  rcases h1 with ⟨p1, p2, p3⟩ | ⟨p1, p2, Mx, c, p3⟩
  · replace p1 : a = 0 := p1
    replace p3 : M1 = M := p3
    subst p3
    rcases h2 with ⟨q1, q2, q3⟩ | ⟨q1, q2, q3⟩
    · replace q3 : M2 = N1 := q3
      intro i hi
      have e169 : ∀ j, mG M2 169 j = mG M1 169 j := fun j => by rw [q3]; exact gN 169 j (by decide)
      have hi2 : alive i M1 := ⟨hi.1, hi.2.1, by rw [← e169]; exact hi.2.2⟩
      refine hf i M2 hi.1 hi.2.1 (hP i hi2) (fun b j z => ?_)
      rw [q3]
      refine gN b j (fun e => ?_)
      subst e
      rcases z with z | z | z
      · have h4 := hi.2.1
        rcases sOf_c hi.1 hi.2.1 with ⟨x1, x2⟩ | ⟨x1, x2⟩ <;> rw [x2] at z <;> omega
      · omega
      · exact absurd z.1 (by decide)
    · exact absurd q2 p2
  · replace p1 : a = 1 := p1
    replace p3 : M1 = mS Mx 74 l 1 := p3
    rcases h2 with ⟨q1, q2, q3⟩ | ⟨q1, q2, M3, d, q3⟩
    · exact absurd p2 q2
    replace q3 : M2 = mS M3 169 l 1 := q3
    obtain ⟨lo, c6, cf, cr, cfr⟩ := c
    have gx : ∀ b j : Int, ¬ b = 74 → mG M1 b j = mG Mx b j := fun b j hb => st_ne p3 (fun z => hb z.1)
    have g2 : ∀ b j : Int, ¬ b = 169 → mG M2 b j = mG M3 b j := fun b j hb => st_ne q3 (fun z => hb z.1)
    have e9 : ∀ b j : Int, 126 ≤ b → mG M1 b j = mG M b j := fun b j b0 => (gx b j (by omega)).trans (cfr b j (by omega))
    have d8 : ∀ b j : Int, ¬ (127 ≤ b ∧ b ≤ 151) → ¬ b = 169 → ¬ b = 126 → mG M2 b j = mG M1 b j := fun b j hb h9 h6 => by
      rw [g2 b j h9, d.at (fun z => by have := L25_m z; omega), gN b j h6]
    have c8 : ∀ b j : Int, b ≤ 125 → ¬ b = 74 → mG M2 b j = mG Mx b j := fun b j hb hc => (d8 b j (by omega) (by omega) (by omega)).trans (gx b j hc)
    have c9 : ∀ b j : Int, 127 ≤ b → b ≤ 151 → mG N1 b j = mG M b j := fun b j b0 b1 => (gN b j (by omega)).trans (e9 b j (by omega))
    have k169 : ∀ j : Int, ¬ j = l → mG M2 169 j = mG M 169 j := fun j hj => by
      rw [st_ne q3 (fun z => hj z.2), d.at (by decide), gN 169 j (by decide), e9 169 j (by decide)]
    have gt : ∀ b j : Int, 169 < b → b ≤ ((mN M : Nat) : Int) → mG M2 b j = mG M b j := fun b j b0 b1 => (d8 b j (by omega) (by omega) (by omega)).trans (e9 b j (by omega))
    intro i hi
    by_cases e : i = l + 1
    · subst e
      refine hc 0 (l + 1) M2 (by decide) (by decide) (hP 0 ⟨by decide, by decide, Or.inl rfl⟩) ⟨gt, ?_, ?_, fun j hj => ?_, fun d' j j0 j1 => ?_, fun b N j hb hN j0 j1 => ?_⟩
      · rw [sOf_s l p2.1]
        exact lo.of (fun b j b0 b1 => c8 b j (by omega) (by omega))
      · rw [sOf_s l p2.1, c8 _ _ (by omega) (by omega)]; exact c6
      · rw [sOf_s l p2.1, c8 _ _ (by omega) (by omega)]; exact cf j hj
      · have hd := tlen_in j0 j1
        rw [sOf_s l p2.1, c8 _ _ (by omega) (by omega)]; exact cr d' j j0 j1
      · have hb' := L25_m hb
        rw [g2 b _ (by omega), d.get hb hN j0 j1]
        exact c9 b _ (by omega) (by omega)
    · have hi' : alive i M := ⟨hi.1, hi.2.1, by
        rcases hi.2.2 with y | y
        · exact Or.inl y
        · rw [k169 _ (by omega)] at y; exact Or.inr y⟩
      refine hf i M2 hi.1 hi.2.1 (hP i hi') (fun b j z => ?_)
      rcases z with z | z | z
      · have hb : b ≤ 125 ∧ ¬ (75 + 17 * l ≤ b ∧ b ≤ 75 + 17 * l + 16) ∧ ¬ b = 74 := by
          rcases sOf_c hi.1 hi.2.1 with ⟨x1, x2⟩ | ⟨x1, x2⟩
          · rw [x2] at z; omega
          · have := hi.2.1
            rw [x2] at z
            have : i ≤ l ∨ l + 2 ≤ i := by omega
            omega
        rw [c8 b j hb.1 hb.2.2]
        exact cfr b j hb.2.1
      · exact gt b j z.1 z.2
      · obtain ⟨hb, z0, z1⟩ := z
        have hb' := L25_m hb
        rw [g2 b j (by omega), d.oth (N := rlen b) rfl (oth_slot (by have := rlen_pos hb; omega) e z0 z1)]
        exact c9 b j (by omega) (by omega)
theorem aga_gen (r1 : (-2147483648) ≤ l ∧ l ≤ 2147483647) (h : J M) (hP : ∀ i, alive i M → P i M) (hc : ∀ i i' M', 0 ≤ i → i < 4 → P i M → CPY (mN M) i i' M M' → P i' M') (hf : ∀ i M', 0 ≤ i → i < 4 → P i M → (∀ b j : Int, VF (mN M) i b j → mG M' b j = mG M b j) → P i M') : pw (mX8_again 1 l M) (fun q1 => pw (mX9_again 126 l q1.2) (fun q2 => EQ q1 q2 → ∀ i, alive i q2.2 → P i q2.2)) := by
  obtain ⟨iM, wf, rel⟩ := h
  refine p_mono (p_and (p_wp (s_X8_again r1 iM)) (pl_again iM)) ?_
  rintro ⟨a, M1⟩ ⟨⟨i1, k1, -⟩, h1⟩
  replace i1 : I (mN M) M1 := i1
  have hn : (169 : Int) ≤ ((mN M : Nat) : Int) := by have := iM.2.2.2.2.1; omega
  refine p_mono (p_wp (x_again i1)) ?_
  rintro ⟨b, M2⟩ ⟨N1, hN1, h2⟩ eq
  replace eq : a = b := eq
  show ∀ i, alive i M2 → P i M2
  have gN : ∀ b j : Int, ¬ b = 126 → mG N1 b j = mG M1 b j := fun b j hb => st_ne hN1 (fun z => hb z.1)
  rcases h1 with ⟨p1, p2, p3⟩ | ⟨p1, p2, Mx, c, p3⟩
  · replace p1 : a = 0 := p1
    replace p3 : M1 = M := p3
    subst p3
    rcases h2 with ⟨q1, q2, q3⟩ | ⟨q1, q2, q3⟩
    · replace q3 : M2 = N1 := q3
      intro i hi
      have e169 : ∀ j, mG M2 169 j = mG M1 169 j := fun j => by rw [q3]; exact gN 169 j (by decide)
      have hi2 : alive i M1 := ⟨hi.1, hi.2.1, by rw [← e169]; exact hi.2.2⟩
      refine hf i M2 hi.1 hi.2.1 (hP i hi2) (fun b j z => ?_)
      rw [q3]
      refine gN b j (fun e => ?_)
      subst e
      rcases z with z | z | z
      · have h4 := hi.2.1
        rcases sOf_c hi.1 hi.2.1 with ⟨x1, x2⟩ | ⟨x1, x2⟩ <;> rw [x2] at z <;> omega
      · omega
      · exact absurd z.1 (by decide)
    · replace q1 : b = 1 := q1
      omega
  · replace p1 : a = 1 := p1
    replace p3 : ∀ b j : Int, ¬ b = 2 → ¬ b = 24 → mG M1 b j = mG Mx b j := p3
    rcases h2 with ⟨q1, q2, q3⟩ | ⟨q1, q2, d⟩
    · replace q1 : b = 0 := q1
      omega
    replace d : CpS L25 (l + 1) 0 N1 M2 := d
    obtain ⟨lo, c6, cf, cr, cfr⟩ := c
    have e9 : ∀ b j : Int, 74 ≤ b → mG M1 b j = mG M b j := fun b j b0 => (p3 b j (by omega) (by omega)).trans (cfr b j (by omega))
    have d8 : ∀ b j : Int, ¬ (127 ≤ b ∧ b ≤ 151) → ¬ b = 126 → mG M2 b j = mG M1 b j := fun b j hb h6 => by
      rw [d.at (fun z => by have := L25_m z; omega), gN b j h6]
    have c8 : ∀ b j : Int, 3 ≤ b → b ≤ 19 → mG M2 b j = mG Mx b j := fun b j b0 b1 => (d8 b j (by omega) (by omega)).trans (p3 b j (by omega) (by omega))
    have c9 : ∀ b j : Int, 127 ≤ b → b ≤ 151 → mG N1 b j = mG M b j := fun b j b0 b1 => (gN b j (by omega)).trans (e9 b j (by omega))
    have k169 : ∀ j : Int, mG M2 169 j = mG M 169 j := fun j => by
      rw [d.at (by decide), gN 169 j (by decide), e9 169 j (by decide)]
    have gt : ∀ b j : Int, 169 < b → b ≤ ((mN M : Nat) : Int) → mG M2 b j = mG M b j := fun b j b0 b1 => (d8 b j (by omega) (by omega)).trans (e9 b j (by omega))
    have al : mG M 169 l = 1 := by rw [← rel.2 l p2.1 (by have := p2.2.1; omega)]; exact p2.2.2
    have l2 := p2.2.1
    intro i hi
    by_cases e : i = 0
    · subst e
      refine hc (l + 1) 0 M2 (by have := p2.1; omega) (by omega) (hP (l + 1) ⟨by have := p2.1; omega, by omega, Or.inr (by rw [show l + 1 - 1 = l by omega]; exact al)⟩) ⟨gt, ?_, ?_, fun j hj => ?_, fun d' j j0 j1 => ?_, fun b N j hb hN j0 j1 => ?_⟩
      · exact lo.of (fun b j b0 b1 => c8 b j (by omega) (by omega))
      · rw [sOf_s l p2.1, sOf0, c8 _ _ (by decide) (by decide)]; exact c6
      · rw [sOf_s l p2.1, sOf0, c8 _ _ (by decide) (by decide)]; exact cf j hj
      · have hd := tlen_in j0 j1
        rw [sOf_s l p2.1, sOf0, c8 _ _ (by omega) (by omega)]; exact cr d' j j0 j1
      · have hb' := L25_m hb
        rw [d.get hb hN j0 j1]
        exact c9 b _ (by omega) (by omega)
    · have hi' : alive i M := ⟨hi.1, hi.2.1, by
        rcases hi.2.2 with y | y
        · exact Or.inl y
        · rw [k169] at y; exact Or.inr y⟩
      refine hf i M2 hi.1 hi.2.1 (hP i hi') (fun b j z => ?_)
      rcases z with z | z | z
      · have hb : 74 ≤ b ∧ b ≤ 125 := by
          rcases sOf_c hi.1 hi.2.1 with ⟨x1, x2⟩ | ⟨x1, x2⟩
          · omega
          · have := hi.2.1
            rw [x2] at z; omega
        rw [d8 b j (by omega) (by omega)]
        exact e9 b j (by omega)
      · exact gt b j z.1 z.2
      · obtain ⟨hb, z0, z1⟩ := z
        have hb' := L25_m hb
        rw [d.oth (N := rlen b) rfl (oth_slot (by have := rlen_pos hb; omega) e z0 z1)]
        exact c9 b j (by omega) (by omega)
end
section
variable {n : Nat} {i i' : Int} {M M' : Mem}
theorem CPY.one (c : CPY n i i' M M') {b : Int} (hb : b ∈ L25) (hN : rlen b = 1) : mG M' b i' = mG M b i := by
  have z := c.2.2.2.2.2 b 1 0 hb hN (by decide) (by decide)
  rw [show 1 * i' + 0 = i' by omega, show 1 * i + 0 = i by omega] at z; exact z
theorem S2.cpy (h : S2 i M) (iM : I n M) (i0 : 0 ≤ i ∧ i < 4) (c : CPY n i i' M M') : S2 i' M' := by
  obtain ⟨gt, lo, c6, cf, cr, r9⟩ := id c
  have e134 := c.one (b := 134) (by decide) rfl
  have rr := rd_Mrelations iM (a := 134) (i := i) rfl
  have g3 : mG M 134 i ≤ mG M' 134 i' := Int.le_of_eq e134.symm
  have g4 : ∀ c r : Int, 135 ≤ c → c ≤ 136 → 0 ≤ r → r < mG M 134 i → mG M' c (4 * i' + r) = mG M c (4 * i + r) := fun c r c0 c1 r0 r1 => by
    obtain e | e : c = 135 ∨ c = 136 := by omega
    · subst e; exact r9 135 4 r (by decide) rfl r0 (by omega)
    · subst e; exact r9 136 4 r (by decide) rfl r0 (by omega)
  refine ⟨h.1.go iM (c.one (b := 128) (by decide) rfl) (fun j j0 j1 => cr 10 j j0 j1) (fun j j0 j1 => r9 127 400 j (by decide) rfl j0 j1), h.2.1.go iM i0 gt (c.one (b := 138) (by decide) rfl) (cf 11 rfl) (fun d j d0 d1 j0 j1 => ?_) (fun c j c0 c1 j0 j1 => ?_) (fun j j0 j1 => r9 141 9 j (by decide) rfl j0 (by omega)) (fun c j c0 c1 j0 j1 => ?_) g3 g4, h.2.2.1.go iM i0 gt (cf 12 rfl) (r9 141 9 8 (by decide) rfl (by decide) (by decide)) (fun c j c0 c1 j0 j1 => ?_) g3 g4, h.2.2.2.1.go iM (c.one (b := 146) (by decide) rfl) (fun d j d0 d1 j0 j1 => ?_) (fun c j c0 c1 j0 j1 => ?_), h.2.2.2.2.go (fun j j0 j1 => cr 9 j j0 j1) (fun j j0 j1 => r9 151 4 j (by decide) rfl j0 j1)⟩
  · obtain e | e | e : d = 11 ∨ d = 12 ∨ d = 13 := by omega
    · subst e; exact cr 11 j j0 j1
    · subst e; exact cr 12 j j0 j1
    · subst e; exact cr 13 j j0 j1
  · obtain e | e : c = 139 ∨ c = 140 := by omega
    · subst e; exact r9 139 8 j (by decide) rfl j0 j1
    · subst e; exact r9 140 8 j (by decide) rfl j0 j1
  · obtain e | e | e | e : c = 142 ∨ c = 143 ∨ c = 144 ∨ c = 145 := by omega
    · subst e; exact r9 142 360 j (by decide) rfl j0 (by omega)
    · subst e; exact r9 143 360 j (by decide) rfl j0 (by omega)
    · subst e; exact r9 144 360 j (by decide) rfl j0 (by omega)
    · subst e; exact r9 145 360 j (by decide) rfl j0 (by omega)
  · obtain e | e | e | e : c = 142 ∨ c = 143 ∨ c = 144 ∨ c = 145 := by omega
    · subst e; exact r9 142 360 j (by decide) rfl (by omega) j1
    · subst e; exact r9 143 360 j (by decide) rfl (by omega) j1
    · subst e; exact r9 144 360 j (by decide) rfl (by omega) j1
    · subst e; exact r9 145 360 j (by decide) rfl (by omega) j1
  · obtain e | e | e : d = 14 ∨ d = 15 ∨ d = 16 := by omega
    · subst e; exact cr 14 j j0 j1
    · subst e; exact cr 15 j j0 j1
    · subst e; exact cr 16 j j0 j1
  · obtain e | e | e : c = 147 ∨ c = 148 ∨ c = 149 := by omega
    · subst e; exact r9 147 40 j (by decide) rfl j0 j1
    · subst e; exact r9 148 40 j (by decide) rfl j0 j1
    · subst e; exact r9 149 40 j (by decide) rfl j0 j1
theorem S2.vf (h : S2 i M) (iM : I n M) (i0 : 0 ≤ i ∧ i < 4) (g : ∀ b j : Int, VF n i b j → mG M' b j = mG M b j) : S2 i M' := h.fr iM i0 (fun b j z => g b j (by
  have f : ∀ (b N : Int), b ∈ L25 → rlen b = N → N * i ≤ j → j < N * i + N → VF n i b j := fun b N hb hN h0 h1 => Or.inr (Or.inr ⟨hb, by rw [hN]; exact h0, by rw [hN]; exact h1⟩)
  unfold V2 at z
  rcases z with z | z | z | z | z | z | z | z | z | z
  · exact Or.inl (by omega)
  · exact Or.inl (by omega)
  · exact Or.inr (Or.inl z)
  · obtain ⟨e, z⟩ := z
    subst e; exact f 127 400 (by decide) rfl z.1 z.2
  · obtain ⟨e, z⟩ := z
    rcases e with e | e | e | e <;> (subst e; exact f _ 1 (by decide) rfl (by omega) (by omega))
  · obtain ⟨e, z⟩ := z
    rcases e with e | e | e <;> (subst e; exact f _ 4 (by decide) rfl (by omega) (by omega))
  · obtain ⟨e, z⟩ := z
    rcases e with e | e <;> (subst e; exact f _ 8 (by decide) rfl (by omega) (by omega))
  · obtain ⟨e, z⟩ := z
    subst e; exact f 141 9 (by decide) rfl z.1 z.2
  · obtain ⟨e, z⟩ := z
    obtain e | e | e | e : b = 142 ∨ b = 143 ∨ b = 144 ∨ b = 145 := by omega
    all_goals (subst e; exact f _ 360 (by decide) rfl z.1 z.2)
  · obtain ⟨e, z⟩ := z
    obtain e | e | e : b = 147 ∨ b = 148 ∨ b = 149 := by omega
    all_goals (subst e; exact f _ 40 (by decide) rfl z.1 z.2)))
end
section
variable {M : Mem} {l : Int}
theorem j2_image (r1 : (-2147483648) ≤ l ∧ l ≤ 2147483647) (h : J2 M) : wp (mX8_image 1 l M) (fun q1 => wp (mX9_image 126 l q1.2) (fun q2 => J2 q2.2 ∧ EQ q1 q2)) :=
  J2.ord (w_mono (w_and4 (M := M) (j_image r1 h.1) (p_mono (img_gen (P := S2) r1 h.1 (fun i z => h.2 i z.1 z.2.1 z.2.2) (fun i i' M' i0 i1 s c => s.cpy h.1.1 ⟨i0, i1⟩ c) (fun i M' i0 i1 s g => s.vf h.1.1 ⟨i0, i1⟩ g)) (fun q1 z => p_mono z (fun q2 y a => y a.2)))) (fun q1 z => w_mono z (fun q2 y => ⟨y.1, fun i i0 i1 hi => y.2 i ⟨i0, i1, hi⟩⟩)))
theorem j2_again (r1 : (-2147483648) ≤ l ∧ l ≤ 2147483647) (h : J2 M) : wp (mX8_again 1 l M) (fun q1 => wp (mX9_again 126 l q1.2) (fun q2 => J2 q2.2 ∧ EQ q1 q2)) :=
  J2.ord (w_mono (w_and4 (M := M) (j_again r1 h.1) (p_mono (aga_gen (P := S2) r1 h.1 (fun i z => h.2 i z.1 z.2.1 z.2.2) (fun i i' M' i0 i1 s c => s.cpy h.1.1 ⟨i0, i1⟩ c) (fun i M' i0 i1 s g => s.vf h.1.1 ⟨i0, i1⟩ g)) (fun q1 z => p_mono z (fun q2 y a => y a.2)))) (fun q1 z => w_mono z (fun q2 y => ⟨y.1, fun i i0 i1 hi => y.2 i ⟨i0, i1, hi⟩⟩)))
end
/-- the beginning -/
theorem init_J2 {M : Mem} (r : RepL 197 169 M) : J2 M := by
  have h := init_J r
  have t := TR.of r (X := 0) (lo := 1) (hi := 169)
  have g : ∀ a j v, 1 ≤ a → a ≤ 169 → tvo 0 [] a j = some v → mG M a j = v := fun a j v a0 a1 e => t.v e ⟨a0, a1⟩
  refine ⟨h, fun i i0 i1 hi => ?_⟩
  have e0 : i = 0 := by
    rcases hi with hi | hi
    · exact hi
    · have hk : i - 1 = 0 ∨ i - 1 = 1 ∨ i - 1 = 2 ∨ i - 1 = -1 := by omega
      rcases hk with e | e | e | e
      · rw [e, g 169 0 0 (by decide) (by decide) (by decide)] at hi; cases hi
      · rw [e, g 169 1 0 (by decide) (by decide) (by decide)] at hi; cases hi
      · rw [e, g 169 2 0 (by decide) (by decide) (by decide)] at hi; cases hi
      · omega
  subst e0
  have z128 : mG M 128 0 = 0 := g _ _ _ (by decide) (by decide) (by decide)
  have z138 : mG M 138 0 = 0 := g _ _ _ (by decide) (by decide) (by decide)
  have z146 : mG M 146 0 = 0 := g _ _ _ (by decide) (by decide) (by decide)
  refine ⟨fun j j0 j1 => by rw [z128] at j1; omega, ⟨?_, fun s s0 s1 => by rw [z138] at s1; omega⟩, Or.inl ⟨?_, ?_⟩, fun k k0 k1 => by rw [z146] at k1; omega, Se.new (fun p p0 p1 => ?_)⟩
  · rw [z138]; exact g 3 11 0 (by decide) (by decide) (by decide)
  · exact g 3 12 0 (by decide) (by decide) (by decide)
  · exact g 141 8 0 (by decide) (by decide) (by decide)
  · obtain e | e | e | e : p = 0 ∨ p = 1 ∨ p = 2 ∨ p = 3 := by omega
    · subst e; rw [g 12 0 0 (by decide) (by decide) (by decide), g 151 0 0 (by decide) (by decide) (by decide)]
    · subst e; rw [g 12 1 0 (by decide) (by decide) (by decide), g 151 1 0 (by decide) (by decide) (by decide)]
    · subst e; rw [g 12 2 0 (by decide) (by decide) (by decide), g 151 2 0 (by decide) (by decide) (by decide)]
    · subst e; rw [g 12 3 0 (by decide) (by decide) (by decide), g 151 3 0 (by decide) (by decide) (by decide)]
