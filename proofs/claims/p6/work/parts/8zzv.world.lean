/-! ===== the world at hand, on both sides ===== -/
theorem lb_nat (w : Nat) {b : Nat} (hb : b < 64) : lb (w : Int) b = w.testBit b := by
  show (BitVec.ofInt 64 (w : Int)).getLsbD b = _
  rw [BitVec.ofInt_natCast, BitVec.getLsbD_ofNat, decide_eq_true hb, Bool.true_and]
theorem nat_L {w k : Nat} (hk : k ≤ 36) (h : w < 2 ^ k) : InLL (w : Int) ∧ w < 68719476736 := by
  have : 2 ^ k ≤ 2 ^ 36 := Nat.pow_le_pow_right (n := 2) (by decide) hk
  have e : (2 : Nat) ^ 36 = 68719476736 := by decide
  unfold InLL
  omega
/-- the number of the world whose facts are g's -/
def wn (g : Int → Int) (n : Nat) : Nat := bitsOf (fun b => decide (g ((n : Int) - 1 - (b : Int)) = 1)) n
theorem wn_lt (g : Int → Int) (n : Nat) : wn g n < 2 ^ n := bitsOf_lt _ _
theorem wn_b (g : Int → Int) (n b : Nat) : (wn g n).testBit b = (decide (b < n) && decide (g ((n : Int) - 1 - (b : Int)) = 1)) := bitsOf_b _ _ _
theorem wn_congr {g g' : Int → Int} {n : Nat} (h : ∀ f : Int, 0 ≤ f → f < (n : Int) → g f = g' f) : wn g n = wn g' n :=
  bitsOf_congr n (fun i hi => by rw [h ((n : Int) - 1 - (i : Int)) (by omega) (by omega)])
/-- the facts of a number -/
theorem wn_of {g : Int → Int} {n w : Nat} (hw : w < 2 ^ n) (h : ∀ f : Int, 0 ≤ f → f < (n : Int) → g f = b2i (phw (n : Int) w f)) : wn g n = w := by
  apply Nat.eq_of_testBit_eq
  intro b
  rw [wn_b]
  by_cases c : b < n
  · rw [decide_eq_true c, Bool.true_and, h ((n : Int) - 1 - (b : Int)) (by omega) (by omega)]
    unfold phw
    rw [show ((n : Int) - 1 - ((n : Int) - 1 - (b : Int))).toNat = b by omega]
    cases w.testBit b <;> decide
  · rw [decide_eq_false c, Bool.false_and, Nat.testBit_lt_two_pow (Nat.lt_of_lt_of_le hw (Nat.pow_le_pow_right (by decide) (by omega)))]
theorem phw_wn {g : Int → Int} {n : Nat} {f : Int} (h0 : 0 ≤ f) (h1 : f < (n : Int)) : phw (n : Int) (wn g n) f = decide (g f = 1) := by
  unfold phw
  have e : ((n : Int) - 1 - (((n : Int) - 1 - f).toNat : Int)) = f := by omega
  rw [wn_b, e, decide_eq_true (show ((n : Int) - 1 - f).toNat < n by omega), Bool.true_and]
/-! slots -/
def nfs (i : Int) (M : Mem) : Nat := (mG M (sOf i + 1) 7).toNat
def SW (i : Int) (M : Mem) : Prop := (mG M (sOf i) 1 = ((wn (fun f => mG M 137 (36 * i + f)) (nfs i M) : Nat) : Int) ∧ ∀ f : Int, (nfs i M : Int) ≤ f → f < 36 → mG M 137 (36 * i + f) = 0) ∧ ∀ p : Int, 0 ≤ p → p < 4 → ¬ mG M (sOf i + 9) p = 0 → mG M (sOf i + 8) p = ((wn (fun f => mG M 150 (144 * i + 36 * p + f)) (nfs i M) : Nat) : Int)
def SGx (a : Int) (M : Mem) : Prop := (0 ≤ mG M a 6 ∧ mG M a 6 ≤ 4) ∧ ∀ r : Int, 0 ≤ r → r < 4 → (0 ≤ mG M (a + 2) r ∧ mG M (a + 2) r ≤ 2) ∧ (-1 ≤ mG M (a + 3) r ∧ mG M (a + 3) r ≤ 2)
def SX (i : Int) (M : Mem) : Prop := (LO (sOf i + 1) M ∧ SGx (sOf i + 1) M ∧ nfs i M ≤ 36) ∧ SW i M
/-- a world of the class's and one of the reference's go on alike -/
theorem SW.go {i i' : Int} {M M' : Mem} (h : SW i M) (n36 : nfs i M ≤ 36) (e7 : nfs i' M' = nfs i M) (e1 : mG M' (sOf i') 1 = mG M (sOf i) 1) (g8 : ∀ p : Int, 0 ≤ p → p < 4 → mG M' (sOf i' + 8) p = mG M (sOf i + 8) p ∧ mG M' (sOf i' + 9) p = mG M (sOf i + 9) p) (g137 : ∀ f : Int, 0 ≤ f → f < 36 → mG M' 137 (36 * i' + f) = mG M 137 (36 * i + f)) (g150 : ∀ f : Int, 0 ≤ f → f < 144 → mG M' 150 (144 * i' + f) = mG M 150 (144 * i + f)) : SW i' M' := by
  obtain ⟨⟨w1, w2⟩, w3⟩ := h
  refine ⟨⟨?_, fun f f0 f1 => ?_⟩, fun p p0 p1 hp => ?_⟩
  · rw [e1, e7, w1]
    exact congrArg (fun x : Nat => (x : Int)) (wn_congr (fun f f0 f1 => (g137 f f0 (by omega)).symm))
  · rw [e7] at f0
    rw [g137 f (by omega) f1]
    exact w2 f f0 f1
  · rw [(g8 p p0 p1).2] at hp
    rw [(g8 p p0 p1).1, e7, w3 p p0 p1 hp]
    refine congrArg (fun x : Nat => (x : Int)) (wn_congr (fun f f0 f1 => ?_))
    have := g150 (36 * p + f) (by omega) (by omega)
    rw [show 144 * i' + (36 * p + f) = 144 * i' + 36 * p + f by omega, show 144 * i + (36 * p + f) = 144 * i + 36 * p + f by omega] at this
    exact this.symm
theorem SW.fr {i : Int} {M M' : Mem} (h : SW i M) (n36 : nfs i M ≤ 36) (g : ∀ b j : Int, (b = sOf i ∧ j = 1) ∨ (b = sOf i + 1 ∧ j = 7) ∨ b = sOf i + 8 ∨ b = sOf i + 9 ∨ (b = 137 ∧ 36 * i ≤ j ∧ j < 36 * i + 36) ∨ (b = 150 ∧ 144 * i ≤ j ∧ j < 144 * i + 144) → mG M' b j = mG M b j) : SW i M' := by
  refine h.go n36 ?_ (g _ _ (Or.inl ⟨rfl, rfl⟩)) (fun p _ _ => ⟨g _ _ (Or.inr (Or.inr (Or.inl rfl))), g _ _ (Or.inr (Or.inr (Or.inr (Or.inl rfl))))⟩) (fun f f0 f1 => g 137 _ (Or.inr (Or.inr (Or.inr (Or.inr (Or.inl ⟨rfl, by omega, by omega⟩)))))) (fun f f0 f1 => g 150 _ (Or.inr (Or.inr (Or.inr (Or.inr (Or.inr ⟨rfl, by omega, by omega⟩))))))
  unfold nfs
  rw [g (sOf i + 1) 7 (Or.inr (Or.inl ⟨rfl, rfl⟩))]
theorem stC_cpy {a a' : Int} {M M' : Mem} (sg : SGx a M) (g1 : ∀ j : Int, 0 ≤ j → j < 3 → mG M' (a' + 1) j = mG M (a + 1) j) (g2 : ∀ j : Int, 0 ≤ j → j < 4 → mG M' (a' + 2) j = mG M (a + 2) j ∧ mG M' (a' + 3) j = mG M (a + 3) j) : ∀ r : Nat, r ≤ 4 → stC a' M' r = stC a M r := by
  have sz : ∀ k : Int, -1 ≤ k → k ≤ 2 → szC a' M' k = szC a M k := fun k k0 k1 => by
    unfold szC
    by_cases e : k = -1
    · rw [if_pos e, if_pos e]
    · rw [if_neg e, if_neg e]; exact g1 k (by omega) (by omega)
  intro r
  induction r with
  | zero => intro _; rfl
  | succ r ih =>
    intro hr
    have h := sg.2 (r : Int) (by omega) (by omega)
    have e := g2 (r : Int) (by omega) (by omega)
    show stC a' M' r + szC a' M' (mG M' (a' + 2) r) * szC a' M' (mG M' (a' + 3) r) = stC a M r + szC a M (mG M (a + 2) r) * szC a M (mG M (a + 3) r)
    rw [ih (by omega), e.1, e.2, sz (mG M (a + 2) r) (by omega) h.1.2, sz (mG M (a + 3) r) h.2.1 h.2.2]
theorem SX.cpy {n : Nat} {i i' : Int} {M M' : Mem} (h : SX i M) (c : CPY n i i' M M') : SX i' M' := by
  obtain ⟨⟨lo, sg, n36⟩, w⟩ := h
  obtain ⟨_, lo', c6, cf, cd, c9⟩ := c
  have g1 : ∀ j : Int, 0 ≤ j → j < 3 → mG M' (sOf i' + 1 + 1) j = mG M (sOf i + 1 + 1) j := fun j j0 j1 => by
    have := cd 2 j j0 j1
    rw [show sOf i' + 2 = sOf i' + 1 + 1 by omega, show sOf i + 2 = sOf i + 1 + 1 by omega] at this
    exact this
  have g2 : ∀ j : Int, 0 ≤ j → j < 4 → mG M' (sOf i' + 1 + 2) j = mG M (sOf i + 1 + 2) j ∧ mG M' (sOf i' + 1 + 3) j = mG M (sOf i + 1 + 3) j := fun j j0 j1 => by
    have a := cd 3 j j0 j1
    have b := cd 4 j j0 j1
    rw [show sOf i' + 3 = sOf i' + 1 + 2 by omega, show sOf i + 3 = sOf i + 1 + 2 by omega] at a
    rw [show sOf i' + 4 = sOf i' + 1 + 3 by omega, show sOf i + 4 = sOf i + 1 + 3 by omega] at b
    exact ⟨a, b⟩
  have e7 : mG M' (sOf i' + 1) 7 = mG M (sOf i + 1) 7 := by
    rw [lo'.1, lo.1, c6]
    exact stC_cpy sg g1 g2 _ (by have := sg.1; omega)
  have en : nfs i' M' = nfs i M := by unfold nfs; rw [e7]
  refine ⟨⟨lo', ⟨by rw [c6]; exact sg.1, fun r r0 r1 => ?_⟩, by rw [en]; exact n36⟩, w.go n36 en (cf 1 rfl) (fun p p0 p1 => ⟨cd 8 p p0 p1, cd 9 p p0 p1⟩) (fun f f0 f1 => c9 137 36 f (by decide) rfl f0 f1) (fun f f0 f1 => c9 150 144 f (by decide) rfl f0 f1)⟩
  have := g2 r r0 r1
  rw [this.1, this.2]
  exact sg.2 r r0 r1
theorem SX.vf {n : Nat} {i : Int} {M M' : Mem} (h : SX i M) (i0 : 0 ≤ i ∧ i < 4) (g : ∀ b j : Int, VF n i b j → mG M' b j = mG M b j) : SX i M' := by
  obtain ⟨⟨lo, sg, n36⟩, w⟩ := h
  have c : ∀ b j : Int, sOf i ≤ b → b ≤ sOf i + 16 → mG M' b j = mG M b j := fun b j b0 b1 => g b j (Or.inl ⟨b0, b1⟩)
  refine ⟨⟨lo.of (fun b j b0 b1 => c b j (by omega) (by omega)), ⟨by rw [c _ _ (by omega) (by omega)]; exact sg.1, fun r r0 r1 => ?_⟩, ?_⟩, w.fr n36 (fun b j z => ?_)⟩
  · rw [c (sOf i + 1 + 2) r (by omega) (by omega), c (sOf i + 1 + 3) r (by omega) (by omega)]
    exact sg.2 r r0 r1
  · unfold nfs at n36 ⊢
    rw [c _ _ (by omega) (by omega)]; exact n36
  · rcases z with z | z | z | z | ⟨z, z0, z1⟩ | ⟨z, z0, z1⟩
    · exact c b j (by omega) (by omega)
    · exact c b j (by omega) (by omega)
    · exact c b j (by omega) (by omega)
    · exact c b j (by omega) (by omega)
    · subst z
      exact g 137 j (Or.inr (Or.inr ⟨by decide, by rw [show rlen 137 = 36 from rfl]; exact ⟨z0, z1⟩⟩))
    · subst z
      exact g 150 j (Or.inr (Or.inr ⟨by decide, by rw [show rlen 150 = 144 from rfl]; exact ⟨z0, z1⟩⟩))
/-! what stands between two calls -/
def KW (M : Mem) : Prop := ∀ i : Int, alive i M → SW i M
def J4 (M : Mem) : Prop := JB M ∧ KW M
section
variable {M M' : Mem} {n : Nat}
theorem nfs_b {i : Int} (iM : I n M) (i0 : 0 ≤ i) (i1 : i < 4) : nfs i M ≤ 36 ∧ ((nfs i M : Nat) : Int) = mG M (sOf i + 1) 7 := by
  unfold nfs
  have b : 0 ≤ mG M (sOf i + 1) 7 ∧ mG M (sOf i + 1) 7 ≤ 36 := by
    obtain e | e | e | e : i = 0 ∨ i = 1 ∨ i = 2 ∨ i = 3 := by omega
    · subst e; exact rd_Shape_7 iM (a := sOf 0 + 1) rfl
    · subst e; exact rd_Shape_7 iM (a := sOf 1 + 1) rfl
    · subst e; exact rd_Shape_7 iM (a := sOf 2 + 1) rfl
    · subst e; exact rd_Shape_7 iM (a := sOf 3 + 1) rfl
  omega
theorem KW.sx (iM : I n M) (rel : Rel M) (h : KW M) {i : Int} (a : alive i M) : SX i M := by
  have sr := rel.1 i a.1 a.2.1 a.2.2
  have sg : SG (sOf i + 1) M := I.sg iM (by
    unfold isShape
    obtain e | e | e | e : i = 0 ∨ i = 1 ∨ i = 2 ∨ i = 3 := by have := a.1; have := a.2.1; omega
    · subst e; decide
    · subst e; decide
    · subst e; decide
    · subst e; decide)
  exact ⟨⟨sr.2.2.2.1, ⟨sg.2.1, fun r _ _ => ⟨sg.2.2.2.1 r, sg.2.2.2.2 r⟩⟩, (nfs_b iM a.1 a.2.1).1⟩, h i a⟩
/-- slot 0 is told anew, the images are as they were -/
theorem KW.r0 (iM : I n M) (h : KW M) (h0 : SW 0 M') (g : ∀ b j : Int, (74 ≤ b ∧ b ≤ 125) ∨ b = 169 ∨ (b = 137 ∧ 36 ≤ j) ∨ (b = 150 ∧ 144 ≤ j) → mG M' b j = mG M b j) : KW M' := fun i ai => by
  obtain ⟨a0, a1, a2⟩ := ai
  rcases sOf_c a0 a1 with ⟨e, _⟩ | ⟨e, e2⟩
  · rw [e]; exact h0
  · rw [g 169 _ (Or.inr (Or.inl rfl))] at a2
    refine (h i ⟨a0, a1, a2⟩).fr (nfs_b iM a0 a1).1 (fun b j z => ?_)
    rw [e2] at z
    rcases z with z | z | z | z | ⟨z, z0, z1⟩ | ⟨z, z0, z1⟩
    · exact g b j (Or.inl (by omega))
    · exact g b j (Or.inl (by omega))
    · exact g b j (Or.inl (by omega))
    · exact g b j (Or.inl (by omega))
    · exact g b j (Or.inr (Or.inr (Or.inl ⟨z, by omega⟩)))
    · exact g b j (Or.inr (Or.inr (Or.inr ⟨z, by omega⟩)))
/-- the cells that the worlds are in -/
def WX8 (b j : Int) : Prop := (b = 3 ∧ j = 1) ∨ (b = 4 ∧ j = 7) ∨ (11 ≤ b ∧ b ≤ 12) ∨ (74 ≤ b ∧ b ≤ 125)
theorem KW.fr (iM : I n M) (h : KW M) (g : ∀ b j : Int, WX8 b j ∨ b = 137 ∨ b = 150 ∨ b = 169 → mG M' b j = mG M b j) : KW M' :=
  h.r0 iM ((h 0 ⟨by decide, by decide, Or.inl rfl⟩).fr (nfs_b iM (by decide) (by decide)).1 (fun b j z => g b j (by
    rw [sOf_0] at z
    rcases z with z | z | z | z | z | z
    · exact Or.inl (Or.inl z)
    · exact Or.inl (Or.inr (Or.inl z))
    · exact Or.inl (Or.inr (Or.inr (Or.inl ⟨by omega, by omega⟩)))
    · exact Or.inl (Or.inr (Or.inr (Or.inl ⟨by omega, by omega⟩)))
    · exact Or.inr (Or.inl z.1)
    · exact Or.inr (Or.inr (Or.inl z.1))))) (fun b j z => g b j (by
    rcases z with z | z | z | z
    · exact Or.inl (Or.inr (Or.inr (Or.inr z)))
    · exact Or.inr (Or.inr (Or.inr z))
    · exact Or.inr (Or.inl z.1)
    · exact Or.inr (Or.inr (Or.inl z.1))))
theorem w_p2 {x : Option (Int × Mem)} {y : Mem → Option (Int × Mem)} {A : Int × Mem → Int × Mem → Prop} (h : wp x (fun q1 => wp (y q1.2) (A q1))) : pw x (fun q1 => pw (y q1.2) (A q1)) := p_mono (p_wp h) (fun _ z => p_wp z)
/-- a call that leaves the worlds alone -/
theorem J4.un {x : Option (Int × Mem)} {y : Mem → Option (Int × Mem)} {W9 : Int → Int → Prop} {P9 : Int × Mem → Prop} (h : J4 M) (hj : wp x (fun q1 => wp (y q1.2) (fun q2 => JB q2.2))) (hx : pw x (fun q => (∃ n, I n q.2) ∧ F9 M q.2)) (gx : pw x (fun q => ∀ b j : Int, WX8 b j → mG q.2 b j = mG M b j)) (hy : ∀ n M1, WF M1 → I n M1 → wp (y M1) (fun q => I n q.2 ∧ Keep n W9 M1 q.2 ∧ P9 q)) (d9 : ∀ b j, W9 b j → (126 ≤ b ∧ b ≤ 168) ∧ ¬ b = 137 ∧ ¬ b = 150) : wp x (fun q1 => wp (y q1.2) (fun q2 => J4 q2.2)) := by
  have iM := h.1.1.1.1.1
  have wf := h.1.1.1.1.2.1
  have k : pw x (fun q1 => pw (y q1.2) (fun q2 => KW q2.2)) := by
    refine p_mono (p_and hx gx) ?_
    rintro q1 ⟨⟨⟨n, i1⟩, f9⟩, gx⟩
    have wf1 : WF q1.2 := WF_of wf (fun j => f9 _ j (by decide) (by decide)) (fun j => f9 _ j (by decide) (by decide)) (fun j => f9 _ j (by decide) (by decide)) (fun j => f9 _ j (by decide) (by decide)) (fun j => f9 _ j (by decide) (by decide))
    refine p_mono (p_wp (hy n q1.2 wf1 i1)) ?_
    rintro q2 ⟨i2, k2, -⟩
    have hn : (169 : Int) ≤ (n : Int) := by have := i1.2.2.2.2.1; omega
    have k9 : ∀ b j : Int, b ≤ 169 → (b < 126 ∨ b = 137 ∨ b = 150 ∨ b = 169) → mG q2.2 b j = mG q1.2 b j := fun b j hb hc => k2.2.2 b j (by omega) (fun z => by have := d9 b j z; omega)
    refine h.2.fr iM (fun b j z => ?_)
    rcases z with z | z
    · rw [k9 b j (by unfold WX8 at z; omega) (by unfold WX8 at z; omega)]
      exact gx b j z
    · rw [k9 b j (by omega) (by omega)]
      exact f9 b j (by omega) (by omega)
  exact w_and3 (M := M) hj k
theorem gx_of {x : Option (Int × Mem)} {W : Int → Int → Prop} {P : Int × Mem → Prop} (h : J4 M) (hx : wp x (fun q => I (mN M) q.2 ∧ Keep (mN M) W M q.2 ∧ P q)) (d : ∀ b j, W b j → ¬ WX8 b j) : pw x (fun q => ∀ b j : Int, WX8 b j → mG q.2 b j = mG M b j) :=
  p_mono (p_wp hx) (fun q y b j z => y.2.1.2.2 b j (by
    have := h.1.1.1.1.1.2.2.2.2.1
    unfold WX8 at z
    omega) (fun w => d b j w z))
end
