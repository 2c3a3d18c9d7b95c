/-! ===== the world at hand becomes another one: form, against, name ===== -/
theorem l2i_nat {w : Nat} (h : w < 4096) : l2i (w : Int) = (w : Int) := by
  unfold l2i
  rw [Int64.toInt32_ofInt]
  exact Int32.toInt_ofInt_of_le (by omega) (by omega)
section
variable {S : SH} {M : Mem} {n : Nat}
/-- the reference's world is w now -/
def TWm (n w : Nat) (M M' : Mem) : Prop := (∀ f : Int, 0 ≤ f → f < (n : Int) → mG M' 137 f = b2i (phw (n : Int) w f)) ∧ ∀ c j : Int, ¬ (c = 137 ∧ 0 ≤ j ∧ j < (n : Int)) → mG M' c j = mG M c j
theorem v_takeWorld {w : Nat} (ok : S.ok) (hn : S.nf = (n : Int)) (n12 : n ≤ 12) (k9 : K9 M) (h : RSH S M) (hw : w < 4096) : pw (mX9_takeWorld 126 (w : Int) M) (fun q => TWm n w M q.2) := by
  have loop : ∀ (fu f : Nat) (m : Mem), f ≤ n → (∀ c j : Int, ¬ (c = 137 ∧ 0 ≤ j ∧ j < (n : Int)) → mG m c j = mG M c j) → (∀ x : Nat, x < f → mG m 137 (x : Int) = b2i (phw (n : Int) w (x : Int))) → pw (mX9_takeWorld_7 fu 126 (w : Int) (n : Int) (f : Int) m) (fun q => TWm n w M q.2) := by
    intro fu
    induction fu with
    | zero => intro f m _ _ _; exact p_none
    | succ fu ih =>
      intro f m hf fr hl
      show pw (bX9_takeWorld_7 (mX9_takeWorld_7 fu) 126 (w : Int) (n : Int) (f : Int) m) _
      unfold bX9_takeWorld_7
      refine p_if (fun c => p_ret ⟨fun x x0 x1 => ?_, fr⟩) (fun c => ?_)
      · obtain ⟨y, rfl⟩ := Int.eq_ofNat_of_zero_le x0
        exact hl y (by omega)
      have k11 : mG m 126 11 = 137 := (fr 126 11 (by omega)).trans k9.c11
      have go : ∀ v : Int, v = b2i (phw (n : Int) w (f : Int)) → pw (mX9_takeWorld_34 (mX9_takeWorld_7 fu) 126 (w : Int) (n : Int) (f : Int) 137 (f : Int) v m) (fun q => TWm n w M q.2) := fun v hv => by
        unfold mX9_takeWorld_34
        refine p_aSZ (fun m2 h2 => ?_)
        rw [wI_s (p := f) (by omega)]
        refine ih (f + 1) m2 (by omega) (fun c j x => (st_ne h2 (fun y => x ⟨y.1, by omega, by omega⟩)).trans (fr c j x)) (fun x hx => ?_)
        by_cases e : x = f
        · rw [e, st_eq h2, hv]
        · rw [st_ne h2 (fun y => e (by have := y.2; omega))]
          exact hl x (by omega)
      have ph : phw (n : Int) w (f : Int) = w.testBit (n - 1 - f) := by
        unfold phw
        rw [show ((n : Int) - 1 - (f : Int)).toNat = n - 1 - f by omega]
      refine p_gFc (ji := 11) rfl k11 ?_
      rw [wI_id (x := (n : Int) - 1) (by omega) (by omega), wI_id (x := (n : Int) - 1 - (f : Int)) (by omega) (by omega), show (n : Int) - 1 - (f : Int) = ((n - 1 - f : Nat) : Int) by omega]
      refine p_if (fun c2 => go 0 ?_) (fun c2 => go 1 ?_)
      · rw [ph, (ibit (by omega) (by omega)).mp c2]; rfl
      · have : w.testBit (n - 1 - f) = true := by
          cases e : w.testBit (n - 1 - f) with
          | true => rfl
          | false => exact absurd ((ibit (by omega) (by omega)).mpr e) c2
        rw [ph, this]; rfl
  unfold mX9_takeWorld
  refine p_gK (p_call (v_manyFacts ok k9 h) (fun v m y => ?_))
  obtain ⟨y1, y2⟩ := y
  replace y1 : m = M := y1
  replace y2 : v = S.nf := y2
  subst y1
  rw [hn] at y2
  subst y2
  exact loop FU 0 m (by omega) (fun _ _ _ => rfl) (fun x hx => absurd hx (by omega))
/-- the number of the reference's world -/
theorem v_number (ok : S.ok) (hn : S.nf = (n : Int)) (n12 : n ≤ 12) (k9 : K9 M) (h : RSH S M) (hb : ∀ f : Int, 0 ≤ mG M 137 f ∧ mG M 137 f ≤ 1) : pw (mX9_numberOfWorld 126 M) (fun q => q.2 = M ∧ q.1 = ((wn (mG M 137) n : Nat) : Int)) := by
  have loop : ∀ (fu f : Nat), f ≤ n → pw (mX9_numberOfWorld_9 fu 126 (n : Int) ((wn (mG M 137) f : Nat) : Int) (f : Int) M) (fun q => q.2 = M ∧ q.1 = ((wn (mG M 137) n : Nat) : Int)) := by
    intro fu
    induction fu with
    | zero => intro f _; exact p_none
    | succ fu ih =>
      intro f hf
      show pw (bX9_numberOfWorld_9 (mX9_numberOfWorld_9 fu) 126 (n : Int) _ (f : Int) M) _
      unfold bX9_numberOfWorld_9
      refine p_if (fun c => p_ret ⟨rfl, ?_⟩) (fun c => ?_)
      · show ((wn (mG M 137) f : Nat) : Int) = _
        rw [show f = n by omega]
      have lt := wn_lt (mG M 137) f
      have p12 : 2 ^ f ≤ 2 ^ 12 := Nat.pow_le_pow_right (n := 2) (by decide) (by omega)
      have r := hb (f : Int)
      have s := wn_s (mG M 137) f
      refine p_gFc (ji := 11) rfl k9.c11 (p_aGc (r := mG M 137 (f : Int)) rfl (p_if (fun c2 => ?_) (fun c2 => ?_)))
      · rw [if_neg (by omega)] at s
        unfold mX9_numberOfWorld_31
        rw [wI_s (p := f) (by omega), wI_id (x := 2 * ((wn (mG M 137) f : Nat) : Int)) (by omega) (by omega), wI_id (by omega) (by omega), show 2 * ((wn (mG M 137) f : Nat) : Int) + 0 = ((wn (mG M 137) (f + 1) : Nat) : Int) by omega]
        exact ih (f + 1) (by omega)
      · rw [if_pos (by omega)] at s
        unfold mX9_numberOfWorld_31
        rw [wI_s (p := f) (by omega), wI_id (x := 2 * ((wn (mG M 137) f : Nat) : Int)) (by omega) (by omega), wI_id (by omega) (by omega), show 2 * ((wn (mG M 137) f : Nat) : Int) + 1 = ((wn (mG M 137) (f + 1) : Nat) : Int) by omega]
        exact ih (f + 1) (by omega)
  unfold mX9_numberOfWorld
  refine p_gK (p_call (v_manyFacts ok k9 h) (fun v m y => ?_))
  obtain ⟨y1, y2⟩ := y
  replace y1 : m = M := y1
  replace y2 : v = S.nf := y2
  subst y1
  rw [hn] at y2
  subst y2
  exact loop FU 0 (Nat.zero_le _)
end
section
variable {M M1 M2 : Mem} {n n0 : Nat}
/-- the cells of worlds that a call leaves alone on the class's side -/
def FW8 (M M1 : Mem) : Prop := ∀ b j : Int, ¬ (b = 3 ∧ j = 1) → WX8 b j ∨ (126 ≤ b ∧ b ≤ 169) → mG M1 b j = mG M b j
def FW9 (M1 M2 : Mem) : Prop := ∀ b j : Int, WX8 b j ∨ b = 137 ∨ b = 150 ∨ b = 169 → ¬ b = 137 → mG M2 b j = mG M1 b j
theorem fw8_of {n : Nat} {W : Int → Int → Prop} (iM : I n M) (k : Keep n W M M1) (d : ∀ b j, W b j → b ≤ 125 ∧ ((b = 3 ∧ j = 1) ∨ ¬ WX8 b j)) : FW8 M M1 := fun b j x z => k.2.2 b j (by
  have := iM.2.2.2.2.1
  unfold WX8 at z
  omega) (fun w => by
  have := d b j w
  rcases z with z | z
  · rcases this.2 with y | y
    · exact x y
    · exact y z
  · omega)
theorem fw9_of {n : Nat} {W : Int → Int → Prop} (iM : I n M1) (k : Keep n W M1 M2) (d : ∀ b j, W b j → 126 ≤ b ∧ ¬ b = 150 ∧ ¬ b = 169) : FW9 M1 M2 := fun b j z x => k.2.2 b j (by
  have := iM.2.2.2.2.1
  unfold WX8 at z
  omega) (fun w => by
  have := d b j w
  unfold WX8 at z
  omega)
/-- both sides' world is w now -/
theorem KW.upd {w : Nat} (iM : I n0 M) (kw : KW M) (hk : nfs 0 M = n) (w0 : W0 n M) (hw : w < 2 ^ n) (f8 : FW8 M M1) (f9 : FW9 M1 M2) (e1 : mG M1 3 1 = (w : Int)) (e2 : ∀ f : Int, 0 ≤ f → f < (n : Int) → mG M2 137 f = b2i (phw (n : Int) w f)) (e3 : ∀ f : Int, ¬ (0 ≤ f ∧ f < (n : Int)) → mG M2 137 f = mG M1 137 f) : KW M2 := by
  have g : ∀ b j : Int, ¬ (b = 3 ∧ j = 1) → ¬ b = 137 → WX8 b j ∨ b = 150 ∨ b = 169 → mG M2 b j = mG M b j := fun b j x y z => (f9 b j (by
    rcases z with z | z | z
    · exact Or.inl z
    · exact Or.inr (Or.inr (Or.inl z))
    · exact Or.inr (Or.inr (Or.inr z))) y).trans (f8 b j x (by unfold WX8 at z ⊢; omega))
  have n36 := (nfs_0 iM).1
  refine kw.r0 iM (W0.sw ?_) (fun b j z => ?_)
  · rw [nfs_e (g 4 7 (by decide) (by decide) (by unfold WX8; omega)), hk]
    refine ⟨⟨?_, fun f f0 f1 => ?_⟩, fun p p0 p1 hp => ?_⟩
    · rw [f9 3 1 (by unfold WX8; omega) (by decide), e1, wn_of hw e2]
    · rw [e3 f (by omega), f8 137 f (by omega) (by unfold WX8; omega)]
      exact w0.1.2 f f0 f1
    · rw [g 12 p (by omega) (by decide) (by unfold WX8; omega)] at hp
      rw [g 11 p (by omega) (by decide) (by unfold WX8; omega), w0.2 p p0 p1 hp]
      exact congrArg (fun x : Nat => (x : Int)) (wn_congr (fun f _ _ => (g 150 _ (by omega) (by decide) (by omega)).symm))
  · by_cases e : b = 137
    · rw [e, e3 j (by omega)]
      exact f8 137 j (by omega) (by unfold WX8; omega)
    · exact g b j (by omega) e (by unfold WX8; omega)
/-- the world stays on both sides -/
theorem KW.same (iM : I n0 M) (kw : KW M) (f8 : FW8 M M1) (f9 : FW9 M1 M2) (e1 : mG M1 3 1 = mG M 3 1) (e2 : ∀ f : Int, mG M2 137 f = mG M1 137 f) : KW M2 := by
  refine kw.fr iM (fun b j z => ?_)
  by_cases e : b = 137
  · rw [e, e2 j]
    exact f8 137 j (by omega) (by unfold WX8; omega)
  · rw [f9 b j z e]
    by_cases e3 : b = 3 ∧ j = 1
    · rw [e3.1, e3.2]; exact e1
    · exact f8 b j e3 (by unfold WX8 at z ⊢; omega)
/-- what a call that looks for a world and takes it does, on either side -/
def CF (n : Nat) (G : Nat → Bool) (k : Int) (M : Mem) (q : Int × Mem) : Prop := (12 < n ∧ q.1 = 0 ∧ mG q.2 3 1 = mG M 3 1) ∨ (n ≤ 12 ∧ ∃ r : Int, NTH G (2 ^ n) k r ∧ ((r = -1 ∧ q.1 = 0 ∧ mG q.2 3 1 = mG M 3 1) ∨ (¬ r = -1 ∧ q.1 = 1 ∧ mG q.2 3 1 = r)))
def RF (n : Nat) (G : Nat → Bool) (k : Int) (M : Mem) (q : Int × Mem) : Prop := (12 < n ∧ q.1 = 0 ∧ ∀ f : Int, mG q.2 137 f = mG M 137 f) ∨ (n ≤ 12 ∧ ∃ r : Int, NTH G (2 ^ n) k r ∧ ((r = -1 ∧ q.1 = 0 ∧ ∀ f : Int, mG q.2 137 f = mG M 137 f) ∨ (∃ w : Nat, r = (w : Int) ∧ w < 2 ^ n ∧ q.1 = 1 ∧ (∀ f : Int, 0 ≤ f → f < (n : Int) → mG q.2 137 f = b2i (phw (n : Int) w f)) ∧ ∀ f : Int, ¬ (0 ≤ f ∧ f < (n : Int)) → mG q.2 137 f = mG M 137 f)))
theorem KW.form {G G' : Nat → Bool} {k : Int} {q1 q2 : Int × Mem} (iM : I n0 M) (kw : KW M) (hk : nfs 0 M = n) (w0 : W0 n M) (hG : ∀ w, w < 2 ^ n → G w = G' w) (f8 : FW8 M q1.2) (f9 : FW9 q1.2 q2.2) (c : CF n G k M q1) (r : RF n G' k q1.2 q2) : KW q2.2 ∧ EQ q1 q2 := by
  rcases c with ⟨c1, c2, c3⟩ | ⟨c1, x, c2, c3⟩
  · rcases r with ⟨_, r2, r3⟩ | ⟨r1, _⟩
    · exact ⟨kw.same iM f8 f9 c3 r3, c2.trans r2.symm⟩
    · omega
  · rcases r with ⟨r1, _⟩ | ⟨r1, y, r2, r3⟩
    · omega
    have e := c2.uniq hG r2
    rcases c3 with ⟨a1, a2, a3⟩ | ⟨a1, a2, a3⟩
    · rcases r3 with ⟨_, b2, b3⟩ | ⟨w, b1, _⟩
      · exact ⟨kw.same iM f8 f9 a3 b3, a2.trans b2.symm⟩
      · omega
    · rcases r3 with ⟨b1, _⟩ | ⟨w, b1, b2, b3, b4, b5⟩
      · omega
      · exact ⟨kw.upd iM hk w0 b2 f8 f9 (by rw [a3, e, b1]) b4 b5, a2.trans b3.symm⟩
/-- the class takes a world -/
theorem q_becomes {v : Int} {m : Mem} (h1 : mG m 1 1 = 3) : pw (mX8_becomes 1 v m) (fun q => (v = -1 ∧ q.1 = 0 ∧ mG q.2 3 1 = mG m 3 1) ∨ (¬ v = -1 ∧ q.1 = 1 ∧ mG q.2 3 1 = v)) := by
  unfold mX8_becomes
  exact p_if (fun c => p_ret (Or.inl ⟨c, rfl, rfl⟩)) (fun c => p_gFc (ji := 1) rfl h1 (p_pF (ji := 1) rfl (fun m2 h2 => p_ret (Or.inr ⟨c, rfl, st_eq h2⟩))))
end
