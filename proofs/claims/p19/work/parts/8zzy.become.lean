section
/-! ===== the world at hand becomes another one: form, against, name ===== -/
theorem l2i_nat {w : Nat} (h : w < 4096) : l2i (w : Int) = (w : Int) := by
  unfold l2i
  rw [Int64.toInt32_ofInt]
  exact Int32.toInt_ofInt_of_le (by omega) (by omega)
section
variable {S : SH} {M : Mem} {n : Nat}
/-- the reference's world is w now -/
def TWm (n w : Nat) (M M' : Mem) : Prop := (∀ f : Int, 0 ≤ f → f < (n : Int) → mG M' 137 f = b2i (phw (n : Int) w f)) ∧ ∀ c j : Int, ¬ (c = 137 ∧ 0 ≤ j ∧ j < (n : Int)) → mG M' c j = mG M c j
theorem v_takeWorld {w : Nat} (ok : S.ok) (hn : S.nf = (n : Int)) (n12 : n ≤ 12) (k9 : K9 M) (h : RSH S M) (hw : w < 4096) : pw (mX9_takeWorld 126 (w : Int) M) (fun q => TWm n w M q.2) := by
  have loop : ∀ (fu f : Nat) (m : Mem), f ≤ n → (∀ c j : Int, ¬ (c = 137 ∧ 0 ≤ j ∧ j < (n : Int)) → mG m c j = mG M c j) → (∀ x : Nat, x < f → mG m 137 (x : Int) = b2i (phw (n : Int) w (x : Int))) → pw (mX9_takeWorld_7 fu 126 (w : Int) (n : Int) (f : Int) m) (fun q => TWm n w M q.2) := by
    intro fu
    induction fu with
    | zero => intro f m _ _ _; exact p_none
    | succ fu ih =>
      intro f m hf fr hl
      show pw (bX9_takeWorld_7 (mX9_takeWorld_7 fu) 126 (w : Int) (n : Int) (f : Int) m) _
      unfold bX9_takeWorld_7
      refine p_if (fun c => p_ret ⟨fun x x0 x1 => ?_, fr⟩) (fun c => ?_)
      · obtain ⟨y, rfl⟩ := Int.eq_ofNat_of_zero_le x0
        exact hl y (by omega)
      have k11 : mG m 126 11 = 137 := (fr 126 11 (by omega)).trans k9.c11
      have go : ∀ v : Int, v = b2i (phw (n : Int) w (f : Int)) → pw (mX9_takeWorld_34 (mX9_takeWorld_7 fu) 126 (w : Int) (n : Int) (f : Int) 137 (f : Int) v m) (fun q => TWm n w M q.2) := fun v hv => by
        unfold mX9_takeWorld_34
        refine p_aSZ (fun m2 h2 => ?_)
        rw [wI_s (p := f) (by omega)]
        refine ih (f + 1) m2 (by omega) (fun c j x => (st_ne h2 (fun y => x ⟨y.1, by omega, by omega⟩)).trans (fr c j x)) (fun x hx => ?_)
        by_cases e : x = f
        · rw [e, st_eq h2, hv]
        · rw [st_ne h2 (fun y => e (by have := y.2; omega))]
          exact hl x (by omega)
      have ph : phw (n : Int) w (f : Int) = w.testBit (n - 1 - f) := by
        unfold phw
        rw [show ((n : Int) - 1 - (f : Int)).toNat = n - 1 - f by omega]
      refine p_gFc (ji := 11) rfl k11 ?_
      rw [wI_id (x := (n : Int) - 1) (by omega) (by omega), wI_id (x := (n : Int) - 1 - (f : Int)) (by omega) (by omega), show (n : Int) - 1 - (f : Int) = ((n - 1 - f : Nat) : Int) by omega]
      refine p_if (fun c2 => go 0 ?_) (fun c2 => go 1 ?_)
      · rw [ph, (ibit (by omega) (by omega)).mp c2]; rfl
      · have : w.testBit (n - 1 - f) = true := by
          cases e : w.testBit (n - 1 - f) with
          | true => rfl
          | false => exact absurd ((ibit (by omega) (by omega)).mpr e) c2
        rw [ph, this]; rfl
  unfold mX9_takeWorld
  refine p_gK (p_call (v_manyFacts ok k9 h) (fun v m y => ?_))
  obtain ⟨y1, y2⟩ := y
  replace y1 : m = M := y1
  replace y2 : v = S.nf := y2
  subst y1
  rw [hn] at y2
  subst y2
  exact loop FU 0 m (by omega) (fun _ _ _ => rfl) (fun x hx => absurd hx (by omega))
/-- the number of the reference's world -/
theorem v_number (ok : S.ok) (hn : S.nf = (n : Int)) (n12 : n ≤ 12) (k9 : K9 M) (h : RSH S M) (hb : ∀ f : Int, 0 ≤ mG M 137 f ∧ mG M 137 f ≤ 1) : pw (mX9_numberOfWorld 126 M) (fun q => q.2 = M ∧ q.1 = ((wn (mG M 137) n : Nat) : Int)) := by
  have loop : ∀ (fu f : Nat), f ≤ n → pw (mX9_numberOfWorld_9 fu 126 (n : Int) ((wn (mG M 137) f : Nat) : Int) (f : Int) M) (fun q => q.2 = M ∧ q.1 = ((wn (mG M 137) n : Nat) : Int)) := by
    intro fu
    induction fu with
    | zero => intro f _; exact p_none
    | succ fu ih =>
      intro f hf
      show pw (bX9_numberOfWorld_9 (mX9_numberOfWorld_9 fu) 126 (n : Int) _ (f : Int) M) _
      unfold bX9_numberOfWorld_9
      refine p_if (fun c => p_ret ⟨rfl, ?_⟩) (fun c => ?_)
      · show ((wn (mG M 137) f : Nat) : Int) = _
        rw [show f = n by omega]
      have lt := wn_lt (mG M 137) f
      have p12 : 2 ^ f ≤ 2 ^ 12 := Nat.pow_le_pow_right (n := 2) (by decide) (by omega)
      have r := hb (f : Int)
      have s := wn_s (mG M 137) f
      refine p_gFc (ji := 11) rfl k9.c11 (p_aGc (r := mG M 137 (f : Int)) rfl (p_if (fun c2 => ?_) (fun c2 => ?_)))
      · rw [if_neg (by omega)] at s
        unfold mX9_numberOfWorld_31
        rw [wI_s (p := f) (by omega), wI_id (x := 2 * ((wn (mG M 137) f : Nat) : Int)) (by omega) (by omega), wI_id (by omega) (by omega), show 2 * ((wn (mG M 137) f : Nat) : Int) + 0 = ((wn (mG M 137) (f + 1) : Nat) : Int) by omega]
        exact ih (f + 1) (by omega)
      · rw [if_pos (by omega)] at s
        unfold mX9_numberOfWorld_31
        rw [wI_s (p := f) (by omega), wI_id (x := 2 * ((wn (mG M 137) f : Nat) : Int)) (by omega) (by omega), wI_id (by omega) (by omega), show 2 * ((wn (mG M 137) f : Nat) : Int) + 1 = ((wn (mG M 137) (f + 1) : Nat) : Int) by omega]
        exact ih (f + 1) (by omega)
  unfold mX9_numberOfWorld
  refine p_gK (p_call (v_manyFacts ok k9 h) (fun v m y => ?_))
  obtain ⟨y1, y2⟩ := y
  replace y1 : m = M := y1
  replace y2 : v = S.nf := y2
  subst y1
  rw [hn] at y2
  subst y2
  exact loop FU 0 (Nat.zero_le _)
end
section
variable {M M1 M2 : Mem} {n n0 : Nat}
/-- the cells of worlds that a call leaves alone on the class's side -/
def FW8 (M M1 : Mem) : Prop := ∀ b j : Int, ¬ (b = 3 ∧ j = 1) → WX8 b j ∨ (126 ≤ b ∧ b ≤ 169) → mG M1 b j = mG M b j
def FW9 (M1 M2 : Mem) : Prop := ∀ b j : Int, WX8 b j ∨ b = 137 ∨ b = 150 ∨ b = 169 → ¬ b = 137 → mG M2 b j = mG M1 b j
theorem fw8_of {n : Nat} {W : Int → Int → Prop} (iM : I n M) (k : Keep n W M M1) (d : ∀ b j, W b j → b ≤ 125 ∧ ((b = 3 ∧ j = 1) ∨ ¬ WX8 b j)) : FW8 M M1 := fun b j x z => k.2.2 b j (by
  have := iM.2.2.2.2.1
  unfold WX8 at z
  omega) (fun w => by
  have := d b j w
  rcases z with z | z
  · rcases this.2 with y | y
    · exact x y
    · exact y z
  · omega)
theorem fw9_of {n : Nat} {W : Int → Int → Prop} (iM : I n M1) (k : Keep n W M1 M2) (d : ∀ b j, W b j → 126 ≤ b ∧ ¬ b = 150 ∧ ¬ b = 169) : FW9 M1 M2 := fun b j z x => k.2.2 b j (by
  have := iM.2.2.2.2.1
  unfold WX8 at z
  omega) (fun w => by
  have := d b j w
  unfold WX8 at z
  omega)
/-- both sides' world is w now -/
theorem KW.upd {w : Nat} (iM : I n0 M) (kw : KW M) (hk : nfs 0 M = n) (w0 : W0 n M) (hw : w < 2 ^ n) (f8 : FW8 M M1) (f9 : FW9 M1 M2) (e1 : mG M1 3 1 = (w : Int)) (e2 : ∀ f : Int, 0 ≤ f → f < (n : Int) → mG M2 137 f = b2i (phw (n : Int) w f)) (e3 : ∀ f : Int, ¬ (0 ≤ f ∧ f < (n : Int)) → mG M2 137 f = mG M1 137 f) : KW M2 := by
  have g : ∀ b j : Int, ¬ (b = 3 ∧ j = 1) → ¬ b = 137 → WX8 b j ∨ b = 150 ∨ b = 169 → mG M2 b j = mG M b j := fun b j x y z => (f9 b j (by
    rcases z with z | z | z
    · exact Or.inl z
    · exact Or.inr (Or.inr (Or.inl z))
    · exact Or.inr (Or.inr (Or.inr z))) y).trans (f8 b j x (by unfold WX8 at z ⊢; omega))
  have n36 := (nfs_0 iM).1
  refine kw.r0 iM (W0.sw ?_) (fun b j z => ?_)
  · rw [nfs_e (g 4 7 (by decide) (by decide) (by unfold WX8; omega)), hk]
    refine ⟨⟨?_, fun f f0 f1 => ?_⟩, fun p p0 p1 hp => ?_⟩
    · rw [f9 3 1 (by unfold WX8; omega) (by decide), e1, wn_of hw e2]
    · rw [e3 f (by omega), f8 137 f (by omega) (by unfold WX8; omega)]
      exact w0.1.2 f f0 f1
    · rw [g 12 p (by omega) (by decide) (by unfold WX8; omega)] at hp
      rw [g 11 p (by omega) (by decide) (by unfold WX8; omega), w0.2 p p0 p1 hp]
      exact congrArg (fun x : Nat => (x : Int)) (wn_congr (fun f _ _ => (g 150 _ (by omega) (by decide) (by omega)).symm))
  · by_cases e : b = 137
    · rw [e, e3 j (by omega)]
      exact f8 137 j (by omega) (by unfold WX8; omega)
    · exact g b j (by omega) e (by unfold WX8; omega)
/-- the world stays on both sides -/
theorem KW.same (iM : I n0 M) (kw : KW M) (f8 : FW8 M M1) (f9 : FW9 M1 M2) (e1 : mG M1 3 1 = mG M 3 1) (e2 : ∀ f : Int, mG M2 137 f = mG M1 137 f) : KW M2 := by
  refine kw.fr iM (fun b j z => ?_)
  by_cases e : b = 137
  · rw [e, e2 j]
    exact f8 137 j (by omega) (by unfold WX8; omega)
  · rw [f9 b j z e]
    by_cases e3 : b = 3 ∧ j = 1
    · rw [e3.1, e3.2]; exact e1
    · exact f8 b j e3 (by unfold WX8 at z ⊢; omega)
/-- what a call that looks for a world and takes it does, on either side -/
def CF (n : Nat) (G : Nat → Bool) (k : Int) (M : Mem) (q : Int × Mem) : Prop := (12 < n ∧ q.1 = 0 ∧ mG q.2 3 1 = mG M 3 1) ∨ (n ≤ 12 ∧ ∃ r : Int, NTH G (2 ^ n) k r ∧ ((r = -1 ∧ q.1 = 0 ∧ mG q.2 3 1 = mG M 3 1) ∨ (¬ r = -1 ∧ q.1 = 1 ∧ mG q.2 3 1 = r)))
def RF (n : Nat) (G : Nat → Bool) (k : Int) (M : Mem) (q : Int × Mem) : Prop := (12 < n ∧ q.1 = 0 ∧ ∀ f : Int, mG q.2 137 f = mG M 137 f) ∨ (n ≤ 12 ∧ ∃ r : Int, NTH G (2 ^ n) k r ∧ ((r = -1 ∧ q.1 = 0 ∧ ∀ f : Int, mG q.2 137 f = mG M 137 f) ∨ (∃ w : Nat, r = (w : Int) ∧ w < 2 ^ n ∧ q.1 = 1 ∧ (∀ f : Int, 0 ≤ f → f < (n : Int) → mG q.2 137 f = b2i (phw (n : Int) w f)) ∧ ∀ f : Int, ¬ (0 ≤ f ∧ f < (n : Int)) → mG q.2 137 f = mG M 137 f)))
theorem KW.form {G G' : Nat → Bool} {k : Int} {q1 q2 : Int × Mem} (iM : I n0 M) (kw : KW M) (hk : nfs 0 M = n) (w0 : W0 n M) (hG : ∀ w, w < 2 ^ n → G w = G' w) (f8 : FW8 M q1.2) (f9 : FW9 q1.2 q2.2) (c : CF n G k M q1) (r : RF n G' k q1.2 q2) : KW q2.2 ∧ EQ q1 q2 := by
  rcases c with ⟨c1, c2, c3⟩ | ⟨c1, x, c2, c3⟩
  · rcases r with ⟨_, r2, r3⟩ | ⟨r1, _⟩
    · exact ⟨kw.same iM f8 f9 c3 r3, c2.trans r2.symm⟩
    · omega
  · rcases r with ⟨r1, _⟩ | ⟨r1, y, r2, r3⟩
    · omega
    have e := c2.uniq hG r2
    rcases c3 with ⟨a1, a2, a3⟩ | ⟨a1, a2, a3⟩
    · rcases r3 with ⟨_, b2, b3⟩ | ⟨w, b1, _⟩
      · exact ⟨kw.same iM f8 f9 a3 b3, a2.trans b2.symm⟩
      · omega
    · rcases r3 with ⟨b1, _⟩ | ⟨w, b1, b2, b3, b4, b5⟩
      · omega
      · exact ⟨kw.upd iM hk w0 b2 f8 f9 (by rw [a3, e, b1]) b4 b5, a2.trans b3.symm⟩
/-- the class takes a world -/
theorem q_becomes {v : Int} {m : Mem} (h1 : mG m 1 1 = 3) : pw (mX8_becomes 1 v m) (fun q => (v = -1 ∧ q.1 = 0 ∧ mG q.2 3 1 = mG m 3 1) ∨ (¬ v = -1 ∧ q.1 = 1 ∧ mG q.2 3 1 = v)) := by
  unfold mX8_becomes
  exact p_if (fun c => p_ret (Or.inl ⟨c, rfl, rfl⟩)) (fun c => p_gFc (ji := 1) rfl h1 (p_pF (ji := 1) rfl (fun m2 h2 => p_ret (Or.inr ⟨c, rfl, st_eq h2⟩))))
end
end
section
/-! ===== form, against, name: both sides ===== -/
theorem ctn_z0 {f : Nat → Bool} : ∀ k : Nat, (∀ x, x < k → f x = false) → ctn f k = 0 := by
  intro k
  induction k with
  | zero => intro _; rfl
  | succ k ih =>
    intro h
    rw [ctn_s, ih (fun x hx => h x (by omega)), h k (by omega)]; rfl
section
variable {M : Mem} {n : Nat}
theorem q_form8 {P : Nat → List Row} {vw : Nat} {F : Int → Int} {k : Int} (r1 : (-2147483648) ≤ k ∧ k ≤ 2147483647) (ok : (shp M).ok) (hn : (shp M).nf = (n : Int)) (k2 : K2 M) (sh : SHC (shp M) 4 M) (cb : CB (shp M) M) (h1 : mG M 1 0 = 2 ∧ mG M 1 1 = 3) (hl : pw (mX4_lookUp 2 M) (fun q => (12 < n ∧ q.1 = 0 ∧ q.2 = M) ∨ (n ≤ 12 ∧ q.1 = 1 ∧ LK (shp M) P vw F M q.2))) : pw (mX8_form 1 k M) (CF n (fun w => WDw (shp M) P vw F w && isF (shp M) n w) k M) := by
  unfold mX8_form
  refine p_gFc (ji := 0) rfl h1.1 (p_gK (p_call (P := fun q => (mG q.2 1 1 = 3 ∧ mG q.2 3 1 = mG M 3 1) ∧ ((12 < n ∧ q.1 = -1) ∨ (n ≤ 12 ∧ NTH (fun w => WDw (shp M) P vw F w && isF (shp M) n w) (2 ^ n) k q.1))) ?_ (fun v m y => ?_)))
  · unfold mX4_nthForm
    refine p_gK (p_call hl (fun v m y => ?_))
    rcases y with ⟨a, b, c⟩ | ⟨a, b, c⟩
    · replace c : m = M := c
      subst c
      exact p_it1 b (p_ret ⟨⟨h1.2, rfl⟩, Or.inl ⟨a, rfl⟩⟩)
    replace b : v = 1 := b
    have lk : LK (shp M) P vw F M m := c
    have fl := lk.2.2.2.2
    refine p_it0 (show ¬ v = 0 by omega) (p_gK (p_call (q_picked ok hn a k2 sh cb lk) (fun _ m2 y => ?_)))
    obtain ⟨w36, cb2, g2⟩ := y
    replace w36 : WS 36 (n : Int) (fun w => WDw (shp M) P vw F w && isF (shp M) n w) m2 := w36
    replace g2 : ∀ c j : Int, ¬ (24 ≤ c ∧ c ≤ 30) → ¬ c = 37 → ¬ (c = 36 ∧ (j = 1 ∨ j = 2)) → mG m2 c j = mG m c j := g2
    have c27 : mG m2 2 7 = 36 := (g2 2 7 (by decide) (by decide) (by decide)).trans (k2.fl fl).c2_7
    refine p_gFc (ji := 7) rfl c27 (p_gK (p_call (q_nth (l := 36) r1 ⟨by omega, by omega⟩ w36) (fun r m3 y => p_ret ?_)))
    obtain ⟨y1, y2⟩ := y
    replace y1 : m3 = m2 := y1
    replace y2 : NTH (fun w => WDw (shp M) P vw F w && isF (shp M) n w) (2 ^ (n : Int).toNat) k r := y2
    rw [Int.toNat_natCast] at y2
    subst y1
    exact ⟨⟨(g2 1 1 (by decide) (by decide) (by decide)).trans ((fl 1 1 (nq_0 (by omega))).trans h1.2), (g2 3 1 (by decide) (by decide) (by decide)).trans (fl 3 1 (nq_0 (by omega)))⟩, Or.inr ⟨a, y2⟩⟩
  · obtain ⟨⟨y1, y2⟩, y3⟩ := y
    replace y1 : mG m 1 1 = 3 := y1
    replace y2 : mG m 3 1 = mG M 3 1 := y2
    refine p_gK (p_call (q_becomes y1) (fun u m2 z => p_zR (fun _ => p_ret ?_)))
    rcases y3 with ⟨a, b⟩ | ⟨a, b⟩
    · rcases z with ⟨_, z2, z3⟩ | ⟨z1, _⟩
      · exact Or.inl ⟨a, z2, z3.trans y2⟩
      · exact absurd b z1
    · rcases z with ⟨z1, z2, z3⟩ | ⟨z1, z2, z3⟩
      · exact Or.inr ⟨a, v, b, Or.inl ⟨z1, z2, z3.trans y2⟩⟩
      · exact Or.inr ⟨a, v, b, Or.inr ⟨z1, z2, z3⟩⟩
theorem q_against8 {P : Nat → List Row} {ps : List Row} {vw : Nat} {F : Int → Int} {n0 : Nat} (ok : (shp M).ok) (hn : (shp M).nf = (n : Int)) (iM : I n0 M) (sh : SHC (shp M) 4 M) (cb : CB (shp M) M) (h1 : mG M 1 0 = 2 ∧ mG M 1 1 = 3) (g0 : ¬ mG M 3 12 = 0 ∧ 169 < mG M 3 12) (tt : TT ps (mG M 3 12) M) (hty : ty (shp M).nr (shp M).k1 (shp M).k2 [(0, 255)] ps) (hl : pw (mX4_lookUp 2 M) (fun q => (12 < n ∧ q.1 = 0 ∧ q.2 = M) ∨ (n ≤ 12 ∧ q.1 = 1 ∧ LK (shp M) P vw F M q.2))) : pw (mX8_against 1 M) (CF n (fun w => (WDw (shp M) P vw F w && isF (shp M) n w) && !TMw (shp M) ps w) 0 M) := by
  unfold mX8_against
  refine p_gFc (ji := 0) rfl h1.1 (p_gK (p_call (q_gagainst ok hn iM sh cb g0 tt hty hl) (fun v m y => ?_)))
  obtain ⟨⟨_, fg⟩, y3⟩ := y
  replace fg : FG M m := fg
  have y1 : mG m 1 1 = 3 := (fg 1 1 (by decide)).trans h1.2
  have y2 : mG m 3 1 = mG M 3 1 := fg 3 1 (by decide)
  refine p_gK (p_call (q_becomes y1) (fun u m2 z => p_zR (fun _ => p_ret ?_)))
  rcases y3 with ⟨a, b⟩ | ⟨a, b⟩
  · rcases z with ⟨_, z2, z3⟩ | ⟨z1, _⟩
    · exact Or.inl ⟨a, z2, z3.trans y2⟩
    · exact absurd b z1
  · rcases z with ⟨z1, z2, z3⟩ | ⟨z1, z2, z3⟩
    · exact Or.inr ⟨a, v, b, Or.inl ⟨z1, z2, z3.trans y2⟩⟩
    · exact Or.inr ⟨a, v, b, Or.inr ⟨z1, z2, z3⟩⟩
/-- the class's least row -/
theorem q_name8 {w : Nat} (ok : (shp M).ok) (hn : (shp M).nf = (n : Int)) (k2 : K2 M) (sh : SHC (shp M) 4 M) (cb : CB (shp M) M) (h1 : mG M 1 0 = 2 ∧ mG M 1 1 = 3) (hw : w < 2 ^ n) (e : mG M 3 1 = (w : Int)) : pw (mX8_name 1 M) (fun q => (12 < n ∧ q.1 = 0 ∧ mG q.2 3 1 = mG M 3 1) ∨ (n ≤ 12 ∧ ∃ m : Nat, ISL (shp M) n w m ∧ mG q.2 3 1 = (m : Int) ∧ q.1 = b2i (!decide (m = w)))) := by
  unfold mX8_name
  refine p_gFc (ji := 0) rfl h1.1 (p_gK (p_call (P := fun q => (mG q.2 1 1 = 3 ∧ mG q.2 3 1 = (w : Int)) ∧ ((12 < n ∧ q.1 = -1) ∨ (n ≤ 12 ∧ ∃ m : Nat, q.1 = (m : Int) ∧ ISL (shp M) n w m))) ?_ (fun v m y => ?_)))
  · unfold mX4_leastRow
    refine p_gK (p_call (q_canTell k2 sh) (fun v m y => ?_))
    obtain ⟨y1, y2⟩ := y
    replace y1 : m = M := y1
    subst y1
    rcases y2 with ⟨c, d⟩ | ⟨c, d⟩
    · exact p_it1 d (p_ret ⟨⟨h1.2, e⟩, Or.inl ⟨by omega, rfl⟩⟩)
    replace d : v = 1 := d
    have n12 : n ≤ 12 := by omega
    have p12 : 2 ^ n ≤ 2 ^ 12 := Nat.pow_le_pow_right (n := 2) (by decide) n12
    refine p_it0 (show ¬ v = 0 by omega) (p_gFc (ji := 2) rfl k2.c2_2 (p_gFc (ji := 0) rfl k2.c2_0 (p_gFc (ji := 0) rfl k2.c3_0 (p_gFc (ji := 0) rfl k2.c2_0 (p_gFc (ji := 1) rfl e (p_gK ?_))))))
    rw [l2i_nat (show w < 4096 by omega)]
    refine p_call (P := fun q => FLO m q.2 ∧ ∃ x : Nat, q.1 = (x : Int) ∧ ISL (shp m) n w x) ?_ (fun v m2 y => p_ret ?_)
    · unfold mX1_leastOf
      refine p_gK (p_call (q_layOut ok hn n12 k2 sh cb) (fun _ m1 y => ?_))
      obtain ⟨⟨W, A, la⟩, _, fl, _⟩ := y
      replace la : LAID (shp m) n W A m1 := la
      replace fl : FLO m m1 := fl
      have k1 : K2 m1 := k2.kp (fun x hx => fl _ _ (by have := cst_24 x hx; omega) (by have c := cst_out x hx; omega) (by have c := cst_out x hx; omega))
      refine p_mono (q_least10 ok hn n12 k1 la hw) (fun q y => ⟨?_, y.2⟩)
      rw [y.1]
      exact fl
    · obtain ⟨fl, x, y1, y2⟩ := y
      replace fl : FLO m m2 := fl
      replace y1 : v = (x : Int) := y1
      exact ⟨⟨(fl 1 1 (by decide) (by decide) (by decide)).trans h1.2, (fl 3 1 (by decide) (by decide) (by decide)).trans e⟩, Or.inr ⟨n12, x, y1, y2⟩⟩
  · obtain ⟨⟨y1, y2⟩, y3⟩ := y
    replace y1 : mG m 1 1 = 3 := y1
    replace y2 : mG m 3 1 = (w : Int) := y2
    refine p_gFc (ji := 1) rfl y1 (p_gFc (ji := 1) rfl y2 ?_)
    have lc : (lcmp (i2l v) (w : Int) = 0) ↔ v = (w : Int) := lcmp_0 v (w : Int)
    rcases y3 with ⟨a, b⟩ | ⟨a, x, b, c⟩
    · replace b : v = -1 := b
      refine p_it0 (fun z => by have := lc.mp z; omega) (p_gK (p_call (q_becomes y1) (fun u m2 z => ?_)))
      rcases z with ⟨_, z2, z3⟩ | ⟨z1, _⟩
      · exact p_it1 z2 (p_ret (Or.inl ⟨a, rfl, z3.trans (y2.trans e.symm)⟩))
      · exact absurd b z1
    · replace b : v = (x : Int) := b
      refine p_if (fun z => p_ret (Or.inr ⟨a, x, c, ?_, ?_⟩)) (fun z => p_gK (p_call (q_becomes y1) (fun u m2 z2 => ?_)))
      · have := lc.mp z
        exact y2.trans (by omega)
      · have := lc.mp z
        show (0 : Int) = _
        rw [decide_eq_true (show x = w by omega)]; rfl
      · have nz : ¬ x = w := fun h => z (lc.mpr (by omega))
        rcases z2 with ⟨z1, _⟩ | ⟨_, z2, z3⟩
        · replace z1 : v = -1 := z1
          omega
        · replace z2 : u = 1 := z2
          refine p_it0 (show ¬ u = 0 by omega) (p_ret (Or.inr ⟨a, x, c, z3.trans b, ?_⟩))
          show (1 : Int) = _
          rw [decide_eq_false nz]; rfl
end
section
variable {S : SH} {P : Nat → List Row} {M : Mem} {n : Nat}
theorem v_form22 {K vw : Nat} {F : Int → Int} {k : Int} (ok : S.ok) (hn : S.nf = (n : Int)) (n12 : n ≤ 12) (hF : ∀ p, F p = -1 ∨ F p = 0 ∨ F p = 1) (K8 : K ≤ 8) (hv : vw < 256) {G : Nat → Bool} (hG : G = fun w => WDr S P K vw F n w && isF S n w) : ∀ (fu w : Nat) (m : Mem), w ≤ 2 ^ n → RWd S P (K : Int) vw F n m → (∀ f : Int, mG m 137 f = mG M 137 f) → (∀ x, x < w → G x = true → ¬ k = ((ctn G x : Nat) : Int)) → pw (mX9_form_22 fu 126 k ((ctn G w : Nat) : Int) (w : Int) m) (RF n G k M) := by
  have p12 : 2 ^ n ≤ 2 ^ 12 := Nat.pow_le_pow_right (n := 2) (by decide) n12
  intro fu
  induction fu with
  | zero => intro w m _ _ _ _; exact p_none
  | succ fu ih =>
    intro w m hw r4 g4 no
    show pw (bX9_form_22 (mX9_form_22 fu) 126 k _ (w : Int) m) _
    unfold bX9_form_22
    refine p_gK (p_call (v_manyFacts ok r4.1.1 r4.1.2) (fun v m5 y => ?_))
    obtain ⟨y6, y7⟩ := y
    replace y6 : m5 = m := y6
    replace y7 : v = S.nf := y7
    subst y6
    rw [hn] at y7
    subst y7
    rw [ishl1 n (by omega), show (2 : Int) ^ n = ((2 ^ n : Nat) : Int) by simp]
    refine p_if (fun c => p_ret (Or.inr ⟨n12, -1, Or.inl ⟨rfl, fun x hx => no x ?_⟩, Or.inl ⟨rfl, rfl, g4⟩⟩)) (fun c => ?_)
    · replace c : ((2 ^ n : Nat) : Int) ≤ (w : Int) := c
      omega
    replace c : ¬ ((2 ^ n : Nat) : Int) ≤ (w : Int) := c
    have cl := ctn_le G w
    refine p_gK (p_call (v_isForm (w := w) ok hn n12 (by omega) hF K8 hv r4) (fun v m6 y => ?_))
    obtain ⟨y8, y9, y10⟩ := y
    replace y8 : FIF m5 m6 := y8
    replace y9 : v = b2i (G w) := by rw [hG]; exact y9
    have g6 : ∀ f : Int, mG m6 137 f = mG M 137 f := fun f => (y8 137 f (by omega) (by decide) (by decide) (by decide) (by decide)).trans (g4 f)
    have r6 := r4.ff y8
    refine p_if (fun c2 => ?_) (fun c2 => ?_)
    · have gf : G w = false := b2i_0.mp (y9.symm.trans c2)
      unfold mX9_form_55
      rw [wI_s (p := w) (by omega), show ctn G w = ctn G (w + 1) by rw [ctn_s, gf]; rfl]
      refine ih (w + 1) m6 (by omega) r6 g6 (fun x hx gx => ?_)
      by_cases e : x = w
      · rw [e, gf] at gx; cases gx
      · exact no x (by omega) gx
    · have gt : G w = true := by
        cases e : G w with
        | true => rfl
        | false => rw [e] at y9; exact absurd y9 c2
      refine p_if (fun c3 => ?_) (fun c3 => ?_)
      · refine p_gK (p_call (v_takeWorld (w := w) ok hn n12 r6.1.1 r6.1.2 (by omega)) (fun _ m7 y => p_ret (Or.inr ⟨n12, (w : Int), Or.inr ⟨w, by omega, rfl, gt, c3.symm⟩, Or.inr ⟨w, rfl, by omega, rfl, ?_, ?_⟩⟩)))
        · exact y.1
        · exact fun f hf => (y.2 137 f (fun z => hf z.2)).trans (g6 f)
      · unfold mX9_form_55
        rw [wI_s (p := w) (by omega), wI_s (p := ctn G w) (by omega), show ctn G w + 1 = ctn G (w + 1) by rw [ctn_s, gt]; rfl]
        refine ih (w + 1) m6 (by omega) r6 g6 (fun x hx gx => ?_)
        by_cases e : x = w
        · rw [e]; exact fun z => c3 z.symm
        · exact no x (by omega) gx
theorem v_form {K : Nat} {k : Int} (ok : S.ok) (hn : S.nf = (n : Int)) (rf : RFB S P M) (hK : mG M 138 0 = (K : Int)) : pw (mX9_form 126 k M) (RF n (fun w => WDr S P K (tvb M) (knR S M) n w && isF S n w) k M) := by
  have h8 := rf.2.2.2.1
  have K8 : K ≤ 8 := by omega
  have vl := tvb_lt hK
  have p8 : 2 ^ K ≤ 2 ^ 8 := Nat.pow_le_pow_right (n := 2) (by decide) K8
  have hF : ∀ p, knR S M p = -1 ∨ knR S M p = 0 ∨ knR S M p = 1 := fun p => knf_rg _ _ _ _ _ _
  unfold mX9_form
  refine p_pF (ji := 0) rfl (fun m1 h1 => ?_)
  have g1 : ∀ c j : Int, ¬ c = 126 → mG m1 c j = mG M c j := fun c j x => st_ne h1 (fun w => x w.1)
  have k1 : K9 m1 := rf.1.kp (fun j hj => st_ne h1 (fun w => by omega))
  refine p_gK (p_call (v_can ok rf k1 (fun c j x _ _ => g1 c j x)) (fun v m2 y => ?_))
  obtain ⟨rb, y⟩ := y
  have g2 : ∀ f : Int, mG m2 137 f = mG M 137 f := fun f => rb.2.2 137 f (by decide) (by decide) (by decide)
  rcases y with ⟨z1, z2⟩ | ⟨z1, z2⟩
  · exact p_it1 z2 (p_ret (Or.inl ⟨by omega, rfl, g2⟩))
  replace z2 : v = 1 := z2
  have n12 : n ≤ 12 := by omega
  refine p_it0 (show ¬ v = 0 by omega) (p_gK (p_call (v_prep ok hn n12 h8 rb) (fun v m4 y => ?_)))
  obtain ⟨r4, g4⟩ := y
  rw [hK] at r4
  replace r4 : RWd S P (K : Int) (tvb M) (knR S M) n m4 := r4
  replace g4 : ∀ c j : Int, ¬ (c = 126 ∧ (j = 48 ∨ j = 49 ∨ j = 50)) → mG m4 c j = mG m2 c j := g4
  exact v_form22 ok hn n12 hF K8 (by omega) rfl FU 0 m4 (Nat.zero_le _) r4 (fun f => (g4 137 f (by omega)).trans (g2 f)) (fun x hx => absurd hx (by omega))
theorem v_against30 {K vw : Nat} {F : Int → Int} {ps : List Row} (ok : S.ok) (hn : S.nf = (n : Int)) (n12 : n ≤ 12) (hF : ∀ p, F p = -1 ∨ F p = 0 ∨ F p = 1) (K8 : K ≤ 8) (hv : vw < 256) (hl : ps.length ≤ 40) (hty : ty S.nr S.k1 S.k2 [(0, 255)] ps) {G : Nat → Bool} (hG : G = fun w => (WDr S P K vw F n w && isF S n w) && !TMw S ps w) : ∀ (fu w : Nat) (m : Mem), w ≤ 2 ^ n → RWd S P (K : Int) vw F n m → RT ps 8 m → (∀ f : Int, mG m 137 f = mG M 137 f) → (∀ x, x < w → G x = false) → pw (mX9_against_30 fu 126 (w : Int) m) (RF n G 0 M) := by
  have p12 : 2 ^ n ≤ 2 ^ 12 := Nat.pow_le_pow_right (n := 2) (by decide) n12
  intro fu
  induction fu with
  | zero => intro w m _ _ _ _ _; exact p_none
  | succ fu ih =>
    intro w m hw r4 t4 g4 no
    show pw (bX9_against_30 (mX9_against_30 fu) 126 (w : Int) m) _
    unfold bX9_against_30
    refine p_gK (p_call (v_manyFacts ok r4.1.1 r4.1.2) (fun v m5 y => ?_))
    obtain ⟨y6, y7⟩ := y
    replace y6 : m5 = m := y6
    replace y7 : v = S.nf := y7
    subst y6
    rw [hn] at y7
    subst y7
    rw [ishl1 n (by omega), show (2 : Int) ^ n = ((2 ^ n : Nat) : Int) by simp]
    refine p_if (fun c => p_ret (Or.inr ⟨n12, -1, Or.inl ⟨rfl, fun x hx gx => ?_⟩, Or.inl ⟨rfl, rfl, g4⟩⟩)) (fun c => ?_)
    · replace c : ((2 ^ n : Nat) : Int) ≤ (w : Int) := c
      rw [no x (by omega)] at gx; cases gx
    replace c : ¬ ((2 ^ n : Nat) : Int) ≤ (w : Int) := c
    have nxt : ∀ m7, G w = false → RWd S P (K : Int) vw F n m7 → RT ps 8 m7 → (∀ f : Int, mG m7 137 f = mG M 137 f) → pw (mX9_against_64 (mX9_against_30 fu) 126 (w : Int) m7) (RF n G 0 M) := fun m7 gf r7 t7 g7 => by
      unfold mX9_against_64
      rw [wI_s (p := w) (by omega)]
      refine ih (w + 1) m7 (by omega) r7 t7 g7 (fun x hx => ?_)
      by_cases e : x = w
      · rw [e]; exact gf
      · exact no x (by omega)
    refine p_gK (p_call (v_isForm (w := w) ok hn n12 (by omega) hF K8 hv r4) (fun v m6 y => ?_))
    obtain ⟨y8, y9, y10⟩ := y
    replace y8 : FIF m5 m6 := y8
    replace y9 : v = b2i (WDr S P K vw F n w && isF S n w) := y9
    replace y10 : v = 1 → LW S (phw S.nf w) m6 := y10
    have g6 : ∀ f : Int, mG m6 137 f = mG M 137 f := fun f => (y8 137 f (by omega) (by decide) (by decide) (by decide) (by decide)).trans (g4 f)
    have r6 := r4.ff y8
    have t6 := t4.ff y8
    refine p_if (fun c2 => ?_) (fun c2 => ?_)
    · have gf := b2i_0.mp (y9.symm.trans c2)
      refine nxt m6 ?_ r6 t6 g6
      rw [hG]
      show ((WDr S P K vw F n w && isF S n w) && _) = false
      rw [gf]; rfl
    · have gt : (WDr S P K vw F n w && isF S n w) = true := by
        cases e : (WDr S P K vw F n w && isF S n w) with
        | true => rfl
        | false => rw [e] at y9; exact absurd y9 c2
      refine p_gK (p_call (v_gmeans ok r6.1.1 r6.1.2 (y10 (by rw [y9, gt]; rfl)) t6 hl hty) (fun u m7 y => ?_))
      obtain ⟨y1, y2⟩ := y
      replace y1 : FM m6 m7 := y1
      replace y2 : u = b2i (TMw S ps w) := y2
      have r7 := r6.fi y1.fi
      have t7 := t6.fi y1.fi
      have g7 : ∀ f : Int, mG m7 137 f = mG M 137 f := fun f => (y1 137 f (by omega) (by decide) (by decide)).trans (g6 f)
      have eG : G w = !TMw S ps w := by
        rw [hG]
        show ((WDr S P K vw F n w && isF S n w) && !TMw S ps w) = _
        rw [gt]; rfl
      refine p_if (fun c3 => ?_) (fun c3 => ?_)
      · have mf := b2i_0.mp (y2.symm.trans c3)
        refine p_gK (p_call (v_takeWorld (w := w) ok hn n12 r7.1.1 r7.1.2 (by omega)) (fun _ m8 y => p_ret (Or.inr ⟨n12, (w : Int), Or.inr ⟨w, by omega, rfl, by rw [eG, mf]; rfl, by rw [ctn_z0 w no]; rfl⟩, Or.inr ⟨w, rfl, by omega, rfl, ?_, ?_⟩⟩)))
        · exact y.1
        · exact fun f hf => (y.2 137 f (fun z => hf z.2)).trans (g7 f)
      · refine nxt m7 ?_ r7 t7 g7
        rw [eG]
        cases e : TMw S ps w with
        | true => rfl
        | false => rw [e] at y2; exact absurd y2 c3
theorem v_against {K : Nat} {ps : List Row} (ok : S.ok) (hn : S.nf = (n : Int)) (rf : RFB S P M) (hK : mG M 138 0 = (K : Int)) (g : ¬ mG M 141 8 = 0) (rt : RT ps 8 M) (hl : ps.length ≤ 40) (hty : ty S.nr S.k1 S.k2 [(0, 255)] ps) : pw (mX9_against 126 M) (RF n (fun w => (WDr S P K (tvb M) (knR S M) n w && isF S n w) && !TMw S ps w) 0 M) := by
  have h8 := rf.2.2.2.1
  have K8 : K ≤ 8 := by omega
  have vl := tvb_lt hK
  have p8 : 2 ^ K ≤ 2 ^ 8 := Nat.pow_le_pow_right (n := 2) (by decide) K8
  have hF : ∀ p, knR S M p = -1 ∨ knR S M p = 0 ∨ knR S M p = 1 := fun p => knf_rg _ _ _ _ _ _
  unfold mX9_against
  refine p_pF (ji := 0) rfl (fun m1 h1 => ?_)
  have g1 : ∀ c j : Int, ¬ c = 126 → mG m1 c j = mG M c j := fun c j x => st_ne h1 (fun w => x w.1)
  have k1 : K9 m1 := rf.1.kp (fun j hj => st_ne h1 (fun w => by omega))
  refine p_gFc (ji := 15) rfl k1.c15 (p_aGc (g1 141 8 (by decide)) (p_it0 g (p_gK (p_call (v_can ok rf k1 (fun c j x _ _ => g1 c j x)) (fun v m2 y => ?_)))))
  obtain ⟨rb, y⟩ := y
  have g2 : ∀ f : Int, mG m2 137 f = mG M 137 f := fun f => rb.2.2 137 f (by decide) (by decide) (by decide)
  rcases y with ⟨z1, z2⟩ | ⟨z1, z2⟩
  · exact p_it1 z2 (p_ret (Or.inl ⟨by omega, rfl, g2⟩))
  replace z2 : v = 1 := z2
  have n12 : n ≤ 12 := by omega
  refine p_it0 (show ¬ v = 0 by omega) (p_gK (p_call (v_prep ok hn n12 h8 rb) (fun v m4 y => ?_)))
  obtain ⟨r4, g4⟩ := y
  rw [hK] at r4
  replace r4 : RWd S P (K : Int) (tvb M) (knR S M) n m4 := r4
  replace g4 : ∀ c j : Int, ¬ (c = 126 ∧ (j = 48 ∨ j = 49 ∨ j = 50)) → mG m4 c j = mG m2 c j := g4
  have t4 : RT ps 8 m4 := ⟨(g4 141 8 (by decide)).trans ((rb.2.2 141 8 (by decide) (by decide) (by decide)).trans rt.1), fun i r hr => (rt.2 i r hr).kp (fun c c0 c1 => (g4 c _ (by omega)).trans (rb.2.2 c _ (by omega) (by omega) (by omega)))⟩
  exact v_against30 ok hn n12 hF K8 (by omega) hl hty rfl FU 0 m4 (Nat.zero_le _) r4 t4 (fun f => (g4 137 f (by omega)).trans (g2 f)) (fun x hx => absurd hx (by omega))
theorem v_name (ok : S.ok) (hn : S.nf = (n : Int)) (rf : RFB S P M) (hb : ∀ f : Int, 0 ≤ mG M 137 f ∧ mG M 137 f ≤ 1) : pw (mX9_name 126 M) (fun q => (12 < n ∧ q.1 = 0 ∧ ∀ f : Int, mG q.2 137 f = mG M 137 f) ∨ (n ≤ 12 ∧ ∃ m : Nat, ISL S n (wn (mG M 137) n) m ∧ ((∀ f : Int, 0 ≤ f → f < (n : Int) → mG q.2 137 f = b2i (phw (n : Int) m f)) ∧ ∀ f : Int, ¬ (0 ≤ f ∧ f < (n : Int)) → mG q.2 137 f = mG M 137 f) ∧ q.1 = b2i (!decide (m = wn (mG M 137) n)))) := by
  have wl := wn_lt (mG M 137) n
  unfold mX9_name
  refine p_pF (ji := 0) rfl (fun m1 h1 => ?_)
  have g1 : ∀ c j : Int, ¬ c = 126 → mG m1 c j = mG M c j := fun c j x => st_ne h1 (fun w => x w.1)
  have k1 : K9 m1 := rf.1.kp (fun j hj => st_ne h1 (fun w => by omega))
  refine p_gK (p_call (v_can ok rf k1 (fun c j x _ _ => g1 c j x)) (fun v m2 y => ?_))
  obtain ⟨rb, y⟩ := y
  have g2 : ∀ f : Int, mG m2 137 f = mG M 137 f := fun f => rb.2.2 137 f (by decide) (by decide) (by decide)
  rcases y with ⟨z1, z2⟩ | ⟨z1, z2⟩
  · exact p_it1 z2 (p_ret (Or.inl ⟨by omega, rfl, g2⟩))
  replace z2 : v = 1 := z2
  have n12 : n ≤ 12 := by omega
  have p12 : 2 ^ n ≤ 2 ^ 12 := Nat.pow_le_pow_right (n := 2) (by decide) n12
  have eg : mG m2 137 = mG M 137 := funext g2
  obtain ⟨⟨k2, s2, _⟩, _⟩ := rb
  refine p_it0 (show ¬ v = 0 by omega) (p_gK (p_call (v_number ok hn n12 k2 s2 (fun f => by rw [g2]; exact hb f)) (fun u m3 y => ?_)))
  obtain ⟨y1, y2⟩ := y
  replace y1 : m3 = m2 := y1
  replace y2 : u = ((wn (mG m2 137) n : Nat) : Int) := y2
  subst y1
  rw [eg] at y2
  obtain ⟨w, hw⟩ : ∃ w, w = wn (mG M 137) n := ⟨_, rfl⟩
  rw [← hw] at y2 wl ⊢
  subst y2
  refine p_gK (p_call (v_layWorld (w := w) ok hn n12 k2 s2 (by omega)) (fun _ m4 y => ?_))
  obtain ⟨lw, f4⟩ := y
  replace lw : LW S (phw S.nf w) m4 := lw
  replace f4 : ∀ c j : Int, ¬ c = 154 → mG m4 c j = mG m3 c j := f4
  rw [hn] at lw
  have k4 : K9 m4 := k2.kp (fun j _ => f4 126 j (by decide))
  have s4 : RSH S m4 := s2.kp (fun c j hc => f4 c j (by omega))
  refine p_gK (p_call (v_leastImage ok hn n12 wl k4 s4 lw) (fun x m5 y => ?_))
  obtain ⟨f5, l, e, il⟩ := y
  replace f5 : ∀ c j : Int, ¬ c = 162 → mG m5 c j = mG m4 c j := f5
  replace e : x = (l : Int) := e
  subst e
  have k5 : K9 m5 := k4.kp (fun j _ => f5 126 j (by decide))
  have s5 : RSH S m5 := s4.kp (fun c j hc => f5 c j (by omega))
  refine p_gK (p_call (v_takeWorld (w := l) ok hn n12 k5 s5 (by have := il.1.2.1; omega)) (fun _ m6 y => ?_))
  obtain ⟨t1, t2⟩ := y
  replace t1 : ∀ f : Int, 0 ≤ f → f < (n : Int) → mG m6 137 f = b2i (phw (n : Int) l f) := t1
  replace t2 : ∀ c j : Int, ¬ (c = 137 ∧ 0 ≤ j ∧ j < (n : Int)) → mG m6 c j = mG m5 c j := t2
  have t3 : ∀ f : Int, ¬ (0 ≤ f ∧ f < (n : Int)) → mG m6 137 f = mG M 137 f := fun f hf => (t2 137 f (fun z => hf z.2)).trans ((f5 137 f (by decide)).trans ((f4 137 f (by decide)).trans (g2 f)))
  refine p_if (fun c => p_ret (Or.inr ⟨n12, l, il, ⟨t1, t3⟩, ?_⟩)) (fun c => p_ret (Or.inr ⟨n12, l, il, ⟨t1, t3⟩, ?_⟩))
  · replace c : (l : Int) = (w : Int) := c
    show (0 : Int) = _
    rw [decide_eq_true (show l = w by omega)]; rfl
  · replace c : ¬ (l : Int) = (w : Int) := c
    show (1 : Int) = _
    rw [decide_eq_false (show ¬ l = w by omega)]; rfl
end
end
section
/-! ===== form, against, name: alike ===== -/
section
variable {M : Mem}
theorem kw_form {k : Int} (r1 : (-2147483648) ≤ k ∧ k ≤ 2147483647) (h : J4 M) : pw (mX8_form 1 k M) (fun q1 => pw (mX9_form 126 k q1.2) (fun q2 => KW q2.2 ∧ EQ q1 q2)) := by
  obtain ⟨P, n, ok, hn, k2, sh, tp, rf, ve, vlt, h1, hl⟩ := look h.1.1
  obtain ⟨en, n36, w0⟩ := h.n hn sh
  have iM := h.1.1.1.1.1
  have wf := h.1.1.1.1.2.1
  obtain ⟨K, hK⟩ := Int.eq_ofNat_of_zero_le rf.2.2.2.1.1
  have h8 := rf.2.2.2.1
  rw [hK, Int.toNat_natCast] at vlt
  refine p_mono (p_and (q_form8 r1 ok hn k2 sh h.1.2 h1 hl) (p_wp (s_X8_form r1 iM))) (fun q1 y => ?_)
  obtain ⟨c, i1, kp, _⟩ := y
  have f8 : FW8 M q1.2 := fw8_of iM kp (fun b j z => by unfold W_X8_form isWS at z; unfold WX8; omega)
  have hn169 : (169 : Int) ≤ ((mN M : Nat) : Int) := by have := iM.2.2.2.2.1; omega
  have g9 : F9 M q1.2 := kp.f9 (by omega) (fun b j z => by unfold W_X8_form isWS at z; omega)
  have wf1 : WF q1.2 := WF_of wf (fun j => g9 _ j (by decide) (by decide)) (fun j => g9 _ j (by decide) (by decide)) (fun j => g9 _ j (by decide) (by decide)) (fun j => g9 _ j (by decide) (by decide)) (fun j => g9 _ j (by decide) (by decide))
  obtain ⟨rf1, e1, e2, e3⟩ := rf.f9 (M' := q1.2) g9
  refine p_mono (p_and (v_form (k := k) ok hn rf1 (e3.trans hK)) (p_wp (s_X9_form r1 wf1 i1))) (fun q2 z => ?_)
  obtain ⟨r, i2, kp2, _⟩ := z
  rw [e1, e2, ve] at r
  have f9 : FW9 q1.2 q2.2 := fw9_of i1 kp2 (fun b j z => by unfold W_X9_form at z; omega)
  exact KW.form iM h.2 en w0 (fun w hw => by
    show (WDw (shp M) P (vwb M) (knR (shp M) M) w && isF (shp M) n w) = (WDr (shp M) P K (vwb M) (knR (shp M) M) n w && isF (shp M) n w)
    rw [wd_eq hn vlt (by omega) hw]) f8 f9 c r
theorem kw_against (h : J4 M) : pw (mX8_against 1 M) (fun q1 => pw (mX9_against 126 q1.2) (fun q2 => KW q2.2 ∧ EQ q1 q2)) := by
  obtain ⟨P, n, ok, hn, k2, sh, tp, rf, ve, vlt, h1, hl⟩ := look h.1.1
  obtain ⟨en, n36, w0⟩ := h.n hn sh
  have iM := h.1.1.1.1.1
  have wf := h.1.1.1.1.2.1
  obtain ⟨K, hK⟩ := Int.eq_ofNat_of_zero_le rf.2.2.2.1.1
  have h8 := rf.2.2.2.1
  rw [hK, Int.toNat_natCast] at vlt
  have hn169 : (169 : Int) ≤ ((mN M : Nat) : Int) := by have := iM.2.2.2.2.1; omega
  rcases guess_P h.1.1 with ⟨a, b⟩ | ⟨g0, ps, tt, rt, hty⟩
  · have c : pw (mX8_against 1 M) (fun q => q.1 = 0 ∧ q.2 = M) := by
      unfold mX8_against
      refine p_gFc (ji := 0) rfl h1.1 (p_gK (p_call (P := fun q => q.1 = -1 ∧ q.2 = M) ?_ (fun v m y => ?_)))
      · unfold mX4_formAgainst
        exact p_gFc (ji := 0) rfl k2.c2_0 (p_gFc (ji := 12) rfl rfl (p_it1 a (p_ret ⟨rfl, rfl⟩)))
      · obtain ⟨y1, y2⟩ := y
        replace y1 : v = -1 := y1
        replace y2 : m = M := y2
        subst y2
        unfold mX8_becomes
        exact p_gK (p_call (P := fun q => q.1 = 0 ∧ q.2 = m) (p_it1 y1 (p_ret ⟨rfl, rfl⟩)) (fun u m2 z => p_zR (fun _ => p_ret z)))
    refine p_mono c (fun q1 y => ?_)
    rw [y.2]
    have r : pw (mX9_against 126 M) (fun q => q.1 = 0 ∧ ∀ b j : Int, ¬ b = 126 → mG q.2 b j = mG M b j) := by
      unfold mX9_against
      refine p_pF (ji := 0) rfl (fun m1 h1 => ?_)
      have k1 : K9 m1 := rf.1.kp (fun j hj => st_ne h1 (fun w => by omega))
      exact p_gFc (ji := 15) rfl k1.c15 (p_aGc ((st_ne h1 (fun w => absurd w.1 (by decide))).trans b) (p_it1 rfl (p_ret ⟨rfl, fun b j x => st_ne h1 (fun w => x w.1)⟩)))
    exact p_mono r (fun q2 z => ⟨h.2.fr iM (fun b j w => z.2 b j (by unfold WX8 at w; omega)), y.1.trans z.1.symm⟩)
  · refine p_mono (p_and (q_against8 ok hn iM sh h.1.2 h1 g0 tt hty hl) (p_wp (s_X8_against iM))) (fun q1 y => ?_)
    obtain ⟨c, i1, kp, _⟩ := y
    have f8 : FW8 M q1.2 := fw8_of iM kp (fun b j z => by unfold W_X8_against isWS at z; unfold WX8; omega)
    have g9 : F9 M q1.2 := kp.f9 (by omega) (fun b j z => by unfold W_X8_against isWS at z; omega)
    have wf1 : WF q1.2 := WF_of wf (fun j => g9 _ j (by decide) (by decide)) (fun j => g9 _ j (by decide) (by decide)) (fun j => g9 _ j (by decide) (by decide)) (fun j => g9 _ j (by decide) (by decide)) (fun j => g9 _ j (by decide) (by decide))
    obtain ⟨rf1, e1, e2, e3⟩ := rf.f9 (M' := q1.2) g9
    have rt2 : RT ps 8 q1.2 := ⟨(g9 141 8 (by decide) (by decide)).trans rt.1, fun i r hr => (rt.2 i r hr).kp (fun c c0 c1 => g9 c _ (by omega) (by omega))⟩
    have gz : ¬ mG q1.2 141 8 = 0 := by
      have := ty_ne ps hty
      rw [rt2.1]
      omega
    refine p_mono (p_and (v_against ok hn rf1 (e3.trans hK) gz rt2 tt.1.1 hty) (p_wp (s_X9_against wf1 i1))) (fun q2 z => ?_)
    obtain ⟨r, i2, kp2, _⟩ := z
    rw [e1, e2, ve] at r
    have f9 : FW9 q1.2 q2.2 := fw9_of i1 kp2 (fun b j z => by unfold W_X9_against at z; omega)
    exact KW.form iM h.2 en w0 (fun w hw => by
      show ((WDw (shp M) P (vwb M) (knR (shp M) M) w && isF (shp M) n w) && !TMw (shp M) ps w) = ((WDr (shp M) P K (vwb M) (knR (shp M) M) n w && isF (shp M) n w) && !TMw (shp M) ps w)
      rw [wd_eq hn vlt (by omega) hw]) f8 f9 c r
theorem kw_name (h : J4 M) : pw (mX8_name 1 M) (fun q1 => pw (mX9_name 126 q1.2) (fun q2 => KW q2.2 ∧ EQ q1 q2)) := by
  obtain ⟨P, n, ok, hn, k2, sh, tp, rf, ve, vlt, h1, hl⟩ := look h.1.1
  obtain ⟨en, n36, w0⟩ := h.n hn sh
  have iM := h.1.1.1.1.1
  have hn169 : (169 : Int) ≤ ((mN M : Nat) : Int) := by have := iM.2.2.2.2.1; omega
  have wl := wn_lt (mG M 137) n
  refine p_mono (p_and (q_name8 ok hn k2 sh h.1.2 h1 wl w0.1.1) (p_wp (s_X8_name iM))) (fun q1 y => ?_)
  obtain ⟨c, i1, kp, _⟩ := y
  have f8 : FW8 M q1.2 := fw8_of iM kp (fun b j z => by unfold W_X8_name at z; unfold WX8; omega)
  have g9 : F9 M q1.2 := kp.f9 (by omega) (fun b j z => by unfold W_X8_name at z; omega)
  obtain ⟨rf1, e1, e2, e3⟩ := rf.f9 (M' := q1.2) g9
  have eg : mG q1.2 137 = mG M 137 := funext (fun f => g9 137 f (by decide) (by decide))
  refine p_mono (p_and (v_name ok hn rf1 (fun f => by rw [eg]; exact rd_Mworld iM (a := 137) (i := f) rfl)) (p_wp (s_X9_name i1))) (fun q2 z => ?_)
  obtain ⟨r, i2, kp2, _⟩ := z
  have f9 : FW9 q1.2 q2.2 := fw9_of i1 kp2 (fun b j z => by unfold W_X9_name at z; omega)
  rcases c with ⟨c1, c2, c3⟩ | ⟨c1, m, c2, c3, c4⟩
  · rcases r with ⟨_, r2, r3⟩ | ⟨r1, _⟩
    · exact ⟨h.2.same iM f8 f9 c3 r3, c2.trans r2.symm⟩
    · omega
  · rcases r with ⟨r1, _⟩ | ⟨r1, m', r2, ⟨r3, r4⟩, r5⟩
    · omega
    rw [eg] at r2 r5
    have e := c2.uniq r2
    subst e
    exact ⟨h.2.upd iM en w0 c2.1.2.1 f8 f9 c3 r3 r4, c4.trans r5.symm⟩
theorem j4_formE {l1 : Int} (r1 : (-2147483648) ≤ l1 ∧ l1 ≤ 2147483647) (h : J4 M) : wp (mX8_form 1 l1 M) (fun q1 => wp (mX9_form 126 l1 q1.2) (fun q2 => J4 q2.2 ∧ EQ q1 q2)) :=
  w_mono (w_and3 (M := M) (jb_form r1 h.1) (kw_form r1 h)) (fun q1 z => w_mono z (fun q2 y => ⟨⟨y.1, y.2.1⟩, y.2.2⟩))
theorem j4_againstE (h : J4 M) : wp (mX8_against 1 M) (fun q1 => wp (mX9_against 126 q1.2) (fun q2 => J4 q2.2 ∧ EQ q1 q2)) :=
  w_mono (w_and3 (M := M) (jb_against h.1) (kw_against h)) (fun q1 z => w_mono z (fun q2 y => ⟨⟨y.1, y.2.1⟩, y.2.2⟩))
theorem j4_nameE (h : J4 M) : wp (mX8_name 1 M) (fun q1 => wp (mX9_name 126 q1.2) (fun q2 => J4 q2.2 ∧ EQ q1 q2)) :=
  w_mono (w_and3 (M := M) (jb_name h.1) (kw_name h)) (fun q1 z => w_mono z (fun q2 y => ⟨⟨y.1, y.2.1⟩, y.2.2⟩))
theorem J4.d {x : Option (Int × Mem)} {y : Mem → Option (Int × Mem)} (h : wp x (fun q1 => wp (y q1.2) (fun q2 => J4 q2.2 ∧ EQ q1 q2))) : wp x (fun q1 => wp (y q1.2) (fun q2 => J4 q2.2)) := w_mono h (fun _ z => w_mono z (fun _ y => y.1))
theorem j4_form {l1 : Int} (r1 : (-2147483648) ≤ l1 ∧ l1 ≤ 2147483647) (h : J4 M) : wp (mX8_form 1 l1 M) (fun q1 => wp (mX9_form 126 l1 q1.2) (fun q2 => J4 q2.2)) := J4.d (j4_formE r1 h)
theorem j4_against (h : J4 M) : wp (mX8_against 1 M) (fun q1 => wp (mX9_against 126 q1.2) (fun q2 => J4 q2.2)) := J4.d (j4_againstE h)
theorem j4_name (h : J4 M) : wp (mX8_name 1 M) (fun q1 => wp (mX9_name 126 q1.2) (fun q2 => J4 q2.2)) := J4.d (j4_nameE h)
end
end
