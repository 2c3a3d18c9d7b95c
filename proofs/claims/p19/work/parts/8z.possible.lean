section
/-! ===== what is told, as both sides see it ===== -/
def bitsOf (P : Nat → Bool) : Nat → Nat
  | 0 => 0
  | k + 1 => bitsOf P k ||| (if P k = true then 2 ^ k else 0)
theorem bitsOf_b (P : Nat → Bool) (i : Nat) : ∀ k : Nat, (bitsOf P k).testBit i = (decide (i < k) && P i) := by
  intro k
  induction k with
  | zero => show (0 : Nat).testBit i = _; rw [Nat.zero_testBit, decide_eq_false (by omega)]; rfl
  | succ k ih =>
    show (bitsOf P k ||| (if P k = true then 2 ^ k else 0)).testBit i = _
    rw [Nat.testBit_or, ih]
    by_cases e : i = k
    · subst e
      rw [decide_eq_false (Nat.lt_irrefl i), decide_eq_true (Nat.lt_succ_self i)]
      cases h : P i with
      | true => rw [if_pos rfl, Nat.testBit_two_pow_self]; rfl
      | false => rw [if_neg (by decide), Nat.zero_testBit]; rfl
    · have z : (if P k = true then 2 ^ k else 0).testBit i = false := by
        split
        · exact Nat.testBit_two_pow_of_ne (fun y => e y.symm)
        · exact Nat.zero_testBit i
      rw [z, Bool.or_false]
      by_cases c : i < k
      · rw [decide_eq_true c, decide_eq_true (show i < k + 1 by omega)]
      · rw [decide_eq_false c, decide_eq_false (show ¬ i < k + 1 by omega)]
theorem bitsOf_lt (P : Nat → Bool) (k : Nat) : bitsOf P k < 2 ^ k := by
  refine Nat.lt_pow_two_of_testBit _ (fun i hi => ?_)
  rw [bitsOf_b, decide_eq_false (by omega)]; rfl
theorem bitsOf_congr {P Q : Nat → Bool} : ∀ k : Nat, (∀ i, i < k → P i = Q i) → bitsOf P k = bitsOf Q k := by
  intro k
  induction k with
  | zero => intro _; rfl
  | succ k ih =>
    intro h
    show (bitsOf P k ||| _) = (bitsOf Q k ||| _)
    rw [ih (fun i hi => h i (by omega)), h k (by omega)]
/-- the day of the view -/
def vdy (d v : Int) : Int := if v = -1 then d else v
/-- a story by the view -/
def vwf (dy : Int) (on st : Int → Int) (s : Nat) : Bool := decide (on (s : Int) ≤ dy) && (decide (st (s : Int) = -1) || decide (dy < st (s : Int)))
/-- what is known last -/
def knf (co is on : Int → Int) (dy : Int) (c : Int → Bool) : Nat → Int
  | 0 => -1
  | k + 1 => if c (co (k : Int)) = true ∧ on (k : Int) ≤ dy then (if is (k : Int) = 0 then 0 else 1) else knf co is on dy c k
theorem knf_congr {co is on co' is' on' : Int → Int} {dy : Int} {c c' : Int → Bool} : ∀ k : Nat, (∀ i : Nat, i < k → c (co (i : Int)) = c' (co' (i : Int)) ∧ is (i : Int) = is' (i : Int) ∧ on (i : Int) = on' (i : Int)) → knf co is on dy c k = knf co' is' on' dy c' k := by
  intro k
  induction k with
  | zero => intro _; rfl
  | succ k ih =>
    intro h
    obtain ⟨h1, h2, h3⟩ := h k (by omega)
    unfold knf
    rw [ih (fun i hi => h i (by omega)), h1, h2, h3]
theorem knf_rg (co is on : Int → Int) (dy : Int) (c : Int → Bool) : ∀ k : Nat, knf co is on dy c k = -1 ∨ knf co is on dy c k = 0 ∨ knf co is on dy c k = 1 := by
  intro k
  induction k with
  | zero => exact Or.inl rfl
  | succ k ih =>
    unfold knf
    split
    · split
      · exact Or.inr (Or.inl rfl)
      · exact Or.inr (Or.inr rfl)
    · exact ih
section
variable {M : Mem}
theorem q_viewedDay (k2 : K2 M) : pw (mX6_viewedDay 3 M) (fun q => q.2 = M ∧ q.1 = vdy (mG M 3 13) (mG M 3 14)) := by
  unfold mX6_viewedDay vdy
  refine p_gFc (ji := 14) rfl rfl (p_if (fun c => p_gFc (ji := 13) rfl rfl (p_ret ⟨rfl, ?_⟩)) (fun c => p_gFc (ji := 14) rfl rfl (p_ret ⟨rfl, ?_⟩)))
  · show mG M 3 13 = _; rw [if_pos c]
  · show mG M 3 14 = _; rw [if_neg c]
theorem q_viewed (k2 : K2 M) (hn : 0 ≤ mG M 3 11 ∧ mG M 3 11 ≤ 8) : pw (mX6_viewedStories 3 M) (fun q => q.2 = M ∧ q.1 = ((bitsOf (vwf (vdy (mG M 3 13) (mG M 3 14)) (mG M 15) (mG M 16)) (mG M 3 11).toNat : Nat) : Int)) := by
  obtain ⟨dy, hdy⟩ : ∃ dy, dy = vdy (mG M 3 13) (mG M 3 14) := ⟨_, rfl⟩
  rw [← hdy]
  have vd := q_viewedDay k2
  rw [← hdy] at vd
  have loop : ∀ (fu k : Nat), (k : Int) ≤ mG M 3 11 → pw (mX6_viewedStories_4 fu 3 ((bitsOf (vwf dy (mG M 15) (mG M 16)) k : Nat) : Int) (k : Int) M) (fun q => q.2 = M ∧ q.1 = ((bitsOf (vwf dy (mG M 15) (mG M 16)) (mG M 3 11).toNat : Nat) : Int)) := by
    intro fu
    induction fu with
    | zero => intro k _; exact p_none
    | succ fu ih =>
      intro k hk
      show pw (bX6_viewedStories_4 (mX6_viewedStories_4 fu) 3 _ (k : Int) M) _
      unfold bX6_viewedStories_4
      have bl := bitsOf_lt (vwf dy (mG M 15) (mG M 16)) k
      have pl : 2 ^ k ≤ 2 ^ 8 := Nat.pow_le_pow_right (by decide) (by omega)
      refine p_gFc (ji := 11) rfl rfl (p_if (fun c => p_ret ⟨rfl, ?_⟩) (fun c => ?_))
      · show ((bitsOf (vwf dy (mG M 15) (mG M 16)) k : Nat) : Int) = _
        rw [show (mG M 3 11).toNat = k by omega]
      have skip : vwf dy (mG M 15) (mG M 16) k = false → pw (mX6_viewedStories_64 (mX6_viewedStories_4 fu) 3 ((bitsOf (vwf dy (mG M 15) (mG M 16)) k : Nat) : Int) (k : Int) M) (fun q => q.2 = M ∧ q.1 = ((bitsOf (vwf dy (mG M 15) (mG M 16)) (mG M 3 11).toNat : Nat) : Int)) := fun hf => by
        unfold mX6_viewedStories_64
        rw [wI_s (p := k) (by omega)]
        have i := ih (k + 1) (by omega)
        have e : bitsOf (vwf dy (mG M 15) (mG M 16)) (k + 1) = bitsOf (vwf dy (mG M 15) (mG M 16)) k := by
          show (bitsOf _ k ||| _) = _
          rw [hf, if_neg (by decide), Nat.or_zero]
        rw [e] at i
        exact i
      have take : vwf dy (mG M 15) (mG M 16) k = true → pw (mX6_viewedStories_64 (mX6_viewedStories_4 fu) 3 (ior ((bitsOf (vwf dy (mG M 15) (mG M 16)) k : Nat) : Int) (ishl 1 (k : Int))) (k : Int) M) (fun q => q.2 = M ∧ q.1 = ((bitsOf (vwf dy (mG M 15) (mG M 16)) (mG M 3 11).toNat : Nat) : Int)) := fun hf => by
        unfold mX6_viewedStories_64
        rw [wI_s (p := k) (by omega), ishl1 k (by omega), show (2 : Int) ^ k = ((2 ^ k : Nat) : Int) by simp, ior_nn (by omega) (by omega)]
        have i := ih (k + 1) (by omega)
        have e : bitsOf (vwf dy (mG M 15) (mG M 16)) (k + 1) = bitsOf (vwf dy (mG M 15) (mG M 16)) k ||| 2 ^ k := by
          show (bitsOf _ k ||| _) = _
          rw [hf, if_pos rfl]
        rw [e] at i
        exact i
      have s40 : ∀ z : Int, (z = 0 ↔ (mG M 16 (k : Int) = -1 ∨ dy < mG M 16 (k : Int))) → pw (mX6_viewedStories_40 (mX6_viewedStories_4 fu) 3 ((bitsOf (vwf dy (mG M 15) (mG M 16)) k : Nat) : Int) (k : Int) z M) (fun q => q.2 = M ∧ q.1 = ((bitsOf (vwf dy (mG M 15) (mG M 16)) (mG M 3 11).toNat : Nat) : Int)) := fun z hz => by
        unfold mX6_viewedStories_40
        refine p_gFc (ji := 9) rfl k2.c3_9 (p_aGc rfl (p_gK (p_call vd (fun v m y => ?_))))
        obtain ⟨y1, y2⟩ := y
        replace y1 : m = M := y1
        replace y2 : v = dy := y2
        subst y1; subst y2
        refine p_if (fun c1 => skip ?_) (fun c1 => p_if (fun c2 => take ?_) (fun c2 => skip ?_))
        · unfold vwf; rw [decide_eq_false (by show ¬ mG m 15 (k : Int) ≤ v; omega)]; rfl
        · have := hz.mp c2
          unfold vwf
          rw [decide_eq_true (by show mG m 15 (k : Int) ≤ v; omega)]
          rcases this with w | w
          · rw [decide_eq_true w]; rfl
          · rw [decide_eq_true w, Bool.or_true]; rfl
        · have w : ¬ (mG m 16 (k : Int) = -1 ∨ v < mG m 16 (k : Int)) := fun w => c2 (hz.mpr w)
          unfold vwf
          rw [decide_eq_false (fun e => w (Or.inl e)), decide_eq_false (fun e => w (Or.inr e)), Bool.or_false, Bool.and_false]
      refine p_gFc (ji := 10) rfl k2.c3_10 (p_aGc rfl (p_if (fun c1 => ?_) (fun c1 => ?_)))
      · unfold mX6_viewedStories_39
        exact s40 0 ⟨fun _ => Or.inl c1, fun _ => rfl⟩
      · refine p_gFc (ji := 10) rfl k2.c3_10 (p_aGc rfl (p_gK (p_call vd (fun v m y => ?_))))
        obtain ⟨y1, y2⟩ := y
        replace y1 : m = M := y1
        replace y2 : v = dy := y2
        subst y1; subst y2
        refine p_if (fun c2 => ?_) (fun c2 => s40 1 ⟨fun e => absurd e (by decide), fun e => ?_⟩)
        · unfold mX6_viewedStories_39
          exact s40 0 ⟨fun _ => Or.inr c2, fun _ => rfl⟩
        · rcases e with e | e
          · exact absurd e c1
          · exact absurd e c2
  exact loop FU 0 hn.1
theorem q_knownOf {r i j : Int} (k2 : K2 M) (hn : 0 ≤ mG M 3 18 ∧ mG M 3 18 ≤ 40) (hr : 0 ≤ r ∧ r < 4) (hi : 0 ≤ i ∧ i < 3) (hj : 0 ≤ j ∧ j < 3) : pw (mX6_knownOf 3 r i j M) (fun q => q.2 = M ∧ q.1 = knf (mG M 17) (mG M 18) (mG M 19) (vdy (mG M 3 13) (mG M 3 14)) (fun x => decide (x = 9 * r + 3 * i + j)) (mG M 3 18).toNat) := by
  obtain ⟨dy, hdy⟩ : ∃ dy, dy = vdy (mG M 3 13) (mG M 3 14) := ⟨_, rfl⟩
  rw [← hdy]
  have vd := q_viewedDay k2
  rw [← hdy] at vd
  obtain ⟨F, hF⟩ : ∃ F, F = knf (mG M 17) (mG M 18) (mG M 19) dy (fun x => decide (x = 9 * r + 3 * i + j)) := ⟨_, rfl⟩
  rw [← hF]
  have step : ∀ k : Nat, F (k + 1) = if mG M 17 (k : Int) = 9 * r + 3 * i + j ∧ mG M 19 (k : Int) ≤ dy then (if mG M 18 (k : Int) = 0 then 0 else 1) else F k := fun k => by
    rw [hF]
    show (if decide _ = true ∧ _ then _ else _) = _
    by_cases c : mG M 17 (k : Int) = 9 * r + 3 * i + j
    · by_cases d : mG M 19 (k : Int) ≤ dy
      · exact (if_pos ⟨decide_eq_true c, d⟩).trans (if_pos ⟨c, d⟩).symm
      · exact (if_neg (fun w => d w.2)).trans (if_neg (fun w => d w.2)).symm
    · exact (if_neg (fun w => c (of_decide_eq_true w.1))).trans (if_neg (fun w => c w.1)).symm
  have loop : ∀ (fu k : Nat), (k : Int) ≤ mG M 3 18 → pw (mX6_knownOf_17 fu 3 (9 * r + 3 * i + j) (F k) (k : Int) M) (fun q => q.2 = M ∧ q.1 = F (mG M 3 18).toNat) := by
    intro fu
    induction fu with
    | zero => intro k _; exact p_none
    | succ fu ih =>
      intro k hk
      show pw (bX6_knownOf_17 (mX6_knownOf_17 fu) 3 (9 * r + 3 * i + j) (F k) (k : Int) M) _
      unfold bX6_knownOf_17
      refine p_gFc (ji := 18) rfl rfl (p_if (fun c => p_ret ⟨rfl, ?_⟩) (fun c => ?_))
      · show F k = _
        rw [show (mG M 3 18).toNat = k by omega]
      have go : ∀ v, v = F (k + 1) → pw (mX6_knownOf_69 (mX6_knownOf_17 fu) 3 (9 * r + 3 * i + j) v (k : Int) M) (fun q => q.2 = M ∧ q.1 = F (mG M 3 18).toNat) := fun v hv => by
        unfold mX6_knownOf_69
        rw [wI_s (p := k) (by omega), hv]
        exact ih (k + 1) (by omega)
      refine p_gFc (ji := 15) rfl k2.c3_15 (p_aGc rfl (p_if (fun c1 => ?_) (fun c1 => go _ ?_)))
      · refine p_gFc (ji := 17) rfl k2.c3_17 (p_aGc rfl (p_gK (p_call vd (fun v m y => ?_))))
        obtain ⟨y1, y2⟩ := y
        replace y1 : m = M := y1
        replace y2 : v = dy := y2
        subst y1; subst y2
        refine p_if (fun c2 => go _ ?_) (fun c2 => p_gFc (ji := 16) rfl k2.c3_16 (p_aGc rfl ?_))
        · rw [step, if_neg (fun w => absurd w.2 (by omega))]
        · unfold mX6_knownOf_67
          refine p_if (fun c3 => go _ ?_) (fun c3 => go _ ?_)
          · rw [step, if_pos ⟨c1, by omega⟩, if_pos c3]
          · rw [step, if_pos ⟨c1, by omega⟩, if_neg c3]
      · rw [step, if_neg (fun w => c1 w.1)]
  unfold mX6_knownOf
  refine p_some (fun b hb => ?_)
  rw [wI_id (x := r * 3) (by omega) (by omega), wI_id (x := r * 3 + i) (by omega) (by omega), wI_id (x := (r * 3 + i) * 3) (by omega) (by omega), wI_id (x := (r * 3 + i) * 3 + j) (by omega) (by omega), show (r * 3 + i) * 3 + j = 9 * r + 3 * i + j by omega] at hb
  subst hb
  have l0 := loop FU 0 hn.1
  have f0 : F 0 = -1 := by rw [hF]; rfl
  rw [f0] at l0
  exact l0
end
/-! ===== what the facts can be, as they are known ===== -/
def allb (g : Nat → Bool) : Nat → Bool
  | 0 => true
  | k + 1 => allb g k && g k
theorem allb_t {g : Nat → Bool} : ∀ k : Nat, allb g k = true ↔ ∀ i, i < k → g i = true := by
  intro k
  induction k with
  | zero => exact ⟨fun _ i hi => absurd hi (by omega), fun _ => rfl⟩
  | succ k ih =>
    show (allb g k && g k) = true ↔ _
    rw [Bool.and_eq_true, ih]
    constructor
    · intro h i hi
      by_cases e : i = k
      · rw [e]; exact h.2
      · exact h.1 i (by omega)
    · intro h
      exact ⟨fun i hi => h i (by omega), h k (by omega)⟩
/-- a fact that is as it is known -/
def okp (n : Int) (kq : Int → Int) (w p : Nat) : Bool := decide (kq (p : Int) = -1) || (phw n w (p : Int) == decide (kq (p : Int) = 1))
def PKq (n : Int) (kq : Int → Int) (P : Nat) (w : Nat) : Bool := decide (w < 2 ^ n.toNat) && allb (okp n kq w) P
section
variable {S : SH} {M : Mem}
theorem col_in {r j : Int} (hj : 0 ≤ j ∧ j < S.zv (S.k2 r)) : S.col r j = j := by
  unfold SH.col
  split
  · rename_i h
    unfold SH.zv at hj
    rw [if_pos h] at hj
    omega
  · rfl
theorem q_findPossible {kq : Int → Int} (ok : S.ok) (n12 : S.nf ≤ 12) (k2 : K2 M) (sh : SHC S 4 M) (hq : ∀ p, kq p = -1 ∨ kq p = 0 ∨ kq p = 1) (kn : ∀ r i j : Int, (0 ≤ r ∧ r < S.nr) → (0 ≤ i ∧ i < S.zv (S.k1 r)) → (0 ≤ j ∧ j < S.zv (S.k2 r)) → ∀ m, FW 32 M m → K2 m → pw (mX6_knownOf 3 r i j m) (fun q => q.2 = m ∧ q.1 = kq (S.at' r i j))) : pw (mX4_findPossible 2 M) (fun q => WS 32 S.nf (PKq S.nf kq S.nf.toNat) q.2 ∧ FW 32 M q.2) := by
  have nf := ok.nf
  have n4 := ok.2.1
  obtain ⟨Q, hQ⟩ : ∃ Q : Int × Mem → Prop, Q = fun q => WS 32 S.nf (PKq S.nf kq S.nf.toNat) q.2 ∧ FW 32 M q.2 := ⟨_, rfl⟩
  rw [← hQ]
  have shk : ∀ {m}, FW 32 M m → SHC S 4 m := fun fr => sh.kp (fun c j c0 c1 => fr c j (by omega) (by omega))
  have l21 : ∀ (fu r : Nat) (m : Mem), (r : Int) ≤ S.nr → FW 32 M m → K2 m → WS 32 S.nf (PKq S.nf kq (S.st r).toNat) m → pw (mX4_findPossible_21 fu 2 4 (r : Int) m) Q := by
    intro fu
    induction fu with
    | zero => intro r m _ _ _ _; exact p_none
    | succ fu ih =>
      intro r m hr fr km ws
      show pw (bX4_findPossible_21 (mX4_findPossible_21 fu) 2 4 (r : Int) m) _
      unfold bX4_findPossible_21
      refine p_gFc (ji := 6) rfl (shk fr).1.2.2.2.2.2.2.1 (p_if (fun c => p_ret ?_) (fun c => ?_))
      · have e : S.nr.toNat = r := by omega
        rw [hQ]
        show WS 32 S.nf (PKq S.nf kq S.nf.toNat) m ∧ FW 32 M m
        unfold SH.nf at *
        rw [e] at ws ⊢
        exact ⟨ws, fr⟩
      have hr2 : (r : Int) < S.nr := by omega
      have kk := ok.2.2 (r : Int) (by omega) hr2
      have z1 := ok.zv (k := S.k1 r) (by omega)
      have z2 := ok.zv (k := S.k2 r) kk.2
      have s9 := ok.st9 (r := (r : Int)) (by omega) hr2
      rw [Int.toNat_natCast] at s9
      have st1 : S.st (r + 1) = S.st r + S.zv (S.k1 r) * S.zv (S.k2 r) := rfl
      obtain ⟨h, hh⟩ : ∃ h, h = S.zv (S.k1 r) := ⟨_, rfl⟩
      obtain ⟨z, hz⟩ : ∃ z, z = S.zv (S.k2 r) := ⟨_, rfl⟩
      have zc : z = 1 ∨ z = 2 ∨ z = 3 := by omega
      have hc : h = 1 ∨ h = 2 ∨ h = 3 := by omega
      have l31 : ∀ (fu2 i : Nat) (m : Mem), (i : Int) ≤ h → FW 32 M m → K2 m → WS 32 S.nf (PKq S.nf kq (S.st r + (i : Int) * z).toNat) m → pw (mX4_findPossible_31 (mX4_findPossible_21 fu) fu2 2 4 (r : Int) (i : Int) m) Q := by
        intro fu2
        induction fu2 with
        | zero => intro i m _ _ _ _; exact p_none
        | succ fu2 ih2 =>
          intro i m hi fr km ws
          show pw (bX4_findPossible_31 (mX4_findPossible_21 fu) (mX4_findPossible_31 (mX4_findPossible_21 fu) fu2) 2 4 (r : Int) (i : Int) m) _
          unfold bX4_findPossible_31
          have c5 := ((shk fr).2.2 (r : Int) (by omega) hr2).2.2.2.1
          rw [← hh] at c5
          refine p_gFc (ji := 4) rfl (shk fr).1.2.2.2.2.1 (p_aGc c5 (p_if (fun c2 => ?_) (fun c2 => ?_)))
          · rw [wI_s (p := r) (by omega)]
            refine ih (r + 1) m (by omega) fr km ?_
            have e : (i : Int) = h := by omega
            rw [e, hh, hz] at ws
            rw [st1]; exact ws
          have l44 : ∀ (fu3 j : Nat) (m : Mem), (j : Int) ≤ z → FW 32 M m → K2 m → WS 32 S.nf (PKq S.nf kq (S.st r + (i : Int) * z + (j : Int)).toNat) m → pw (mX4_findPossible_44 (mX4_findPossible_21 fu) (mX4_findPossible_31 (mX4_findPossible_21 fu) fu2) fu3 2 4 (r : Int) (i : Int) (j : Int) m) Q := by
            intro fu3
            induction fu3 with
            | zero => intro j m _ _ _ _; exact p_none
            | succ fu3 ih3 =>
              intro j m hj fr km ws
              show pw (bX4_findPossible_44 (mX4_findPossible_21 fu) (mX4_findPossible_31 (mX4_findPossible_21 fu) fu2) (mX4_findPossible_44 (mX4_findPossible_21 fu) (mX4_findPossible_31 (mX4_findPossible_21 fu) fu2) fu3) 2 4 (r : Int) (i : Int) (j : Int) m) _
              unfold bX4_findPossible_44
              have c6 := ((shk fr).2.2 (r : Int) (by omega) hr2).2.2.2.2
              rw [← hz] at c6
              refine p_gFc (ji := 5) rfl (shk fr).1.2.2.2.2.2.1 (p_aGc c6 (p_if (fun c3 => ?_) (fun c3 => ?_)))
              · rw [wI_s (p := i) (by omega)]
                refine ih2 (i + 1) m (by omega) fr km ?_
                have e : S.st r + (i : Int) * z + (j : Int) = S.st r + ((i + 1 : Nat) : Int) * z := by
                  rw [show (j : Int) = z by omega, show ((i + 1 : Nat) : Int) = (i : Int) + 1 by omega, Int.add_mul]; omega
                rw [e] at ws; exact ws
              have i3 : (i : Int) < h := by omega
              have j3 : (j : Int) < z := by omega
              have cj : S.col (r : Int) (j : Int) = (j : Int) := col_in ⟨by omega, by rw [← hz]; exact j3⟩
              have hin : S.inr (r : Int) (i : Int) (j : Int) := ⟨⟨by omega, by rw [← hh]; exact i3⟩, by rw [cj]; omega, by rw [cj, ← hz]; exact j3⟩
              have eat : S.at' (r : Int) (i : Int) (j : Int) = S.st r + (i : Int) * z + (j : Int) := by
                unfold SH.at'
                rw [cj, ← hz, Int.mul_comm, Int.toNat_natCast]
              have pos := ok.pos (i := (i : Int)) (j := (j : Int)) (by omega) hr2 hin
              rw [eat, Int.toNat_natCast] at pos
              obtain ⟨p, hp⟩ := Int.eq_ofNat_of_zero_le (show 0 ≤ S.st r + (i : Int) * z + (j : Int) by omega)
              have sj : (S.st r + (i : Int) * z + ((j + 1 : Nat) : Int)).toNat = p + 1 := by omega
              have i3' := ih3 (j + 1)
              rw [sj] at i3'
              rw [hp, Int.toNat_natCast] at ws
              have fin : ∀ m : Mem, FW 32 M m → K2 m → WS 32 S.nf (PKq S.nf kq (p + 1)) m → pw (mX4_findPossible_104 (mX4_findPossible_21 fu) (mX4_findPossible_31 (mX4_findPossible_21 fu) fu2) (mX4_findPossible_44 (mX4_findPossible_21 fu) (mX4_findPossible_31 (mX4_findPossible_21 fu) fu2) fu3) 2 4 (r : Int) (i : Int) (j : Int) m) Q := fun m fr km ws => by
                unfold mX4_findPossible_104
                rw [wI_s (p := j) (by omega)]
                exact i3' m (by omega) fr km ws
              refine p_gFc (ji := 0) rfl km.c2_0 (p_gK (p_call (kn (r : Int) (i : Int) (j : Int) ⟨by omega, hr2⟩ hin.1 ⟨by omega, by rw [← hz]; exact j3⟩ m fr km) (fun v m1 y => ?_)))
              obtain ⟨y1, y2⟩ := y
              replace y1 : m1 = m := y1
              replace y2 : v = kq (S.at' (r : Int) (i : Int) (j : Int)) := y2
              subst y1
              rw [eat, hp] at y2
              refine p_if (fun c4 => fin m1 fr km (ws.ext (fun w _ => ?_))) (fun c4 => ?_)
              · show (_ && allb _ p) = (_ && (allb _ p && okp S.nf kq w p))
                have : okp S.nf kq w p = true := by unfold okp; rw [← y2, decide_eq_true c4]; rfl
                rw [this, Bool.and_true]
              · refine p_gFc (ji := 5) rfl km.c2_5 (p_gK (p_call (q_place (r := (r : Int)) (i := (i : Int)) (j := (j : Int)) ok (shk fr)) (fun pl m2 y => ?_)))
                obtain ⟨y3, y4⟩ := y
                replace y3 : m2 = m1 := y3
                subst y3
                have y5 : pl = (p : Int) := by
                  rcases y4 with y4 | y4
                  · have e : pl = S.at' (r : Int) (i : Int) (j : Int) := y4.2.2
                    rw [e, eat, hp]
                  · exact absurd ⟨⟨by omega, hr2⟩, hin⟩ y4.1
                subst y5
                refine p_gK (p_call (q_bit (p := (p : Int)) (shk fr) ok (by omega)) (fun bt m3 y => ?_))
                obtain ⟨y6, y7⟩ := y
                replace y6 : m3 = m2 := y6
                replace y7 : bt = S.nf - 1 - (p : Int) := y7
                subst y6; subst y7
                have s101 : ∀ b : Bool, decide (v = 1) = b → pw (mX4_findPossible_101 (mX4_findPossible_21 fu) (mX4_findPossible_31 (mX4_findPossible_21 fu) fu2) (mX4_findPossible_44 (mX4_findPossible_21 fu) (mX4_findPossible_31 (mX4_findPossible_21 fu) fu2) fu3) 2 4 (r : Int) (i : Int) (j : Int) 32 (S.nf - 1 - (p : Int)) (b2i b) m3) Q := fun b hb => by
                  unfold mX4_findPossible_101
                  refine p_gK (p_call (q_keepWhere (v := b) ⟨nf.1, n12⟩ ws (by omega)) (fun _ m4 y => ?_))
                  obtain ⟨y8, y9⟩ := y
                  have fr4 : FX 33 m3 m4 := y9
                  refine fin m4 (fr.tr (FX.fw (l := 32) fr4)) (km.fx fr4 (by decide)) (WS.ext y8 (fun w _ => ?_))
                  show ((_ && allb _ p) && _) = (_ && (allb _ p && okp S.nf kq w p))
                  have : okp S.nf kq w p = (w.testBit (S.nf - 1 - (p : Int)).toNat == b) := by
                    unfold okp phw
                    rw [← y2, decide_eq_false c4, hb]; rfl
                  rw [this, Bool.and_assoc]
                refine p_if (fun c5 => s101 true (decide_eq_true c5)) (fun c5 => s101 false (decide_eq_false c5))
          exact l44 FU 0 m (by omega) fr km (by rw [show S.st r + (i : Int) * z + ((0 : Nat) : Int) = S.st r + (i : Int) * z by omega]; exact ws)
      exact l31 FU 0 m (by omega) fr km (by rw [show S.st r + ((0 : Nat) : Int) * z = S.st r by omega]; exact ws)
  unfold mX4_findPossible
  refine p_gFc (ji := 0) rfl k2.c2_0 (p_gFc (ji := 0) rfl k2.c3_0 (p_gFc (ji := 5) rfl k2.c2_5 (p_gFc (ji := 7) rfl sh.1.2.2.2.2.2.2.2 (p_gK (p_call (q_takeAll (l := 32) ⟨nf.1, n12⟩ k2.c32_0) (fun _ m y => ?_))))))
  obtain ⟨y1, y2⟩ := y
  refine l21 FU 0 m (by omega) y2 (k2.fw y2 (by decide)) (WS.ext y1 (fun w _ => ?_))
  show decide (w < 2 ^ S.nf.toNat) = (decide (w < 2 ^ S.nf.toNat) && true)
  rw [Bool.and_true]
end
end
section
/-! ===== the class judges sets of worlds ===== -/
/-- in which worlds a text is so -/
def TMw (S : SH) (ps : List Row) (w : Nat) : Bool := hd (sm S (S.fa (phw S.nf w)) ps) (envOf 0)
def FQ (M M' : Mem) : Prop := ∀ c j : Int, ¬ (c = 20 ∧ (j = 0 ∨ j = 1 ∨ j = 5)) → ¬ (21 ≤ c ∧ c ≤ 23) → mG M' c j = mG M c j
theorem K2.fq {M M' : Mem} (h : K2 M) (k : FQ M M') : K2 M' := h.kp (fun x hx => by
  have c := cst_out x hx
  exact k _ _ (fun e => by omega) (fun e => by omega))
theorem z_path : ∀ r : Nat, r < 4 → iand (ishr 0 (r : Int)) 1 = 0 := by decide +kernel
theorem e_255 {e : Int → Int} {M : Mem} : ∀ v : Int, 0 ≤ v → v ≤ 3 → ¬ bnd 255 v = -1 → mG M 22 (slt 0 v) = e v := fun v v0 v1 h => by
  have d : ∀ v : Nat, v < 4 → bnd 255 (v : Int) = -1 := by decide +kernel
  have := d v.toNat (by omega)
  rw [show ((v.toNat : Nat) : Int) = v by omega] at this
  exact absurd this h
section
variable {S : SH} {ps : List Row} {s t : Int} {M : Mem}
theorem q_soInWord {a : Nat} (ok : S.ok) (n12 : S.nf ≤ 12) (o : okST s t) (k2 : K2 M) (sh : SHC S s M) (tt : TT ps t M) (hty : ty S.nr S.k1 S.k2 [(0, 255)] ps) (ha : a < 64) : pw (mX0_soInWord 20 s t (a : Int) M) (fun q => (InLL q.1 ∧ ∀ b : Nat, b < 64 → lb q.1 b = TMw S ps (64 * a + b)) ∧ FQ M q.2) := by
  have nf := ok.nf
  have os := o.1
  have ot := o.2
  obtain ⟨Q, hQ⟩ : ∃ Q : Int × Mem → Prop, Q = fun q => (InLL q.1 ∧ ∀ b : Nat, b < 64 → lb q.1 b = TMw S ps (64 * a + b)) ∧ FQ M q.2 := ⟨_, rfl⟩
  rw [← hQ]
  obtain ⟨Φ, hΦ⟩ : ∃ Φ : Nat → Int → Bool, Φ = fun b p => phw S.nf (64 * a + b) p := ⟨_, rfl⟩
  have loop : ∀ (fu p : Nat) (m : Mem), (p : Int) ≤ S.nf → (mG m 20 0 = s ∧ mG m 20 1 = t ∧ mG m 20 5 = 0) → (∀ c j : Int, ¬ (c = 20 ∧ (j = 0 ∨ j = 1 ∨ j = 5)) → ¬ c = 21 → mG m c j = mG M c j) → (∀ x : Nat, x < p → InLL (mG m 21 (x : Int)) ∧ ∀ b : Nat, b < 64 → lb (mG m 21 (x : Int)) b = Φ b (x : Int)) → pw (mX0_soInWord_18 fu 20 (a : Int) (p : Int) m) Q := by
    intro fu
    induction fu with
    | zero => intro p m _ _ _ _; exact p_none
    | succ fu ih =>
      intro p m hp hb fr hf
      show pw (bX0_soInWord_18 (mX0_soInWord_18 fu) 20 (a : Int) (p : Int) m) _
      have fr' : ∀ c j : Int, ¬ c = 20 → ¬ c = 21 → mG m c j = mG M c j := fun c j x y => fr c j (fun w => x w.1) y
      have shm : SHC S s m := sh.kp (fun c j c0 c1 => fr' c j (by omega) (by omega))
      have c20 : ∀ j, ¬ (j = 0 ∨ j = 1 ∨ j = 5) → mG m 20 j = mG M 20 j := fun j hj => fr 20 j (fun w => hj w.2) (by decide)
      have e2 : mG m 20 2 = 21 := (c20 2 (by decide)).trans k2.c20_2
      have fin : S.nf ≤ (p : Int) → pw (mX0_soInWord_63 20 m) Q := fun c => by
        unfold mX0_soInWord_63
        have jf : JF S ps t s Φ m := ⟨⟨hb.1, hb.2.1, e2, (c20 3 (by decide)).trans k2.c20_3, (c20 4 (by decide)).trans k2.c20_4⟩, shm, tt.of (fun b j b0 b1 => fr' b j (by omega) (by omega)), fun x x0 x1 => by
          obtain ⟨y, rfl⟩ := Int.eq_ofNat_of_zero_le x0
          exact hf y (by omega)⟩
        have jp : JP S Φ m := fun r r0 r1 _ hz => by
          exfalso
          obtain ⟨y, rfl⟩ := Int.eq_ofNat_of_zero_le r0
          have := ok.2.1
          rw [hb.2.2] at hz
          exact hz (z_path y (by omega))
        have h5 : 0 ≤ mG m 20 5 ∧ mG m 20 5 < 16 := by rw [hb.2.2]; exact ⟨by decide, by decide⟩
        have jc : JC S ps t s Φ m := ⟨jf, jp, h5⟩
        refine p_gK (p_call (q_judged ok o 45 0 0 0 255 [] (envOf 0) m jc hty ScS.start (Int.le_refl _) (Int.le_refl _) e_255) (fun r m' y => p_ret ?_))
        obtain ⟨⟨y1, y2⟩, _, y4⟩ := y
        rw [hQ]
        refine ⟨⟨y1, fun b hb => ?_⟩, fun c j x y => ?_⟩
        · have := y2 b hb
          rw [hΦ] at this
          exact this
        · have := y4 c j (fun w => x ⟨w.1, Or.inr (Or.inr w.2)⟩) (fun w => y (by omega)) (fun w => y (by omega))
          exact this.trans (fr c j x (fun w => y (by omega)))
      unfold bX0_soInWord_18
      refine p_gFc (ji := 0) rfl hb.1 (p_gFc (ji := 7) rfl shm.1.2.2.2.2.2.2.2 (p_if (fun c => fin c) (fun c => p_it0 (by omega) ?_)))
      refine p_gFc (ji := 2) rfl e2 (p_gFc (ji := 0) rfl hb.1 (p_gK (p_call (q_bit (p := (p : Int)) shm ok ⟨by omega, by omega⟩) (fun bt m1 y => ?_))))
      obtain ⟨y1, y2⟩ := y
      replace y1 : m1 = m := y1
      replace y2 : bt = S.nf - 1 - (p : Int) := y2
      subst y1; subst y2
      refine p_call (q_soAt (i := S.nf - 1 - (p : Int)) (a := a) (by omega) ha) (fun v m2 y => ?_)
      obtain ⟨y3, y4, y5⟩ := y
      replace y3 : m2 = m1 := y3
      replace y4 : InLL v := y4
      replace y5 : ∀ b : Nat, b < 64 → lb v b = (64 * a + b).testBit (S.nf - 1 - (p : Int)).toNat := y5
      subst y3
      refine p_aS (fun m3 h3 => ?_)
      rw [wI_s (p := p) (by omega)]
      refine ih (p + 1) m3 (by omega) ⟨(st_ne h3 (fun w => absurd w.1 (by decide))).trans hb.1, (st_ne h3 (fun w => absurd w.1 (by decide))).trans hb.2.1, (st_ne h3 (fun w => absurd w.1 (by decide))).trans hb.2.2⟩ (fun c j x y => (st_ne h3 (fun w => y w.1)).trans (fr c j x y)) (fun x hx => ?_)
      by_cases e : x = p
      · rw [e, st_eq h3]
        refine ⟨y4, fun b hb => ?_⟩
        rw [y5 b hb, hΦ]; rfl
      · rw [st_ne h3 (fun w => e (by have := w.2; omega))]
        exact hf x (by omega)
  unfold mX0_soInWord
  refine p_pF (ji := 0) rfl (fun M1 h1 => p_pF (ji := 1) rfl (fun M2 h2 => p_pF (ji := 5) rfl (fun M3 h3 => ?_)))
  refine loop FU 0 M3 (by omega) ⟨?_, ?_, st_eq h3⟩ (fun c j x y => ?_) (fun x hx => absurd hx (by omega))
  · rw [st_ne h3 (fun w => absurd w.2 (by decide)), st_ne h2 (fun w => absurd w.2 (by decide)), st_eq h1]
  · rw [st_ne h3 (fun w => absurd w.2 (by decide)), st_eq h2]
  · rw [st_ne h3 (fun w => x ⟨w.1, Or.inr (Or.inr w.2)⟩), st_ne h2 (fun w => x ⟨w.1, Or.inr (Or.inl w.2)⟩), st_ne h1 (fun w => x ⟨w.1, Or.inl w.2⟩)]
end
end
section
/-! ===== what is judged of texts, kept ===== -/
def txs (M : Mem) (s : Nat) : Int := if s = 8 then mG M 3 12 else mG M 14 (s : Int)
def jb (M : Mem) (s : Nat) : Bool := (mG M 2 4).toNat.testBit s
def CAs (S : SH) (s : Nat) (t : Int) (M : Mem) : Prop := ∀ ps : List Row, TT ps t M → ty S.nr S.k1 S.k2 [(0, 255)] ps → WS (47 + 2 * (s : Int)) S.nf (TMw S ps) M
def CA (S : SH) (M : Mem) : Prop := (0 ≤ mG M 2 4 ∧ mG M 2 4 < 512) ∧ ∀ s : Nat, s < 9 → jb M s = true → S.nf ≤ 12 ∧ 169 < txs M s ∧ (s < 8 → (s : Int) < mG M 3 11) ∧ CAs S s (txs M s) M
/-- the cells that a truth changes, the look-up changes -/
def FTs (l : Int) (M M' : Mem) : Prop := ∀ c j : Int, ¬ (c = 20 ∧ (j = 0 ∨ j = 1 ∨ j = 5)) → ¬ (21 ≤ c ∧ c ≤ 23) → ¬ (c = 2 ∧ j = 4) → ¬ c = l + 1 → ¬ (c = l ∧ (j = 1 ∨ j = 2)) → mG M' c j = mG M c j
def QC (c j : Int) : Prop := (c = 20 ∧ (j = 0 ∨ j = 1 ∨ j = 5)) ∨ (21 ≤ c ∧ c ≤ 23) ∨ (c = 2 ∧ j = 4) ∨ c = 33 ∨ c = 35 ∨ ((c = 32 ∨ c = 34) ∧ (j = 1 ∨ j = 2)) ∨ (48 ≤ c ∧ c ≤ 64 ∧ c % 2 = 0) ∨ (47 ≤ c ∧ c ≤ 63 ∧ c % 2 = 1 ∧ (j = 1 ∨ j = 2))
def FLK (M M' : Mem) : Prop := ∀ c j : Int, ¬ QC c j → mG M' c j = mG M c j
theorem FLK.rf {M : Mem} : FLK M M := fun _ _ _ => rfl
theorem FLK.tr {M M1 M2 : Mem} (h : FLK M M1) (k : FLK M1 M2) : FLK M M2 := fun c j x => (k c j x).trans (h c j x)
theorem nq_0 {c j : Int} (h : c ≤ 1 ∨ (3 ≤ c ∧ c ≤ 19) ∨ (24 ≤ c ∧ c ≤ 31) ∨ (36 ≤ c ∧ c ≤ 46) ∨ 65 ≤ c) : ¬ QC c j := by
  unfold QC
  omega
theorem cst_qc : ∀ x, x ∈ cstL → ¬ QC x.1 x.2.1 := by
  unfold QC
  decide +kernel
theorem K2.fl {M M' : Mem} (h : K2 M) (k : FLK M M') : K2 M' := h.kp (fun x hx => k _ _ (cst_qc x hx))
theorem FTs.fl {s : Nat} {M M' : Mem} (k : FTs (47 + 2 * (s : Int)) M M') (hs : s < 9) : FLK M M' := fun c j x => by
  unfold QC at x
  exact k c j (fun e => x (Or.inl e)) (fun e => x (Or.inr (Or.inl e))) (fun e => x (Or.inr (Or.inr (Or.inl e)))) (fun e => x (by omega)) (fun e => x (by omega))
theorem FX.fl {l : Int} {M M' : Mem} (k : FX l M M') (hl : l = 33 ∨ l = 35) : FLK M M' := fun c j x => k c j (fun e => x (by unfold QC; omega))
theorem FW.fl {l : Int} {M M' : Mem} (k : FW l M M') (hl : l = 32 ∨ l = 34) : FLK M M' := fun c j x => k c j (fun e => x (by unfold QC; omega)) (fun e => x (by unfold QC; omega))
theorem SHC.fl {S : SH} {M M' : Mem} (h : SHC S 4 M) (k : FLK M M') : SHC S 4 M' := h.kp (fun c j c0 c1 => k c j (nq_0 (by omega)))
theorem TT.fl {ps : List Row} {t : Int} {M M' : Mem} (h : TT ps t M) (k : FLK M M') (ht : 169 < t) : TT ps t M' := h.of (fun b j b0 b1 => k b j (nq_0 (by omega)))
theorem TT.fl' {ps : List Row} {t : Int} {M M' : Mem} (h : TT ps t M') (k : FLK M M') (ht : 169 < t) : TT ps t M := h.of (fun b j b0 b1 => (k b j (nq_0 (by omega))).symm)
theorem txs_fl {M M' : Mem} (k : FLK M M') (s : Nat) : txs M' s = txs M s := by
  unfold txs
  split
  · exact k 3 12 (nq_0 (by omega))
  · exact k 14 _ (nq_0 (by omega))
/-- the truths stay while other cells change -/
theorem CA.fl {S : SH} {M M' : Mem} (h : CA S M) (k : FLK M M') (h4 : mG M' 2 4 = mG M 2 4) (g : ∀ c j : Int, 47 ≤ c → c ≤ 64 → mG M' c j = mG M c j) : CA S M' := by
  refine ⟨by rw [h4]; exact h.1, fun s hs hj => ?_⟩
  have e : jb M' s = jb M s := by unfold jb; rw [h4]
  rw [e] at hj
  obtain ⟨a, b, c, d⟩ := h.2 s hs hj
  rw [txs_fl k s, k 3 11 (nq_0 (by omega))]
  exact ⟨a, b, c, fun ps h1 h2 => (d ps (h1.fl' k b) h2).kp (fun j => g _ j (by omega) (by omega)) (fun j => g _ j (by omega) (by omega))⟩
section
variable {S : SH} {ps : List Row} {t : Int} {M : Mem} {s : Nat}
theorem jb_or {j s : Nat} (hj : j < 512) (hs : s < 9) : ior (j : Int) (ishl 1 (s : Int)) = ((j ||| 2 ^ s : Nat) : Int) ∧ (j ||| 2 ^ s) < 512 := by
  have h1 : (2 : Nat) ^ s < 2 ^ 9 := Nat.pow_lt_pow_right (by decide) hs
  rw [ishl1 s (by omega), show (2 : Int) ^ s = ((2 ^ s : Nat) : Int) by simp]
  exact ⟨ior_nn (by omega) (by omega), Nat.or_lt_two_pow (n := 9) hj h1⟩
theorem jb_tb {j s u : Nat} : (j ||| 2 ^ s).testBit u = (j.testBit u || decide (s = u)) := by
  rw [Nat.testBit_or]
  by_cases e : s = u
  · subst e
    rw [Nat.testBit_two_pow_self, decide_eq_true rfl]
  · rw [Nat.testBit_two_pow_of_ne e, decide_eq_false e]
theorem q_truth (ok : S.ok) (n12 : S.nf ≤ 12) (k2 : K2 M) (sh : SHC S 4 M) (ca : CA S M) (hs : s < 9) (ht : txs M s = t) (h169 : 169 < t) (h3 : s < 8 → (s : Int) < mG M 3 11) (tt : TT ps t M) (hty : ty S.nr S.k1 S.k2 [(0, 255)] ps) : pw (mX4_truth 2 (s : Int) t M) (fun q => q.1 = 47 + 2 * (s : Int) ∧ CA S q.2 ∧ WS (47 + 2 * (s : Int)) S.nf (TMw S ps) q.2 ∧ (jb q.2 s = true ∧ ∀ u, jb M u = true → jb q.2 u = true) ∧ FTs (47 + 2 * (s : Int)) M q.2) := by
  have nf := ok.nf
  have ub := uw_b ⟨nf.1, n12⟩
  obtain ⟨w1, w2⟩ := k2.ws hs
  obtain ⟨J, hJ⟩ := Int.eq_ofNat_of_zero_le ca.1.1
  have J5 : J < 512 := by have := ca.1.2; omega
  have jbe : ∀ u, jb M u = J.testBit u := fun u => by unfold jb; rw [hJ, Int.toNat_natCast]
  obtain ⟨Q, hQ⟩ : ∃ Q : Int × Mem → Prop, Q = fun q => q.1 = 47 + 2 * (s : Int) ∧ CA S q.2 ∧ WS (47 + 2 * (s : Int)) S.nf (TMw S ps) q.2 ∧ (jb q.2 s = true ∧ ∀ u, jb M u = true → jb q.2 u = true) ∧ FTs (47 + 2 * (s : Int)) M q.2 := ⟨_, rfl⟩
  rw [← hQ]
  have loop : ∀ (fu a : Nat) (m : Mem), a ≤ uw S.nf → FTs (47 + 2 * (s : Int)) M m → mG m 2 4 = (J : Int) → (mG m (47 + 2 * (s : Int)) 0 = 47 + 2 * (s : Int) + 1 ∧ mG m (47 + 2 * (s : Int)) 1 = ((uw S.nf : Nat) : Int) ∧ mG m (47 + 2 * (s : Int)) 2 = S.nf) → (∀ ps : List Row, TT ps t M → ty S.nr S.k1 S.k2 [(0, 255)] ps → WH (47 + 2 * (s : Int)) S.nf (fun _ => false) (TMw S ps) a m) → pw (mX4_truth_39 fu 2 (s : Int) t (47 + 2 * (s : Int)) (a : Int) m) Q := by
    intro fu
    induction fu with
    | zero => intro a m _ _ _ _ _; exact p_none
    | succ fu ih =>
      intro a m ha fr h4 h0 wh
      show pw (bX4_truth_39 (mX4_truth_39 fu) 2 (s : Int) t (47 + 2 * (s : Int)) (a : Int) m) _
      have fl := fr.fl hs
      have km := k2.fl fl
      unfold bX4_truth_39
      refine p_gK (p_call (P := fun q => q.2 = m ∧ q.1 = ((uw S.nf : Nat) : Int)) ?_ (fun r m1 y => ?_))
      · unfold mX7_usedWords
        exact p_gFc (ji := 1) rfl h0.2.1 (p_ret ⟨rfl, rfl⟩)
      obtain ⟨y1, y2⟩ := y
      replace y1 : m1 = m := y1
      replace y2 : r = ((uw S.nf : Nat) : Int) := y2
      subst y1
      refine p_if (fun c => ?_) (fun c => ?_)
      · refine p_gFc (ji := 4) rfl h4 (p_pF (ji := 4) rfl (fun m2 h2 => ?_))
        unfold mX4_truth_90
        refine p_ret ?_
        obtain ⟨o1, o2⟩ := jb_or J5 hs
        have f2 : FTs (47 + 2 * (s : Int)) M m2 := fun c j x y z u v => (st_ne h2 z).trans (fr c j x y z u v)
        have g2 : ∀ c j : Int, ¬ c = 2 → mG m2 c j = mG m1 c j := fun c j x => st_ne h2 (fun w => x w.1)
        have e4 : mG m2 2 4 = ((J ||| 2 ^ s : Nat) : Int) := (st_eq h2).trans o1
        have jb2 : ∀ u, jb m2 u = (J.testBit u || decide (s = u)) := fun u => by unfold jb; rw [e4, Int.toNat_natCast, jb_tb]
        have all : ∀ ps : List Row, TT ps t M → ty S.nr S.k1 S.k2 [(0, 255)] ps → WS (47 + 2 * (s : Int)) S.nf (TMw S ps) m2 := fun ps' t1 t2 =>
          ((wh ps' t1 t2).done (by omega) h0).kp (fun j => g2 _ j (by omega)) (fun j => g2 _ j (by omega))
        have fl2 := f2.fl hs
        rw [hQ]
        refine ⟨rfl, ⟨by rw [e4]; omega, fun u hu hj => ?_⟩, all ps tt hty, ⟨?_, fun u hu => ?_⟩, f2⟩
        · rw [txs_fl fl2 u, fl2 3 11 (nq_0 (by omega))]
          by_cases e : s = u
          · subst e
            rw [ht]
            exact ⟨n12, h169, h3, fun ps' t1 t2 => all ps' (t1.fl' fl2 h169) t2⟩
          · rw [jb2, decide_eq_false e, Bool.or_false, ← jbe] at hj
            obtain ⟨a1, a2, a3, a4⟩ := ca.2 u hu hj
            have g : ∀ c j : Int, 47 ≤ c → ¬ c = 47 + 2 * (s : Int) + 1 → ¬ c = 47 + 2 * (s : Int) → mG m2 c j = mG M c j := fun c j c0 c1 c2 => f2 c j (by omega) (by omega) (by omega) c1 (fun w => c2 w.1)
            exact ⟨a1, a2, a3, fun ps' t1 t2 => (a4 ps' (t1.fl' fl2 a2) t2).kp (fun j => g _ j (by omega) (by omega) (by omega)) (fun j => g _ j (by omega) (by omega) (by omega))⟩
        · show jb m2 s = true
          rw [jb2, decide_eq_true rfl, Bool.or_true]
        · show jb m2 u = true
          rw [jbe] at hu
          rw [jb2, hu]; rfl
      · refine p_gFc (ji := 0) rfl h0.1 (p_gFc (ji := 1) rfl km.c2_1 (p_gFc (ji := 0) rfl km.c2_0 (p_gFc (ji := 0) rfl km.c3_0 (p_gK ?_))))
        have a64 : a < 64 := by omega
        have si : ∀ ps' : List Row, TT ps' t M → ty S.nr S.k1 S.k2 [(0, 255)] ps' → _ := fun ps' t1 t2 => q_soInWord (s := 4) (t := t) (a := a) ok n12 ⟨Or.inl rfl, h169⟩ km (sh.fl fl) (t1.fl fl h169) t2 a64
        refine p_call (P := fun q => (InLL q.1 ∧ FQ m1 q.2) ∧ ∀ ps' : List Row, TT ps' t M → ty S.nr S.k1 S.k2 [(0, 255)] ps' → ∀ b : Nat, b < 64 → lb q.1 b = TMw S ps' (64 * a + b)) (fun q e => ?_) (fun v m2 y => ?_)
        · have z := si ps tt hty q e
          exact ⟨⟨z.1.1, z.2⟩, fun ps' t1 t2 => (si ps' t1 t2 q e).1.2⟩
        obtain ⟨⟨y1, y2⟩, y3⟩ := y
        replace y1 : InLL v := y1
        replace y2 : FQ m1 m2 := y2
        replace y3 : ∀ ps' : List Row, TT ps' t M → ty S.nr S.k1 S.k2 [(0, 255)] ps' → ∀ b : Nat, b < 64 → lb v b = TMw S ps' (64 * a + b) := y3
        refine p_aS (fun m3 h3' => ?_)
        rw [wI_s (p := a) (by omega)]
        have g3 : ∀ c j : Int, ¬ (20 ≤ c ∧ c ≤ 23) → ¬ c = 47 + 2 * (s : Int) + 1 → mG m3 c j = mG m1 c j := fun c j x y => (st_ne h3' (fun w => y w.1)).trans (y2 c j (fun w => x (by omega)) (fun w => x (by omega)))
        refine ih (a + 1) m3 (by omega) (fun c j x y z u v => ?_) ((g3 2 4 (by omega) (by omega)).trans h4) ⟨(g3 _ 0 (by omega) (by omega)).trans h0.1, (g3 _ 1 (by omega) (by omega)).trans h0.2.1, (g3 _ 2 (by omega) (by omega)).trans h0.2.2⟩ (fun ps' t1 t2 => ?_)
        · rw [st_ne h3' (fun w => u w.1), y2 c j x y]
          exact fr c j x y z u v
        · have w0 : WH (47 + 2 * (s : Int)) S.nf (fun _ => false) (TMw S ps') a m2 := fun x hx => by
            rw [y2 _ _ (fun w => by omega) (fun w => by omega)]
            exact wh ps' t1 t2 x hx
          exact w0.st h3' y1 (y3 ps' t1 t2)
  unfold mX4_truth
  refine p_gFc (ji := 3) rfl k2.c2_3 (p_aGc w1 (p_it0 (by omega) (p_gFc (ji := 4) rfl hJ (p_if (fun c => ?_) (fun c => ?_)))))
  · refine p_gFc (ji := 0) rfl k2.c2_0 (p_gFc (ji := 0) rfl k2.c3_0 (p_gFc (ji := 7) rfl sh.1.2.2.2.2.2.2.2 (p_gK (p_call (q_takeNone (l := 47 + 2 * (s : Int)) ⟨nf.1, n12⟩ w2) (fun _ m y => ?_)))))
    obtain ⟨y1, y2⟩ := y
    replace y1 : WS (47 + 2 * (s : Int)) S.nf (fun _ => false) m := y1
    replace y2 : FW (47 + 2 * (s : Int)) M m := y2
    exact loop FU 0 m (by omega) (fun c j _ _ _ x y => y2 c j x y) ((y2 2 4 (by omega) (by omega)).trans hJ) y1.1 (fun ps' _ _ => y1.wh)
  · unfold mX4_truth_90
    have hb : jb M s = true := by
      rw [jbe]
      cases e : J.testBit s with
      | true => rfl
      | false => exact absurd ((ibit (by omega) (by omega)).mpr e) c
    rw [hQ]
    refine p_ret ⟨rfl, ca, ?_, ⟨hb, fun u hu => hu⟩, fun c j _ _ _ _ _ => rfl⟩
    have := (ca.2 s hs hb).2.2.2
    rw [ht] at this
    exact this ps tt hty
/-- the stories of the view, as bits -/
def vwb (M : Mem) : Nat := bitsOf (vwf (vdy (mG M 3 13) (mG M 3 14)) (mG M 15) (mG M 16)) (mG M 3 11).toNat
def stw (S : SH) (P : Nat → List Row) (vw : Nat) (w : Nat) (s : Nat) : Bool := !vw.testBit s || TMw S (P s) w
/-- the worlds -/
def WDw (S : SH) (P : Nat → List Row) (vw : Nat) (kq : Int → Int) (w : Nat) : Bool := PKq S.nf kq S.nf.toNat w && allb (stw S P vw w) 8
theorem vwb_fl {M M' : Mem} (k : FLK M M') : vwb M' = vwb M := by
  unfold vwb
  rw [k 3 13 (nq_0 (by omega)), k 3 14 (nq_0 (by omega)), k 3 11 (nq_0 (by omega)), show mG M' 15 = mG M 15 from funext (fun j => k 15 j (nq_0 (by omega))), show mG M' 16 = mG M 16 from funext (fun j => k 16 j (nq_0 (by omega)))]
def LK (S : SH) (P : Nat → List Row) (vw : Nat) (kq : Int → Int) (M m : Mem) : Prop := WS 32 S.nf (PKq S.nf kq S.nf.toNat) m ∧ WS 34 S.nf (WDw S P vw kq) m ∧ CA S m ∧ (∀ s : Nat, s < 8 → vw.testBit s = true → jb m s = true) ∧ FLK M m
/-- the texts that are told -/
def TXP (S : SH) (P : Nat → List Row) (M : Mem) : Prop := ∀ s : Nat, (s : Int) < mG M 3 11 → 169 < mG M 14 (s : Int) ∧ TT (P s) (mG M 14 (s : Int)) M ∧ ty S.nr S.k1 S.k2 [(0, 255)] (P s)
theorem TXP.fl {P : Nat → List Row} {M M' : Mem} (h : TXP S P M) (k : FLK M M') : TXP S P M' := fun s hs => by
  rw [k 3 11 (nq_0 (by omega))] at hs
  obtain ⟨a, b, c⟩ := h s hs
  rw [k 14 _ (nq_0 (by omega))]
  exact ⟨a, b.fl k a, c⟩
theorem q_canTell (k2 : K2 M) (sh : SHC S 4 M) : pw (mX4_canTell 2 M) (fun q => q.2 = M ∧ ((12 < S.nf ∧ q.1 = 0) ∨ (S.nf ≤ 12 ∧ q.1 = 1))) := by
  unfold mX4_canTell
  exact p_gFc (ji := 0) rfl k2.c2_0 (p_gFc (ji := 0) rfl k2.c3_0 (p_gFc (ji := 7) rfl sh.1.2.2.2.2.2.2.2 (p_if (fun c => p_ret ⟨rfl, Or.inl ⟨c, rfl⟩⟩) (fun c => p_ret ⟨rfl, Or.inr ⟨by omega, rfl⟩⟩))))
theorem q_lookUp {P : Nat → List Row} {kq : Int → Int} (ok : S.ok) (k2 : K2 M) (sh : SHC S 4 M) (ca : CA S M) (hn : 0 ≤ mG M 3 11 ∧ mG M 3 11 ≤ 8) (hP : TXP S P M) (hq : ∀ p, kq p = -1 ∨ kq p = 0 ∨ kq p = 1) (kn : ∀ r i j : Int, (0 ≤ r ∧ r < S.nr) → (0 ≤ i ∧ i < S.zv (S.k1 r)) → (0 ≤ j ∧ j < S.zv (S.k2 r)) → ∀ m, FW 32 M m → K2 m → pw (mX6_knownOf 3 r i j m) (fun q => q.2 = m ∧ q.1 = kq (S.at' r i j))) : pw (mX4_lookUp 2 M) (fun q => (12 < S.nf ∧ q.1 = 0 ∧ q.2 = M) ∨ (S.nf ≤ 12 ∧ q.1 = 1 ∧ LK S P (vwb M) kq M q.2)) := by
  have nf := ok.nf
  obtain ⟨Q, hQ⟩ : ∃ Q : Int × Mem → Prop, Q = fun q => (12 < S.nf ∧ q.1 = 0 ∧ q.2 = M) ∨ (S.nf ≤ 12 ∧ q.1 = 1 ∧ LK S P (vwb M) kq M q.2) := ⟨_, rfl⟩
  rw [← hQ]
  obtain ⟨vw, hvw⟩ : ∃ vw, vw = vwb M := ⟨_, rfl⟩
  rw [← hvw] at hQ
  have vlt : vw < 2 ^ (mG M 3 11).toNat := by rw [hvw]; exact bitsOf_lt _ _
  have v8 : vw < 256 := Nat.lt_of_lt_of_le vlt (Nat.pow_le_pow_right (n := 2) (by decide) (show (mG M 3 11).toNat ≤ 8 by omega))
  have vin : ∀ s : Nat, vw.testBit s = true → (s : Int) < mG M 3 11 := fun s h => by
    have : s < (mG M 3 11).toNat := by
      apply Classical.byContradiction
      intro h2
      have := Nat.testBit_lt_two_pow (Nat.lt_of_lt_of_le vlt (Nat.pow_le_pow_right (n := 2) (by decide) (show (mG M 3 11).toNat ≤ s by omega)))
      rw [h] at this
      cases this
    omega
  unfold mX4_lookUp
  refine p_gK (p_call (q_canTell k2 sh) (fun r m y => ?_))
  obtain ⟨y1, y2⟩ := y
  replace y1 : m = M := y1
  subst y1
  rcases y2 with ⟨z1, z2⟩ | ⟨n12, z2⟩
  · refine p_it1 z2 (p_ret ?_)
    rw [hQ]
    exact Or.inl ⟨z1, rfl, rfl⟩
  have loop : ∀ (fu s : Nat) (m1 : Mem), s ≤ 8 → FLK m m1 → WS 32 S.nf (PKq S.nf kq S.nf.toNat) m1 → CA S m1 → (∀ u : Nat, u < s → vw.testBit u = true → jb m1 u = true) → WS 34 S.nf (fun w => PKq S.nf kq S.nf.toNat w && allb (stw S P vw w) s) m1 → pw (mX4_lookUp_34 fu 2 (vw : Int) (s : Int) m1) Q := by
    intro fu
    induction fu with
    | zero => intro s m1 _ _ _ _ _ _; exact p_none
    | succ fu ih =>
      intro s m1 hs fl w32 ca1 hj w34
      show pw (bX4_lookUp_34 (mX4_lookUp_34 fu) 2 (vw : Int) (s : Int) m1) _
      have km := k2.fl fl
      unfold bX4_lookUp_34
      refine p_if (fun c => p_ret ?_) (fun c => ?_)
      · have e : s = 8 := by omega
        subst e
        rw [hQ]
        exact Or.inr ⟨n12, rfl, w32, w34, ca1, hj, fl⟩
      refine p_if (fun c2 => ?_) (fun c2 => ?_)
      · have f : vw.testBit s = false := (ibit (by omega) (by omega)).mp c2
        unfold mX4_lookUp_69
        rw [wI_s (p := s) (by omega)]
        refine ih (s + 1) m1 (by omega) fl w32 ca1 (fun u hu hv => ?_) (w34.ext (fun w _ => ?_))
        · by_cases e : u = s
          · rw [e, f] at hv; cases hv
          · exact hj u (by omega) hv
        · show (_ && allb _ s) = (_ && (allb _ s && stw S P vw w s))
          have : stw S P vw w s = true := by unfold stw; rw [f]; rfl
          rw [this, Bool.and_true]
      · have f : vw.testBit s = true := by
          cases e : vw.testBit s with
          | true => rfl
          | false => exact absurd ((ibit (by omega) (by omega)).mpr e) c2
        have hin := vin s f
        have h11 : (s : Int) < mG m1 3 11 := by rw [fl 3 11 (nq_0 (by omega))]; exact hin
        obtain ⟨t1, t2, t3⟩ := (hP.fl fl) s h11
        refine p_gFc (ji := 6) rfl km.c2_6 (p_gFc (ji := 0) rfl km.c2_0 (p_gFc (ji := 8) rfl km.c3_8 (p_aGc rfl (p_gK (p_call (q_truth (s := s) (t := mG m1 14 (s : Int)) ok n12 km (sh.fl fl) ca1 (by omega) (by unfold txs; rw [if_neg (by omega)]) t1 (fun _ => h11) t2 t3) (fun v m2 y => ?_))))))
        obtain ⟨y1, y2, y3, ⟨y4, y5⟩, y6⟩ := y
        replace y1 : v = 47 + 2 * (s : Int) := y1
        replace y2 : CA S m2 := y2
        replace y3 : WS (47 + 2 * (s : Int)) S.nf (TMw S (P s)) m2 := y3
        replace y4 : jb m2 s = true := y4
        replace y5 : ∀ u, jb m1 u = true → jb m2 u = true := y5
        replace y6 : FTs (47 + 2 * (s : Int)) m1 m2 := y6
        subst y1
        have g2 : ∀ c j : Int, 32 ≤ c → c ≤ 35 → mG m2 c j = mG m1 c j := fun c j c0 c1 => y6 c j (by omega) (by omega) (by omega) (by omega) (by omega)
        have fl2 : FLK m m2 := fl.tr (y6.fl (by omega))
        refine p_gK (p_call (q_keepOnly (l := 34) (l1 := 47 + 2 * (s : Int)) ⟨nf.1, n12⟩ (w34.kp (fun j => g2 34 j (by omega) (by omega)) (fun j => g2 _ j (by omega) (by omega))) y3 ⟨by omega, by omega⟩) (fun _ m3 y => ?_))
        obtain ⟨y7, y8⟩ := y
        replace y8 : FX 35 m2 m3 := y8
        have g3 : ∀ c j : Int, ¬ c = 35 → mG m3 c j = mG m2 c j := fun c j x => y8 c j x
        have fl3 : FLK m2 m3 := y8.fl (Or.inr rfl)
        unfold mX4_lookUp_69
        rw [wI_s (p := s) (by omega)]
        have jm : ∀ u, jb m3 u = jb m2 u := fun u => by unfold jb; rw [g3 2 4 (by omega)]
        refine ih (s + 1) m3 (by omega) (fl2.tr fl3) (w32.kp (fun j => (g3 32 j (by omega)).trans (g2 32 j (by omega) (by omega))) (fun j => (g3 _ j (by omega)).trans (g2 _ j (by omega) (by omega)))) (y2.fl fl3 (g3 2 4 (by omega)) (fun c j c0 c1 => g3 c j (by omega))) (fun u hu hv => ?_) (WS.ext y7 (fun w _ => ?_))
        · rw [jm]
          by_cases e : u = s
          · rw [e]; exact y4
          · exact y5 u (hj u (by omega) hv)
        · show ((_ && allb _ s) && _) = (_ && (allb _ s && stw S P vw w s))
          have : stw S P vw w s = TMw S (P s) w := by unfold stw; rw [f]; rfl
          rw [this, Bool.and_assoc]
  refine p_it0 (by omega) (p_gK (p_call (q_findPossible ok n12 k2 sh hq kn) (fun _ m1 y => ?_)))
  obtain ⟨y1, y2⟩ := y
  replace y1 : WS 32 S.nf (PKq S.nf kq S.nf.toNat) m1 := y1
  replace y2 : FW 32 m m1 := y2
  have fl1 : FLK m m1 := y2.fl (Or.inl rfl)
  have k1 := k2.fl fl1
  refine p_gFc (ji := 6) rfl k1.c2_6 (p_gFc (ji := 5) rfl k1.c2_5 (p_gK (p_call (q_copy (l := 34) (l1 := 32) ⟨nf.1, n12⟩ k1.c34_0 y1 ⟨by decide, by decide, by decide⟩) (fun _ m2 y => ?_))))
  obtain ⟨y3, y4⟩ := y
  replace y3 : WS 34 S.nf (PKq S.nf kq S.nf.toNat) m2 := y3
  replace y4 : FW 34 m1 m2 := y4
  have fl2 : FLK m m2 := fl1.tr (y4.fl (Or.inr rfl))
  have k3 := k2.fl fl2
  have e11 := fl2 3 11 (nq_0 (by omega))
  refine p_gFc (ji := 0) rfl k3.c2_0 (p_gK (p_call (q_viewed k3 (by rw [e11]; exact hn)) (fun v m3 y => ?_)))
  obtain ⟨y5, y6⟩ := y
  replace y5 : m3 = m2 := y5
  replace y6 : v = ((vwb m2 : Nat) : Int) := y6
  subst y5
  rw [vwb_fl fl2, ← hvw] at y6
  subst y6
  have g : ∀ c j : Int, ¬ (32 ≤ c ∧ c ≤ 35) → mG m3 c j = mG m c j := fun c j x => (y4 c j (by omega) (by omega)).trans (y2 c j (by omega) (by omega))
  refine loop FU 0 m3 (by omega) fl2 (y1.kp (fun j => y4 32 j (by omega) (by omega)) (fun j => y4 _ j (by omega) (by omega))) (ca.fl fl2 (g 2 4 (by omega)) (fun c j c0 c1 => g c j (by omega))) (fun u hu => absurd hu (by omega)) (y3.ext (fun w _ => ?_))
  show _ = (_ && true)
  rw [Bool.and_true]
end
end
