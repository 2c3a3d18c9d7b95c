/-! ===== what is told, as both sides see it ===== -/
def bitsOf (P : Nat → Bool) : Nat → Nat
  | 0 => 0
  | k + 1 => bitsOf P k ||| (if P k = true then 2 ^ k else 0)
theorem bitsOf_b (P : Nat → Bool) (i : Nat) : ∀ k : Nat, (bitsOf P k).testBit i = (decide (i < k) && P i) := by
  intro k
  induction k with
  | zero => show (0 : Nat).testBit i = _; rw [Nat.zero_testBit, decide_eq_false (by omega)]; rfl
  | succ k ih =>
    show (bitsOf P k ||| (if P k = true then 2 ^ k else 0)).testBit i = _
    rw [Nat.testBit_or, ih]
    by_cases e : i = k
    · subst e
      rw [decide_eq_false (Nat.lt_irrefl i), decide_eq_true (Nat.lt_succ_self i)]
      cases h : P i with
      | true => rw [if_pos rfl, Nat.testBit_two_pow_self]; rfl
      | false => rw [if_neg (by decide), Nat.zero_testBit]; rfl
    · have z : (if P k = true then 2 ^ k else 0).testBit i = false := by
        split
        · exact Nat.testBit_two_pow_of_ne (fun y => e y.symm)
        · exact Nat.zero_testBit i
      rw [z, Bool.or_false]
      by_cases c : i < k
      · rw [decide_eq_true c, decide_eq_true (show i < k + 1 by omega)]
      · rw [decide_eq_false c, decide_eq_false (show ¬ i < k + 1 by omega)]
theorem bitsOf_lt (P : Nat → Bool) (k : Nat) : bitsOf P k < 2 ^ k := by
  refine Nat.lt_pow_two_of_testBit _ (fun i hi => ?_)
  rw [bitsOf_b, decide_eq_false (by omega)]; rfl
theorem bitsOf_congr {P Q : Nat → Bool} : ∀ k : Nat, (∀ i, i < k → P i = Q i) → bitsOf P k = bitsOf Q k := by
  intro k
  induction k with
  | zero => intro _; rfl
  | succ k ih =>
    intro h
    show (bitsOf P k ||| _) = (bitsOf Q k ||| _)
    rw [ih (fun i hi => h i (by omega)), h k (by omega)]
/-- the day of the view -/
def vdy (d v : Int) : Int := if v = -1 then d else v
/-- a story by the view -/
def vwf (dy : Int) (on st : Int → Int) (s : Nat) : Bool := decide (on (s : Int) ≤ dy) && (decide (st (s : Int) = -1) || decide (dy < st (s : Int)))
/-- what is known last -/
def knf (co is on : Int → Int) (dy : Int) (c : Int → Bool) : Nat → Int
  | 0 => -1
  | k + 1 => if c (co (k : Int)) = true ∧ on (k : Int) ≤ dy then (if is (k : Int) = 0 then 0 else 1) else knf co is on dy c k
theorem knf_congr {co is on co' is' on' : Int → Int} {dy : Int} {c c' : Int → Bool} : ∀ k : Nat, (∀ i : Nat, i < k → c (co (i : Int)) = c' (co' (i : Int)) ∧ is (i : Int) = is' (i : Int) ∧ on (i : Int) = on' (i : Int)) → knf co is on dy c k = knf co' is' on' dy c' k := by
  intro k
  induction k with
  | zero => intro _; rfl
  | succ k ih =>
    intro h
    obtain ⟨h1, h2, h3⟩ := h k (by omega)
    unfold knf
    rw [ih (fun i hi => h i (by omega)), h1, h2, h3]
theorem knf_rg (co is on : Int → Int) (dy : Int) (c : Int → Bool) : ∀ k : Nat, knf co is on dy c k = -1 ∨ knf co is on dy c k = 0 ∨ knf co is on dy c k = 1 := by
  intro k
  induction k with
  | zero => exact Or.inl rfl
  | succ k ih =>
    unfold knf
    split
    · split
      · exact Or.inr (Or.inl rfl)
      · exact Or.inr (Or.inr rfl)
    · exact ih
section
variable {M : Mem}
theorem q_viewedDay (k2 : K2 M) : pw (mX6_viewedDay 3 M) (fun q => q.2 = M ∧ q.1 = vdy (mG M 3 13) (mG M 3 14)) := by
  unfold mX6_viewedDay vdy
  refine p_gFc (ji := 14) rfl rfl (p_if (fun c => p_gFc (ji := 13) rfl rfl (p_ret ⟨rfl, ?_⟩)) (fun c => p_gFc (ji := 14) rfl rfl (p_ret ⟨rfl, ?_⟩)))
  · show mG M 3 13 = _; rw [if_pos c]
  · show mG M 3 14 = _; rw [if_neg c]
theorem q_viewed (k2 : K2 M) (hn : 0 ≤ mG M 3 11 ∧ mG M 3 11 ≤ 8) : pw (mX6_viewedStories 3 M) (fun q => q.2 = M ∧ q.1 = ((bitsOf (vwf (vdy (mG M 3 13) (mG M 3 14)) (mG M 15) (mG M 16)) (mG M 3 11).toNat : Nat) : Int)) := by
  obtain ⟨dy, hdy⟩ : ∃ dy, dy = vdy (mG M 3 13) (mG M 3 14) := ⟨_, rfl⟩
  rw [← hdy]
  have vd := q_viewedDay k2
  rw [← hdy] at vd
  have loop : ∀ (fu k : Nat), (k : Int) ≤ mG M 3 11 → pw (mX6_viewedStories_4 fu 3 ((bitsOf (vwf dy (mG M 15) (mG M 16)) k : Nat) : Int) (k : Int) M) (fun q => q.2 = M ∧ q.1 = ((bitsOf (vwf dy (mG M 15) (mG M 16)) (mG M 3 11).toNat : Nat) : Int)) := by
    intro fu
    induction fu with
    | zero => intro k _; exact p_none
    | succ fu ih =>
      intro k hk
      show pw (bX6_viewedStories_4 (mX6_viewedStories_4 fu) 3 _ (k : Int) M) _
      unfold bX6_viewedStories_4
      have bl := bitsOf_lt (vwf dy (mG M 15) (mG M 16)) k
      have pl : 2 ^ k ≤ 2 ^ 8 := Nat.pow_le_pow_right (by decide) (by omega)
      refine p_gFc (ji := 11) rfl rfl (p_if (fun c => p_ret ⟨rfl, ?_⟩) (fun c => ?_))
      · show ((bitsOf (vwf dy (mG M 15) (mG M 16)) k : Nat) : Int) = _
        rw [show (mG M 3 11).toNat = k by omega]
      have skip : vwf dy (mG M 15) (mG M 16) k = false → pw (mX6_viewedStories_64 (mX6_viewedStories_4 fu) 3 ((bitsOf (vwf dy (mG M 15) (mG M 16)) k : Nat) : Int) (k : Int) M) (fun q => q.2 = M ∧ q.1 = ((bitsOf (vwf dy (mG M 15) (mG M 16)) (mG M 3 11).toNat : Nat) : Int)) := fun hf => by
        unfold mX6_viewedStories_64
        rw [wI_s (p := k) (by omega)]
        have i := ih (k + 1) (by omega)
        have e : bitsOf (vwf dy (mG M 15) (mG M 16)) (k + 1) = bitsOf (vwf dy (mG M 15) (mG M 16)) k := by
          show (bitsOf _ k ||| _) = _
          rw [hf, if_neg (by decide), Nat.or_zero]
        rw [e] at i
        exact i
      have take : vwf dy (mG M 15) (mG M 16) k = true → pw (mX6_viewedStories_64 (mX6_viewedStories_4 fu) 3 (ior ((bitsOf (vwf dy (mG M 15) (mG M 16)) k : Nat) : Int) (ishl 1 (k : Int))) (k : Int) M) (fun q => q.2 = M ∧ q.1 = ((bitsOf (vwf dy (mG M 15) (mG M 16)) (mG M 3 11).toNat : Nat) : Int)) := fun hf => by
        unfold mX6_viewedStories_64
        rw [wI_s (p := k) (by omega), ishl1 k (by omega), show (2 : Int) ^ k = ((2 ^ k : Nat) : Int) by simp, ior_nn (by omega) (by omega)]
        have i := ih (k + 1) (by omega)
        have e : bitsOf (vwf dy (mG M 15) (mG M 16)) (k + 1) = bitsOf (vwf dy (mG M 15) (mG M 16)) k ||| 2 ^ k := by
          show (bitsOf _ k ||| _) = _
          rw [hf, if_pos rfl]
        rw [e] at i
        exact i
      have s40 : ∀ z : Int, (z = 0 ↔ (mG M 16 (k : Int) = -1 ∨ dy < mG M 16 (k : Int))) → pw (mX6_viewedStories_40 (mX6_viewedStories_4 fu) 3 ((bitsOf (vwf dy (mG M 15) (mG M 16)) k : Nat) : Int) (k : Int) z M) (fun q => q.2 = M ∧ q.1 = ((bitsOf (vwf dy (mG M 15) (mG M 16)) (mG M 3 11).toNat : Nat) : Int)) := fun z hz => by
        unfold mX6_viewedStories_40
        refine p_gFc (ji := 9) rfl k2.c3_9 (p_aGc rfl (p_gK (p_call vd (fun v m y => ?_))))
        obtain ⟨y1, y2⟩ := y
        replace y1 : m = M := y1
        replace y2 : v = dy := y2
        subst y1; subst y2
        refine p_if (fun c1 => skip ?_) (fun c1 => p_if (fun c2 => take ?_) (fun c2 => skip ?_))
        · unfold vwf; rw [decide_eq_false (by show ¬ mG m 15 (k : Int) ≤ v; omega)]; rfl
        · have := hz.mp c2
          unfold vwf
          rw [decide_eq_true (by show mG m 15 (k : Int) ≤ v; omega)]
          rcases this with w | w
          · rw [decide_eq_true w]; rfl
          · rw [decide_eq_true w, Bool.or_true]; rfl
        · have w : ¬ (mG m 16 (k : Int) = -1 ∨ v < mG m 16 (k : Int)) := fun w => c2 (hz.mpr w)
          unfold vwf
          rw [decide_eq_false (fun e => w (Or.inl e)), decide_eq_false (fun e => w (Or.inr e)), Bool.or_false, Bool.and_false]
      refine p_gFc (ji := 10) rfl k2.c3_10 (p_aGc rfl (p_if (fun c1 => ?_) (fun c1 => ?_)))
      · unfold mX6_viewedStories_39
        exact s40 0 ⟨fun _ => Or.inl c1, fun _ => rfl⟩
      · refine p_gFc (ji := 10) rfl k2.c3_10 (p_aGc rfl (p_gK (p_call vd (fun v m y => ?_))))
        obtain ⟨y1, y2⟩ := y
        replace y1 : m = M := y1
        replace y2 : v = dy := y2
        subst y1; subst y2
        refine p_if (fun c2 => ?_) (fun c2 => s40 1 ⟨fun e => absurd e (by decide), fun e => ?_⟩)
        · unfold mX6_viewedStories_39
          exact s40 0 ⟨fun _ => Or.inr c2, fun _ => rfl⟩
        · rcases e with e | e
          · exact absurd e c1
          · exact absurd e c2
  exact loop FU 0 hn.1
theorem q_knownOf {r i j : Int} (k2 : K2 M) (hn : 0 ≤ mG M 3 18 ∧ mG M 3 18 ≤ 40) (hr : 0 ≤ r ∧ r < 4) (hi : 0 ≤ i ∧ i < 3) (hj : 0 ≤ j ∧ j < 3) : pw (mX6_knownOf 3 r i j M) (fun q => q.2 = M ∧ q.1 = knf (mG M 17) (mG M 18) (mG M 19) (vdy (mG M 3 13) (mG M 3 14)) (fun x => decide (x = 9 * r + 3 * i + j)) (mG M 3 18).toNat) := by
  obtain ⟨dy, hdy⟩ : ∃ dy, dy = vdy (mG M 3 13) (mG M 3 14) := ⟨_, rfl⟩
  rw [← hdy]
  have vd := q_viewedDay k2
  rw [← hdy] at vd
  obtain ⟨F, hF⟩ : ∃ F, F = knf (mG M 17) (mG M 18) (mG M 19) dy (fun x => decide (x = 9 * r + 3 * i + j)) := ⟨_, rfl⟩
  rw [← hF]
  have step : ∀ k : Nat, F (k + 1) = if mG M 17 (k : Int) = 9 * r + 3 * i + j ∧ mG M 19 (k : Int) ≤ dy then (if mG M 18 (k : Int) = 0 then 0 else 1) else F k := fun k => by
    rw [hF]
    show (if decide _ = true ∧ _ then _ else _) = _
    by_cases c : mG M 17 (k : Int) = 9 * r + 3 * i + j
    · by_cases d : mG M 19 (k : Int) ≤ dy
      · exact (if_pos ⟨decide_eq_true c, d⟩).trans (if_pos ⟨c, d⟩).symm
      · exact (if_neg (fun w => d w.2)).trans (if_neg (fun w => d w.2)).symm
    · exact (if_neg (fun w => c (of_decide_eq_true w.1))).trans (if_neg (fun w => c w.1)).symm
  have loop : ∀ (fu k : Nat), (k : Int) ≤ mG M 3 18 → pw (mX6_knownOf_17 fu 3 (9 * r + 3 * i + j) (F k) (k : Int) M) (fun q => q.2 = M ∧ q.1 = F (mG M 3 18).toNat) := by
    intro fu
    induction fu with
    | zero => intro k _; exact p_none
    | succ fu ih =>
      intro k hk
      show pw (bX6_knownOf_17 (mX6_knownOf_17 fu) 3 (9 * r + 3 * i + j) (F k) (k : Int) M) _
      unfold bX6_knownOf_17
      refine p_gFc (ji := 18) rfl rfl (p_if (fun c => p_ret ⟨rfl, ?_⟩) (fun c => ?_))
      · show F k = _
        rw [show (mG M 3 18).toNat = k by omega]
      have go : ∀ v, v = F (k + 1) → pw (mX6_knownOf_69 (mX6_knownOf_17 fu) 3 (9 * r + 3 * i + j) v (k : Int) M) (fun q => q.2 = M ∧ q.1 = F (mG M 3 18).toNat) := fun v hv => by
        unfold mX6_knownOf_69
        rw [wI_s (p := k) (by omega), hv]
        exact ih (k + 1) (by omega)
      refine p_gFc (ji := 15) rfl k2.c3_15 (p_aGc rfl (p_if (fun c1 => ?_) (fun c1 => go _ ?_)))
      · refine p_gFc (ji := 17) rfl k2.c3_17 (p_aGc rfl (p_gK (p_call vd (fun v m y => ?_))))
        obtain ⟨y1, y2⟩ := y
        replace y1 : m = M := y1
        replace y2 : v = dy := y2
        subst y1; subst y2
        refine p_if (fun c2 => go _ ?_) (fun c2 => p_gFc (ji := 16) rfl k2.c3_16 (p_aGc rfl ?_))
        · rw [step, if_neg (fun w => absurd w.2 (by omega))]
        · unfold mX6_knownOf_67
          refine p_if (fun c3 => go _ ?_) (fun c3 => go _ ?_)
          · rw [step, if_pos ⟨c1, by omega⟩, if_pos c3]
          · rw [step, if_pos ⟨c1, by omega⟩, if_neg c3]
      · rw [step, if_neg (fun w => c1 w.1)]
  unfold mX6_knownOf
  refine p_some (fun b hb => ?_)
  rw [wI_id (x := r * 3) (by omega) (by omega), wI_id (x := r * 3 + i) (by omega) (by omega), wI_id (x := (r * 3 + i) * 3) (by omega) (by omega), wI_id (x := (r * 3 + i) * 3 + j) (by omega) (by omega), show (r * 3 + i) * 3 + j = 9 * r + 3 * i + j by omega] at hb
  subst hb
  have l0 := loop FU 0 hn.1
  have f0 : F 0 = -1 := by rw [hF]; rfl
  rw [f0] at l0
  exact l0
end
/-! ===== what the facts can be, as they are known ===== -/
def allb (g : Nat → Bool) : Nat → Bool
  | 0 => true
  | k + 1 => allb g k && g k
theorem allb_t {g : Nat → Bool} : ∀ k : Nat, allb g k = true ↔ ∀ i, i < k → g i = true := by
  intro k
  induction k with
  | zero => exact ⟨fun _ i hi => absurd hi (by omega), fun _ => rfl⟩
  | succ k ih =>
    show (allb g k && g k) = true ↔ _
    rw [Bool.and_eq_true, ih]
    constructor
    · intro h i hi
      by_cases e : i = k
      · rw [e]; exact h.2
      · exact h.1 i (by omega)
    · intro h
      exact ⟨fun i hi => h i (by omega), h k (by omega)⟩
/-- a fact that is as it is known -/
def okp (n : Int) (kq : Int → Int) (w p : Nat) : Bool := decide (kq (p : Int) = -1) || (phw n w (p : Int) == decide (kq (p : Int) = 1))
def PKq (n : Int) (kq : Int → Int) (P : Nat) (w : Nat) : Bool := decide (w < 2 ^ n.toNat) && allb (okp n kq w) P
section
variable {S : SH} {M : Mem}
theorem col_in {r j : Int} (hj : 0 ≤ j ∧ j < S.zv (S.k2 r)) : S.col r j = j := by
  unfold SH.col
  split
  · rename_i h
    unfold SH.zv at hj
    rw [if_pos h] at hj
    omega
  · rfl
theorem q_findPossible {kq : Int → Int} (ok : S.ok) (n12 : S.nf ≤ 12) (k2 : K2 M) (sh : SHC S 4 M) (hq : ∀ p, kq p = -1 ∨ kq p = 0 ∨ kq p = 1) (kn : ∀ r i j : Int, (0 ≤ r ∧ r < S.nr) → (0 ≤ i ∧ i < S.zv (S.k1 r)) → (0 ≤ j ∧ j < S.zv (S.k2 r)) → ∀ m, FW 32 M m → K2 m → pw (mX6_knownOf 3 r i j m) (fun q => q.2 = m ∧ q.1 = kq (S.at' r i j))) : pw (mX4_findPossible 2 M) (fun q => WS 32 S.nf (PKq S.nf kq S.nf.toNat) q.2 ∧ FW 32 M q.2) := by
  have nf := ok.nf
  have n4 := ok.2.1
  obtain ⟨Q, hQ⟩ : ∃ Q : Int × Mem → Prop, Q = fun q => WS 32 S.nf (PKq S.nf kq S.nf.toNat) q.2 ∧ FW 32 M q.2 := ⟨_, rfl⟩
  rw [← hQ]
  have shk : ∀ {m}, FW 32 M m → SHC S 4 m := fun fr => sh.kp (fun c j c0 c1 => fr c j (by omega) (by omega))
  have l21 : ∀ (fu r : Nat) (m : Mem), (r : Int) ≤ S.nr → FW 32 M m → K2 m → WS 32 S.nf (PKq S.nf kq (S.st r).toNat) m → pw (mX4_findPossible_21 fu 2 4 (r : Int) m) Q := by
    intro fu
    induction fu with
    | zero => intro r m _ _ _ _; exact p_none
    | succ fu ih =>
      intro r m hr fr km ws
      show pw (bX4_findPossible_21 (mX4_findPossible_21 fu) 2 4 (r : Int) m) _
      unfold bX4_findPossible_21
      refine p_gFc (ji := 6) rfl (shk fr).1.2.2.2.2.2.2.1 (p_if (fun c => p_ret ?_) (fun c => ?_))
      · have e : S.nr.toNat = r := by omega
        rw [hQ]
        show WS 32 S.nf (PKq S.nf kq S.nf.toNat) m ∧ FW 32 M m
        unfold SH.nf at *
        rw [e] at ws ⊢
        exact ⟨ws, fr⟩
      have hr2 : (r : Int) < S.nr := by omega
      have kk := ok.2.2 (r : Int) (by omega) hr2
      have z1 := ok.zv (k := S.k1 r) (by omega)
      have z2 := ok.zv (k := S.k2 r) kk.2
      have s9 := ok.st9 (r := (r : Int)) (by omega) hr2
      rw [Int.toNat_natCast] at s9
      have st1 : S.st (r + 1) = S.st r + S.zv (S.k1 r) * S.zv (S.k2 r) := rfl
      obtain ⟨h, hh⟩ : ∃ h, h = S.zv (S.k1 r) := ⟨_, rfl⟩
      obtain ⟨z, hz⟩ : ∃ z, z = S.zv (S.k2 r) := ⟨_, rfl⟩
      have zc : z = 1 ∨ z = 2 ∨ z = 3 := by omega
      have hc : h = 1 ∨ h = 2 ∨ h = 3 := by omega
      have l31 : ∀ (fu2 i : Nat) (m : Mem), (i : Int) ≤ h → FW 32 M m → K2 m → WS 32 S.nf (PKq S.nf kq (S.st r + (i : Int) * z).toNat) m → pw (mX4_findPossible_31 (mX4_findPossible_21 fu) fu2 2 4 (r : Int) (i : Int) m) Q := by
        intro fu2
        induction fu2 with
        | zero => intro i m _ _ _ _; exact p_none
        | succ fu2 ih2 =>
          intro i m hi fr km ws
          show pw (bX4_findPossible_31 (mX4_findPossible_21 fu) (mX4_findPossible_31 (mX4_findPossible_21 fu) fu2) 2 4 (r : Int) (i : Int) m) _
          unfold bX4_findPossible_31
          have c5 := ((shk fr).2.2 (r : Int) (by omega) hr2).2.2.2.1
          rw [← hh] at c5
          refine p_gFc (ji := 4) rfl (shk fr).1.2.2.2.2.1 (p_aGc c5 (p_if (fun c2 => ?_) (fun c2 => ?_)))
          · rw [wI_s (p := r) (by omega)]
            refine ih (r + 1) m (by omega) fr km ?_
            have e : (i : Int) = h := by omega
            rw [e, hh, hz] at ws
            rw [st1]; exact ws
          have l44 : ∀ (fu3 j : Nat) (m : Mem), (j : Int) ≤ z → FW 32 M m → K2 m → WS 32 S.nf (PKq S.nf kq (S.st r + (i : Int) * z + (j : Int)).toNat) m → pw (mX4_findPossible_44 (mX4_findPossible_21 fu) (mX4_findPossible_31 (mX4_findPossible_21 fu) fu2) fu3 2 4 (r : Int) (i : Int) (j : Int) m) Q := by
            intro fu3
            induction fu3 with
            | zero => intro j m _ _ _ _; exact p_none
            | succ fu3 ih3 =>
              intro j m hj fr km ws
              show pw (bX4_findPossible_44 (mX4_findPossible_21 fu) (mX4_findPossible_31 (mX4_findPossible_21 fu) fu2) (mX4_findPossible_44 (mX4_findPossible_21 fu) (mX4_findPossible_31 (mX4_findPossible_21 fu) fu2) fu3) 2 4 (r : Int) (i : Int) (j : Int) m) _
              unfold bX4_findPossible_44
              have c6 := ((shk fr).2.2 (r : Int) (by omega) hr2).2.2.2.2
              rw [← hz] at c6
              refine p_gFc (ji := 5) rfl (shk fr).1.2.2.2.2.2.1 (p_aGc c6 (p_if (fun c3 => ?_) (fun c3 => ?_)))
              · rw [wI_s (p := i) (by omega)]
                refine ih2 (i + 1) m (by omega) fr km ?_
                have e : S.st r + (i : Int) * z + (j : Int) = S.st r + ((i + 1 : Nat) : Int) * z := by
                  rw [show (j : Int) = z by omega, show ((i + 1 : Nat) : Int) = (i : Int) + 1 by omega, Int.add_mul]; omega
                rw [e] at ws; exact ws
              have i3 : (i : Int) < h := by omega
              have j3 : (j : Int) < z := by omega
              have cj : S.col (r : Int) (j : Int) = (j : Int) := col_in ⟨by omega, by rw [← hz]; exact j3⟩
              have hin : S.inr (r : Int) (i : Int) (j : Int) := ⟨⟨by omega, by rw [← hh]; exact i3⟩, by rw [cj]; omega, by rw [cj, ← hz]; exact j3⟩
              have eat : S.at' (r : Int) (i : Int) (j : Int) = S.st r + (i : Int) * z + (j : Int) := by
                unfold SH.at'
                rw [cj, ← hz, Int.mul_comm, Int.toNat_natCast]
              have pos := ok.pos (i := (i : Int)) (j := (j : Int)) (by omega) hr2 hin
              rw [eat, Int.toNat_natCast] at pos
              obtain ⟨p, hp⟩ := Int.eq_ofNat_of_zero_le (show 0 ≤ S.st r + (i : Int) * z + (j : Int) by omega)
              have sj : (S.st r + (i : Int) * z + ((j + 1 : Nat) : Int)).toNat = p + 1 := by omega
              have i3' := ih3 (j + 1)
              rw [sj] at i3'
              rw [hp, Int.toNat_natCast] at ws
              have fin : ∀ m : Mem, FW 32 M m → K2 m → WS 32 S.nf (PKq S.nf kq (p + 1)) m → pw (mX4_findPossible_104 (mX4_findPossible_21 fu) (mX4_findPossible_31 (mX4_findPossible_21 fu) fu2) (mX4_findPossible_44 (mX4_findPossible_21 fu) (mX4_findPossible_31 (mX4_findPossible_21 fu) fu2) fu3) 2 4 (r : Int) (i : Int) (j : Int) m) Q := fun m fr km ws => by
                unfold mX4_findPossible_104
                rw [wI_s (p := j) (by omega)]
                exact i3' m (by omega) fr km ws
              refine p_gFc (ji := 0) rfl km.c2_0 (p_gK (p_call (kn (r : Int) (i : Int) (j : Int) ⟨by omega, hr2⟩ hin.1 ⟨by omega, by rw [← hz]; exact j3⟩ m fr km) (fun v m1 y => ?_)))
              obtain ⟨y1, y2⟩ := y
              replace y1 : m1 = m := y1
              replace y2 : v = kq (S.at' (r : Int) (i : Int) (j : Int)) := y2
              subst y1
              rw [eat, hp] at y2
              refine p_if (fun c4 => fin m1 fr km (ws.ext (fun w _ => ?_))) (fun c4 => ?_)
              · show (_ && allb _ p) = (_ && (allb _ p && okp S.nf kq w p))
                have : okp S.nf kq w p = true := by unfold okp; rw [← y2, decide_eq_true c4]; rfl
                rw [this, Bool.and_true]
              · refine p_gFc (ji := 5) rfl km.c2_5 (p_gK (p_call (q_place (r := (r : Int)) (i := (i : Int)) (j := (j : Int)) ok (shk fr)) (fun pl m2 y => ?_)))
                obtain ⟨y3, y4⟩ := y
                replace y3 : m2 = m1 := y3
                subst y3
                have y5 : pl = (p : Int) := by
                  rcases y4 with y4 | y4
                  · have e : pl = S.at' (r : Int) (i : Int) (j : Int) := y4.2.2
                    rw [e, eat, hp]
                  · exact absurd ⟨⟨by omega, hr2⟩, hin⟩ y4.1
                subst y5
                refine p_gK (p_call (q_bit (p := (p : Int)) (shk fr) ok (by omega)) (fun bt m3 y => ?_))
                obtain ⟨y6, y7⟩ := y
                replace y6 : m3 = m2 := y6
                replace y7 : bt = S.nf - 1 - (p : Int) := y7
                subst y6; subst y7
                have s101 : ∀ b : Bool, decide (v = 1) = b → pw (mX4_findPossible_101 (mX4_findPossible_21 fu) (mX4_findPossible_31 (mX4_findPossible_21 fu) fu2) (mX4_findPossible_44 (mX4_findPossible_21 fu) (mX4_findPossible_31 (mX4_findPossible_21 fu) fu2) fu3) 2 4 (r : Int) (i : Int) (j : Int) 32 (S.nf - 1 - (p : Int)) (b2i b) m3) Q := fun b hb => by
                  unfold mX4_findPossible_101
                  refine p_gK (p_call (q_keepWhere (v := b) ⟨nf.1, n12⟩ ws (by omega)) (fun _ m4 y => ?_))
                  obtain ⟨y8, y9⟩ := y
                  have fr4 : FX 33 m3 m4 := y9
                  refine fin m4 (fr.tr (FX.fw (l := 32) fr4)) (km.fx fr4 (by decide)) (WS.ext y8 (fun w _ => ?_))
                  show ((_ && allb _ p) && _) = (_ && (allb _ p && okp S.nf kq w p))
                  have : okp S.nf kq w p = (w.testBit (S.nf - 1 - (p : Int)).toNat == b) := by
                    unfold okp phw
                    rw [← y2, decide_eq_false c4, hb]; rfl
                  rw [this, Bool.and_assoc]
                refine p_if (fun c5 => s101 true (decide_eq_true c5)) (fun c5 => s101 false (decide_eq_false c5))
          exact l44 FU 0 m (by omega) fr km (by rw [show S.st r + (i : Int) * z + ((0 : Nat) : Int) = S.st r + (i : Int) * z by omega]; exact ws)
      exact l31 FU 0 m (by omega) fr km (by rw [show S.st r + ((0 : Nat) : Int) * z = S.st r by omega]; exact ws)
  unfold mX4_findPossible
  refine p_gFc (ji := 0) rfl k2.c2_0 (p_gFc (ji := 0) rfl k2.c3_0 (p_gFc (ji := 5) rfl k2.c2_5 (p_gFc (ji := 7) rfl sh.1.2.2.2.2.2.2.2 (p_gK (p_call (q_takeAll (l := 32) ⟨nf.1, n12⟩ k2.c32_0) (fun _ m y => ?_))))))
  obtain ⟨y1, y2⟩ := y
  refine l21 FU 0 m (by omega) y2 (k2.fw y2 (by decide)) (WS.ext y1 (fun w _ => ?_))
  show decide (w < 2 ^ S.nf.toNat) = (decide (w < 2 ^ S.nf.toNat) && true)
  rw [Bool.and_true]
end
