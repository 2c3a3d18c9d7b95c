section
/-! ===== settle ===== -/
/-- the greater number -/
def grt (f : Nat → Bool) (n p : Nat) : Nat := if cfa f n p < ctn f (2 ^ n) - cfa f n p then ctn f (2 ^ n) - cfa f n p else cfa f n p
/-- where it is least, first of all -/
def amn (g : Nat → Nat) : Nat → Int
  | 0 => -1
  | k + 1 => if amn g k = -1 ∨ g k < g (amn g k).toNat then (k : Int) else amn g k
theorem amn_rg (g : Nat → Nat) : ∀ k : Nat, -1 ≤ amn g k ∧ amn g k < (k : Int) ∧ (0 < k → 0 ≤ amn g k) := by
  intro k
  induction k with
  | zero => exact ⟨(by decide : (-1 : Int) ≤ -1), (by decide : (-1 : Int) < ((0 : Nat) : Int)), fun h => absurd h (by decide)⟩
  | succ k ih =>
    unfold amn
    split
    · exact ⟨by omega, by omega, fun _ => by omega⟩
    · rename_i h
      exact ⟨by omega, by omega, fun _ => by
        have := ih.1
        have : ¬ amn g k = -1 := fun e => h (Or.inl e)
        omega⟩
theorem amn_congr {g g' : Nat → Nat} : ∀ k : Nat, (∀ p, p < k → g p = g' p) → amn g k = amn g' k := by
  intro k
  induction k with
  | zero => intro _; rfl
  | succ k ih =>
    intro h
    have e := ih (fun p hp => h p (by omega))
    have r := amn_rg g' k
    unfold amn
    rw [e, h k (by omega)]
    by_cases c : amn g' k = -1
    · rw [if_pos (Or.inl c), if_pos (Or.inl c)]
    · rw [h (amn g' k).toNat (by omega)]
theorem cfa_le (f : Nat → Bool) (n p : Nat) : cfa f n p ≤ ctn f (2 ^ n) := ctn_and_le f (fun w => phw (n : Int) w (p : Int)) _
/-- what is answered of a place -/
def outv (S : SH) (r p g : Nat) (what : Int) : Int := if what = 0 then (r : Int) else if what = 1 then ((p : Int) - S.st r) / S.zv (S.k2 r) else if what = 2 then (if S.k2 r = -1 then -1 else ((p : Int) - S.st r) % S.zv (S.k2 r)) else (g : Int)
def rAt (S : SH) (p r : Nat) : Prop := (r : Int) < S.nr ∧ S.st r ≤ (p : Int) ∧ (p : Int) < S.st (r + 1)
section
variable {S : SH} {M : Mem}
theorem rAt_ex {p : Nat} : ∀ k : Nat, (k : Int) ≤ S.nr → (p : Int) < S.st k → ∃ r, rAt S p r := by
  intro k
  induction k with
  | zero =>
    intro _ h
    have : S.st 0 = 0 := rfl
    omega
  | succ k ih =>
    intro hk h
    by_cases c : (p : Int) < S.st k
    · exact ih (by omega) c
    · exact ⟨k, by omega, by omega, h⟩
theorem st_lt (ok : S.ok) {a b : Nat} (h : a < b) (hb : (b : Int) ≤ S.nr) : S.st (a + 1) ≤ S.st b := by
  have := (ok.mono (a := a + 1) (b - (a + 1)) (by omega)).1
  rw [show a + 1 + (b - (a + 1)) = b by omega] at this
  exact this
theorem rAt_u (ok : S.ok) {p r r' : Nat} (h : rAt S p r) (h' : rAt S p r') : r = r' := by
  obtain ⟨a, b, c⟩ := h
  obtain ⟨a', b', c'⟩ := h'
  apply Classical.byContradiction
  intro hne
  by_cases d : r < r'
  · have := st_lt ok d (by omega); omega
  · have := st_lt ok (show r' < r by omega) (by omega); omega
theorem q_relationAt {s : Int} {p r : Nat} (ok : S.ok) (sh : SHC S s M) (h : rAt S p r) : pw (mX3_relationAt s (p : Int) M) (fun q => q.2 = M ∧ q.1 = (r : Int)) := by
  have n4 := ok.2.1
  obtain ⟨a, b, c⟩ := h
  have loop : ∀ (fu x : Nat), (x : Int) ≤ S.nr → pw (mX3_relationAt_4 fu s (p : Int) (if x ≤ r then (x : Int) - 1 else (r : Int)) (x : Int) M) (fun q => q.2 = M ∧ q.1 = (r : Int)) := by
    intro fu
    induction fu with
    | zero => intro x _; exact p_none
    | succ fu ih =>
      intro x hx
      show pw (bX3_relationAt_4 (mX3_relationAt_4 fu) s (p : Int) _ (x : Int) M) _
      unfold bX3_relationAt_4
      refine p_gFc (ji := 6) rfl sh.1.2.2.2.2.2.2.1 (p_if (fun d => p_ret ⟨rfl, ?_⟩) (fun d => ?_))
      · show (if x ≤ r then (x : Int) - 1 else (r : Int)) = _
        rw [if_neg (by omega)]
      · have e := (sh.2.2 (x : Int) (by omega) (by omega)).2.2.1
        rw [Int.toNat_natCast] at e
        have i := ih (x + 1) (by omega)
        refine p_gFc (ji := 3) rfl sh.1.2.2.2.1 (p_aGc e (p_if (fun d2 => ?_) (fun d2 => ?_)))
        · unfold mX3_relationAt_24
          rw [wI_s (p := x) (by omega)]
          have xr : r < x := by
            apply Classical.byContradiction
            intro hn
            by_cases z : x = r
            · rw [z] at d2; omega
            · have := st_lt ok (show x < r by omega) (by omega)
              have := ok.step (r := x) (by omega)
              omega
          rw [if_neg (by omega)]
          rw [if_neg (by omega)] at i
          exact i
        · unfold mX3_relationAt_24
          rw [wI_s (p := x) (by omega)]
          have xr : x ≤ r := by
            apply Classical.byContradiction
            intro hn
            have := st_lt ok (show r < x by omega) hx
            omega
          by_cases z : x = r
          · rw [if_neg (by omega)] at i
            rw [z] at i ⊢
            exact i
          · rw [if_pos (by omega), show ((x + 1 : Nat) : Int) - 1 = (x : Int) by omega] at i
            exact i
  unfold mX3_relationAt
  have := loop FU 0 (by omega)
  rw [if_pos (Nat.zero_le _)] at this
  exact this
theorem q_firstAt {s : Int} {p r : Nat} (ok : S.ok) (sh : SHC S s M) (h : rAt S p r) : pw (mX3_firstAt s (r : Int) (p : Int) M) (fun q => q.2 = M ∧ q.1 = ((p : Int) - S.st r) / S.zv (S.k2 r)) := by
  have n4 := ok.2.1
  obtain ⟨a, b, c⟩ := h
  obtain ⟨_, _, x3, x4, x5⟩ := sh.2.2 (r : Int) (by omega) a
  rw [Int.toNat_natCast] at x3
  have kk := ok.2.2 (r : Int) (by omega) a
  have z1 := ok.zv (k := S.k1 r) (by omega)
  have z2 := zv_c ok (r := (r : Int)) (by omega) a
  have s9 := ok.st9 (r := (r : Int)) (by omega) a
  rw [Int.toNat_natCast] at s9
  have st1 : S.st (r + 1) = S.st r + S.zv (S.k1 r) * S.zv (S.k2 r) := rfl
  have loop : ∀ (fu i : Nat), (i : Int) < S.zv (S.k1 r) → S.st r + (i : Int) * S.zv (S.k2 r) ≤ (p : Int) → pw (mX3_firstAt_12 fu s (r : Int) (p : Int) (i : Int) M) (fun q => q.2 = M ∧ q.1 = ((p : Int) - S.st r) / S.zv (S.k2 r)) := by
    intro fu
    induction fu with
    | zero => intro i _ _; exact p_none
    | succ fu ih =>
      intro i hi hp
      show pw (bX3_firstAt_12 (mX3_firstAt_12 fu) s (r : Int) (p : Int) (i : Int) M) _
      have mb := mul_b (x := (i : Int) + 1) (y := S.zv (S.k2 r)) (a := 3) (b := 3) (by omega) (by omega) (by omega) (by omega)
      unfold bX3_firstAt_12
      refine p_gFc (ji := 4) rfl sh.1.2.2.2.2.1 (p_aGc x4 (p_it0 (by omega) (p_gFc (ji := 3) rfl sh.1.2.2.2.1 (p_aGc x3 (p_gFc (ji := 5) rfl sh.1.2.2.2.2.2.1 (p_aGc x5 ?_))))))
      rw [wI_id (x := (i : Int) + 1) (by omega) (by omega), wI_id (x := ((i : Int) + 1) * S.zv (S.k2 r)) (by omega) (by omega), wI_id (x := S.st r + ((i : Int) + 1) * S.zv (S.k2 r)) (by omega) (by omega)]
      refine p_if (fun d => ?_) (fun d => p_ret ⟨rfl, ?_⟩)
      · have i1 : (i : Int) + 1 < S.zv (S.k1 r) := by
          apply Classical.byContradiction
          intro hn
          have e : (i : Int) + 1 = S.zv (S.k1 r) := by omega
          rw [e] at d
          omega
        exact ih (i + 1) (by omega) (by rw [show ((i + 1 : Nat) : Int) = (i : Int) + 1 by omega]; exact d)
      · show (i : Int) = _
        generalize S.zv (S.k2 r) = z at *
        rcases z2 with z2 | z2 | z2 <;> subst z2 <;> omega
  unfold mX3_firstAt mX3_hasRelation
  refine p_gK (p_call (P := fun q => q.2 = M ∧ q.1 = 1) ?_ (fun v m y => ?_))
  · refine p_it0 (by omega) (p_gFc (ji := 6) rfl sh.1.2.2.2.2.2.2.1 (p_it0 (by omega) (p_ret ⟨rfl, rfl⟩)))
  · obtain ⟨y1, y2⟩ := y
    replace y1 : m = M := y1
    replace y2 : v = 1 := y2
    subst y1
    exact p_it0 (show ¬ v = 0 by omega) (loop FU 0 (by omega) (by omega))
theorem q_secondAt {s : Int} {p r : Nat} (ok : S.ok) (sh : SHC S s M) (h : rAt S p r) : pw (mX3_secondAt s (r : Int) (p : Int) M) (fun q => q.2 = M ∧ q.1 = if S.k2 r = -1 then -1 else ((p : Int) - S.st r) % S.zv (S.k2 r)) := by
  have n4 := ok.2.1
  have fa := q_firstAt ok sh h
  obtain ⟨a, b, c⟩ := h
  obtain ⟨_, x2, x3, x4, x5⟩ := sh.2.2 (r : Int) (by omega) a
  rw [Int.toNat_natCast] at x3
  have kk := ok.2.2 (r : Int) (by omega) a
  have z1 := ok.zv (k := S.k1 r) (by omega)
  have z2 := zv_c ok (r := (r : Int)) (by omega) a
  have s9 := ok.st9 (r := (r : Int)) (by omega) a
  rw [Int.toNat_natCast] at s9
  have st1 : S.st (r + 1) = S.st r + S.zv (S.k1 r) * S.zv (S.k2 r) := rfl
  have mb := mul_b (x := S.zv (S.k1 r)) (y := S.zv (S.k2 r)) (a := 3) (b := 3) (by omega) (by omega) (by omega) (by omega)
  unfold mX3_secondAt mX3_isOfTwo
  refine p_gK (p_call (P := fun q => q.2 = M ∧ ((S.k2 r = -1 ∧ q.1 = 0) ∨ (¬ S.k2 r = -1 ∧ q.1 = 1))) ?_ (fun v m y => ?_))
  · refine p_it0 (by omega) (p_gFc (ji := 6) rfl sh.1.2.2.2.2.2.2.1 (p_it0 (by omega) (p_gFc (ji := 2) rfl sh.1.2.2.1 (p_aGc x2 (p_if (fun d => p_ret ⟨rfl, Or.inl ⟨d, rfl⟩⟩) (fun d => p_ret ⟨rfl, Or.inr ⟨d, rfl⟩⟩))))))
  · obtain ⟨y1, y2⟩ := y
    replace y1 : m = M := y1
    subst y1
    rcases y2 with ⟨d, e⟩ | ⟨d, e⟩
    · refine p_it1 e (p_ret ⟨rfl, ?_⟩)
      rw [if_pos d]
    · replace e : v = 1 := e
      refine p_it0 (show ¬ v = 0 by omega) (p_gFc (ji := 3) rfl sh.1.2.2.2.1 (p_aGc x3 (p_gK (p_call fa (fun v2 m2 y => ?_)))))
      obtain ⟨y3, y4⟩ := y
      replace y3 : m2 = m := y3
      replace y4 : v2 = ((p : Int) - S.st r) / S.zv (S.k2 r) := y4
      subst y3
      refine p_gFc (ji := 5) rfl sh.1.2.2.2.2.2.1 (p_aGc x5 (p_ret ⟨rfl, ?_⟩))
      rw [if_neg d]
      show wI (wI ((p : Int) - S.st r) - wI (v2 * S.zv (S.k2 r))) = _
      rw [y4, wI_id (x := (p : Int) - S.st r) (by omega) (by omega)]
      generalize S.zv (S.k2 r) = z at *
      rcases z2 with z2 | z2 | z2 <;> subst z2
      · rw [wI_id (x := ((p : Int) - S.st r) / 1 * 1) (by omega) (by omega), wI_id (by omega) (by omega)]; omega
      · rw [wI_id (x := ((p : Int) - S.st r) / 2 * 2) (by omega) (by omega), wI_id (by omega) (by omega)]; omega
      · rw [wI_id (x := ((p : Int) - S.st r) / 3 * 3) (by omega) (by omega), wI_id (by omega) (by omega)]; omega
end
section
variable {M : Mem}
theorem q_greaterAt {n p : Nat} {P : Nat → List Row} {vw : Nat} {F : Int → Int} {m : Mem} (ok : (shp M).ok) (hn : (shp M).nf = (n : Int)) (n12 : n ≤ 12) (hp : p < n) (k2 : K2 M) (sh : SHC (shp M) 4 M) (lk : LK (shp M) P vw F M m) : pw (mX4_greaterAt 2 (p : Int) m) (fun q => q.2 = m ∧ q.1 = ((grt (WDw (shp M) P vw F) n p : Nat) : Int)) := by
  have nf := ok.nf
  obtain ⟨_, w34, _, _, fl⟩ := id lk
  have km := k2.fl fl
  have out : ∀ w, ¬ w < 2 ^ n → WDw (shp M) P vw F w = false := fun w hw => wd_out hn hw
  have cut : ∀ g : Nat → Bool, (∀ w, ¬ w < 2 ^ n → g w = false) → ctn g (64 * uw (shp M).nf) = ctn g (2 ^ n) := fun g hg => by rw [hn]; exact ctn_uw n12 hg
  have p12 : 2 ^ n ≤ 2 ^ 12 := Nat.pow_le_pow_right (n := 2) (by decide) n12
  unfold mX4_greaterAt
  refine p_gFc (ji := 6) rfl km.c2_6 (p_gFc (ji := 0) rfl km.c2_0 (p_gFc (ji := 0) rfl km.c3_0 (p_gK (p_call (q_bit (p := (p : Int)) (sh.fl fl) ok ⟨by omega, by omega⟩) (fun bt m2 y => ?_)))))
  obtain ⟨y3, y4⟩ := y
  replace y3 : m2 = m := y3
  replace y4 : bt = (shp M).nf - 1 - (p : Int) := y4
  subst y3; subst y4
  refine p_gK (p_call (q_countWhere (l := 34) (i := (shp M).nf - 1 - (p : Int)) ⟨nf.1, by omega⟩ w34 (by omega)) (fun r2 m3 y => ?_))
  obtain ⟨y5, y6⟩ := y
  replace y5 : m3 = m2 := y5
  subst y5
  have e6 : r2 = ((cfa (WDw (shp M) P vw F) n p : Nat) : Int) := by
    refine (show r2 = _ from y6).trans ?_
    rw [cut _ (fun w hw => by rw [out w hw]; rfl)]
    unfold cfa phw
    rw [hn]
  refine p_gFc (ji := 6) rfl km.c2_6 (p_gK (p_call (q_count (l := 34) ⟨nf.1, by omega⟩ w34) (fun r3 m4 y => p_ret ?_)))
  obtain ⟨y7, y8⟩ := y
  replace y7 : m4 = m3 := y7
  subst y7
  have e8 : r3 = ((ctn (WDw (shp M) P vw F) (2 ^ n) : Nat) : Int) := (show r3 = _ from y8).trans (by rw [cut _ out])
  have cl := cfa_le (WDw (shp M) P vw F) n p
  have cb := ctn_le (WDw (shp M) P vw F) (2 ^ n)
  refine ⟨rfl, ?_⟩
  show (if r2 < wI (r3 - r2) then wI (r3 - r2) else r2) = _
  rw [e6, e8, wI_id (by omega) (by omega)]
  unfold grt
  by_cases c : cfa (WDw (shp M) P vw F) n p < ctn (WDw (shp M) P vw F) (2 ^ n) - cfa (WDw (shp M) P vw F) n p
  · rw [if_pos c, if_pos (by omega)]; omega
  · rw [if_neg c, if_neg (by omega)]
def STG (S : SH) (f : Nat → Bool) (n : Nat) (what y : Int) : Prop := (¬ (n ≤ 12 ∧ 0 < n ∧ ¬ ctn f (2 ^ n) = 0 ∧ 0 ≤ what ∧ what ≤ 3) ∧ y = -1) ∨ ((n ≤ 12 ∧ 0 < n ∧ ¬ ctn f (2 ^ n) = 0 ∧ 0 ≤ what ∧ what ≤ 3) ∧ ∃ p r : Nat, amn (grt f n) n = (p : Int) ∧ rAt S p r ∧ y = outv S r p (grt f n p) what)
theorem STG.eq {S : SH} {f g : Nat → Bool} {n : Nat} {what y z : Int} (ok : S.ok) (h : ∀ w, w < 2 ^ n → f w = g w) (a : STG S f n what y) (b : STG S g n what z) : y = z := by
  have ec : ctn f (2 ^ n) = ctn g (2 ^ n) := ctn_congr _ h
  have eg : grt f n = grt g n := funext (fun p => by
    have e2 : cfa f n p = cfa g n p := by
      unfold cfa
      exact ctn_congr _ (fun w hw => by rw [h w hw])
    unfold grt
    rw [ec, e2])
  unfold STG at a
  rw [ec, eg] at a
  rcases a with ⟨a1, a2⟩ | ⟨a1, p, r, a2, a3, a4⟩
  · rcases b with ⟨b1, b2⟩ | ⟨b1, _⟩
    · rw [a2, b2]
    · exact absurd b1 a1
  · rcases b with ⟨b1, b2⟩ | ⟨b1, p', r', b2, b3, b4⟩
    · exact absurd a1 b1
    · have ep : p = p' := by omega
      subst ep
      have er := rAt_u ok a3 b3
      subst er
      rw [a4, b4]
theorem q_settle {what : Int} {n : Nat} {P : Nat → List Row} {vw : Nat} {F : Int → Int} (ok : (shp M).ok) (hn : (shp M).nf = (n : Int)) (k2 : K2 M) (sh : SHC (shp M) 4 M) (h1 : mG M 1 0 = 2 ∧ mG M 1 1 = 3) (hl : pw (mX4_lookUp 2 M) (fun q => (12 < n ∧ q.1 = 0 ∧ q.2 = M) ∨ (n ≤ 12 ∧ q.1 = 1 ∧ LK (shp M) P vw F M q.2))) : pw (mX8_settle 1 what M) (fun q => FLK M q.2 ∧ STG (shp M) (WDw (shp M) P vw F) n what q.1) := by
  have nf := ok.nf
  have out : ∀ w, ¬ w < 2 ^ n → WDw (shp M) P vw F w = false := fun w hw => wd_out hn hw
  unfold mX8_settle
  refine p_gFc (ji := 0) rfl h1.1 (p_gK (p_call (P := fun q => (FLK M q.2 ∧ ¬ (n ≤ 12 ∧ 0 < n ∧ ¬ ctn (WDw (shp M) P vw F) (2 ^ n) = 0) ∧ q.1 = -1) ∨ (LK (shp M) P vw F M q.2 ∧ (n ≤ 12 ∧ 0 < n ∧ ¬ ctn (WDw (shp M) P vw F) (2 ^ n) = 0) ∧ q.1 = amn (grt (WDw (shp M) P vw F) n) n)) ?_ (fun v m y => ?_)))
  · unfold mX4_settlingPlace
    refine p_gK (p_call hl (fun v m y => ?_))
    rcases y with ⟨a, b, c⟩ | ⟨a, b, c⟩
    · replace c : m = M := c
      subst c
      exact p_it1 b (p_ret (Or.inl ⟨FLK.rf, fun w => by omega, rfl⟩))
    replace b : v = 1 := b
    have lk : LK (shp M) P vw F M m := c
    obtain ⟨_, w34, _, _, fl⟩ := id lk
    have km := k2.fl fl
    have u := uw_1 n a
    have cut : ctn (WDw (shp M) P vw F) (64 * uw (shp M).nf) = ctn (WDw (shp M) P vw F) (2 ^ n) := by rw [hn]; exact ctn_uw a out
    refine p_it0 (show ¬ v = 0 by omega) (p_gFc (ji := 6) rfl km.c2_6 (p_gK (p_call (q_isNothing (l := 34) ⟨nf.1, by omega⟩ w34) (fun r m1 y => ?_))))
    obtain ⟨y1, y2⟩ := y
    replace y1 : m1 = m := y1
    subst y1
    rcases y2 with ⟨z, e⟩ | ⟨z, e⟩
    · replace e : r = 1 := e
      refine p_it0 (show ¬ r = 0 by omega) (p_ret (Or.inl ⟨fl, fun w => w.2.2 ?_, rfl⟩))
      rw [← cut]
      exact (ctn_0 _).mp z
    · replace e : r = 0 := e
      have nz : ¬ ctn (WDw (shp M) P vw F) (2 ^ n) = 0 := fun h => by
        rw [← cut] at h
        obtain ⟨w, w1, w2⟩ := z
        rw [(ctn_0 _).mpr h w w1] at w2
        cases w2
      have loop : ∀ (fu k : Nat), k ≤ n → pw (mX4_settlingPlace_23 fu 2 (amn (grt (WDw (shp M) P vw F) n) k) (k : Int) m1) (fun q => q.2 = m1 ∧ q.1 = amn (grt (WDw (shp M) P vw F) n) n) := by
        intro fu
        induction fu with
        | zero => intro k _; exact p_none
        | succ fu ih =>
          intro k hk
          show pw (bX4_settlingPlace_23 (mX4_settlingPlace_23 fu) 2 _ (k : Int) m1) _
          have ar := amn_rg (grt (WDw (shp M) P vw F) n) k
          unfold bX4_settlingPlace_23
          refine p_gFc (ji := 0) rfl km.c2_0 (p_gFc (ji := 0) rfl km.c3_0 (p_gFc (ji := 7) rfl (sh.fl fl).1.2.2.2.2.2.2.2 (p_if (fun c => p_ret ⟨rfl, ?_⟩) (fun c => ?_))))
          · rw [show k = n by omega]
          have k1 : k < n := by omega
          have i := ih (k + 1) (by omega)
          have am : amn (grt (WDw (shp M) P vw F) n) (k + 1) = if amn (grt (WDw (shp M) P vw F) n) k = -1 ∨ grt (WDw (shp M) P vw F) n k < grt (WDw (shp M) P vw F) n (amn (grt (WDw (shp M) P vw F) n) k).toNat then (k : Int) else amn (grt (WDw (shp M) P vw F) n) k := rfl
          rw [am] at i
          refine p_if (fun d => ?_) (fun d => ?_)
          · rw [if_pos (Or.inl d)] at i
            unfold mX4_settlingPlace_55 mX4_settlingPlace_57
            rw [wI_s (p := k) (by omega)]
            exact i
          · obtain ⟨x, hx⟩ := Int.eq_ofNat_of_zero_le (show 0 ≤ amn (grt (WDw (shp M) P vw F) n) k by omega)
            rw [hx, Int.toNat_natCast] at i
            rw [hx]
            refine p_gK (p_call (q_greaterAt (p := k) ok hn a k1 k2 sh lk) (fun v1 m2 y => ?_))
            obtain ⟨y1, y2⟩ := y
            replace y1 : m2 = m1 := y1
            replace y2 : v1 = ((grt (WDw (shp M) P vw F) n k : Nat) : Int) := y2
            subst y1
            refine p_gK (p_call (q_greaterAt (p := x) ok hn a (by omega) k2 sh lk) (fun v2 m3 y => ?_))
            obtain ⟨y3, y4⟩ := y
            replace y3 : m3 = m2 := y3
            replace y4 : v2 = ((grt (WDw (shp M) P vw F) n x : Nat) : Int) := y4
            subst y3
            refine p_if (fun d2 => ?_) (fun d2 => ?_)
            · have d2 : v2 ≤ v1 := d2
              rw [if_neg (fun w => by rcases w with w | w <;> omega)] at i
              unfold mX4_settlingPlace_57
              rw [wI_s (p := k) (by omega)]
              exact i
            · have d2 : ¬ v2 ≤ v1 := d2
              rw [if_pos (Or.inr (by omega))] at i
              unfold mX4_settlingPlace_55 mX4_settlingPlace_57
              rw [wI_s (p := k) (by omega)]
              exact i
      refine p_it1 e (p_mono (loop FU 0 (Nat.zero_le _)) (fun q y => ?_))
      obtain ⟨q1, q2⟩ := y
      by_cases n0 : 0 < n
      · exact Or.inr ⟨by rw [q1]; exact lk, ⟨a, n0, nz⟩, q2⟩
      · refine Or.inl ⟨by rw [q1]; exact fl, fun w => n0 w.2.1, ?_⟩
        rw [q2, show n = 0 by omega]; rfl
  · rcases y with ⟨fl, g, e⟩ | ⟨lk, g, e⟩
    · exact p_it1 e (p_ret ⟨fl, Or.inl ⟨fun w => g ⟨w.1, w.2.1, w.2.2.1⟩, rfl⟩⟩)
    · replace e : v = amn (grt (WDw (shp M) P vw F) n) n := e
      replace lk : LK (shp M) P vw F M m := lk
      have fl := lk.2.2.2.2
      have km := k2.fl fl
      have ar := amn_rg (grt (WDw (shp M) P vw F) n) n
      obtain ⟨p, hp⟩ := Int.eq_ofNat_of_zero_le (ar.2.2 g.2.1)
      rw [hp] at e ar
      subst e
      have pn : p < n := by omega
      obtain ⟨r, hr⟩ := rAt_ex (S := shp M) (p := p) (shp M).nr.toNat (by have := ok.2.1; omega) (by
        have : (shp M).nf = (shp M).st (shp M).nr.toNat := rfl
        omega)
      have h13 : mG m 1 1 = 3 := (fl 1 1 (nq_0 (by omega))).trans h1.2
      have h12 : mG m 1 0 = 2 := (fl 1 0 (nq_0 (by omega))).trans h1.1
      have fin : ∀ y : Int, (0 ≤ what ∧ what ≤ 3) → y = outv (shp M) r p (grt (WDw (shp M) P vw F) n p) what → STG (shp M) (WDw (shp M) P vw F) n what y := fun y hw hy => Or.inr ⟨⟨g.1, g.2.1, g.2.2, hw.1, hw.2⟩, p, r, hp, hr, hy⟩
      refine p_it0 (by show ¬ ((p : Nat) : Int) = -1; omega) (p_gFc (ji := 1) rfl h13 (p_gFc (ji := 0) rfl km.c3_0 (p_gK (p_call (q_relationAt ok (sh.fl fl) hr) (fun v m2 y => ?_)))))
      obtain ⟨y1, y2⟩ := y
      replace y1 : m2 = m := y1
      replace y2 : v = (r : Int) := y2
      subst y1; subst y2
      refine p_if (fun c0 => p_ret ⟨fl, fin _ (by omega) ?_⟩) (fun c0 => p_if (fun c1 => ?_) (fun c1 => p_if (fun c2 => ?_) (fun c2 => p_if (fun c3 => ?_) (fun c3 => p_ret ⟨fl, Or.inl ⟨fun w => by omega, rfl⟩⟩))))
      · unfold outv; rw [if_pos c0]
      · refine p_gFc (ji := 1) rfl h13 (p_gFc (ji := 0) rfl km.c3_0 (p_gK (p_call (q_firstAt ok (sh.fl fl) hr) (fun v m3 y => p_ret ?_))))
        obtain ⟨y1, y2⟩ := y
        replace y1 : m3 = m2 := y1
        subst y1
        refine ⟨fl, fin _ (by omega) ((show v = _ from y2).trans ?_)⟩
        unfold outv; rw [if_neg c0, if_pos c1]
      · refine p_gFc (ji := 1) rfl h13 (p_gFc (ji := 0) rfl km.c3_0 (p_gK (p_call (q_secondAt ok (sh.fl fl) hr) (fun v m3 y => p_ret ?_))))
        obtain ⟨y1, y2⟩ := y
        replace y1 : m3 = m2 := y1
        subst y1
        refine ⟨fl, fin _ (by omega) ((show v = _ from y2).trans ?_)⟩
        unfold outv; rw [if_neg c0, if_neg c1, if_pos c2]
      · refine p_gFc (ji := 0) rfl h12 (p_gK (p_call (q_greaterAt (p := p) ok hn g.1 pn k2 sh lk) (fun v m3 y => p_ret ?_)))
        obtain ⟨y1, y2⟩ := y
        replace y1 : m3 = m2 := y1
        subst y1
        refine ⟨fl, fin _ (by omega) ((show v = _ from y2).trans ?_)⟩
        unfold outv; rw [if_neg c0, if_neg c1, if_neg c2]
end
end
section
/-! ===== the reference's settle ===== -/
section
variable {S : SH} {P : Nat → List Row} {M : Mem}
theorem v_settle {what : Int} {n K : Nat} (ok : S.ok) (hn : S.nf = (n : Int)) (rf : RFB S P M) (hK : mG M 138 0 = (K : Int)) : pw (mX9_settle 126 what M) (fun q => STG S (WDr S P K (tvb M) (knR S M) n) n what q.1) := by
  have h8 := rf.2.2.2.1
  have n4 := ok.2.1
  obtain ⟨WD, hWD⟩ : ∃ WD, WD = WDr S P K (tvb M) (knR S M) n := ⟨_, rfl⟩
  rw [← hWD]
  obtain ⟨Q, hQ⟩ : ∃ Q : Int × Mem → Prop, Q = fun q => STG S WD n what q.1 := ⟨_, rfl⟩
  rw [← hQ]
  have bad : ∀ m, ¬ (n ≤ 12 ∧ 0 < n ∧ ¬ ctn WD (2 ^ n) = 0 ∧ 0 ≤ what ∧ what ≤ 3) → pw (some (((-1) : Int), m)) Q := fun m h => by
    rw [hQ]
    exact p_ret (Or.inl ⟨h, rfl⟩)
  unfold mX9_settle
  refine p_pF (ji := 0) rfl (fun m1 h1 => ?_)
  have g1 : ∀ c j : Int, ¬ c = 126 → mG m1 c j = mG M c j := fun c j x => st_ne h1 (fun w => x w.1)
  have k1 : K9 m1 := rf.1.kp (fun j hj => st_ne h1 (fun w => by omega))
  refine p_gK (p_call (v_can ok rf k1 (fun c j x _ _ => g1 c j x)) (fun v m2 y => ?_))
  obtain ⟨rb, y⟩ := y
  rcases y with ⟨z1, z2⟩ | ⟨z1, z2⟩
  · exact p_it1 z2 (bad _ (fun w => by omega))
  replace z2 : v = 1 := z2
  have n12 : n ≤ 12 := by omega
  refine p_it0 (show ¬ v = 0 by omega) (p_gK (p_call (v_manyFacts ok rb.1.1 rb.1.2.1) (fun v m3 y => ?_)))
  obtain ⟨y1, y2⟩ := y
  replace y1 : m3 = m2 := y1
  replace y2 : v = S.nf := y2
  subst y1
  rw [hn] at y2
  subst y2
  refine p_if (fun c => bad _ (fun w => by have c : ((n : Nat) : Int) = 0 := c; omega)) (fun c => ?_)
  have n0 : 0 < n := by have c : ¬ ((n : Nat) : Int) = 0 := c; omega
  refine p_call w_in (fun v m4 y => ?_)
  obtain ⟨e, y⟩ := y
  replace e : m4 = m3 := e
  subst e
  rcases y with ⟨c1, hv⟩ | ⟨c1, hv⟩
  · replace hv : v = 1 := hv
    refine p_it0 (show ¬ v = 0 by omega) (p_gK (p_call (v_countFacts ok hn n12 h8 hK rb) (fun v m5 y => ?_)))
    obtain ⟨⟨d1, d2⟩, k5, sh5, _⟩ := y
    rw [← hWD] at d1 d2
    replace d1 : mG m5 126 57 = ((ctn WD (2 ^ n) : Nat) : Int) := d1
    replace d2 : ∀ f : Nat, f < n → mG m5 164 (f : Int) = ((cfa WD n f : Nat) : Int) := d2
    replace k5 : K9 m5 := k5
    replace sh5 : RSH S m5 := sh5
    have cb := ctn_le WD (2 ^ n)
    have p12 : 2 ^ n ≤ 2 ^ 12 := Nat.pow_le_pow_right (n := 2) (by decide) n12
    refine p_gFc (ji := 57) rfl d1 (p_if (fun c2 => bad _ (fun w => w.2.2.1 (by omega))) (fun c2 => ?_))
    have nz : ¬ ctn WD (2 ^ n) = 0 := by omega
    -- the end: where the best stands
    have l125 : ∀ (fu r : Nat) (p : Nat), (r : Int) < S.nr → amn (grt WD n) n = (p : Int) → S.st r ≤ (p : Int) → pw (mX9_settle_125 fu 126 what (p : Int) ((grt WD n p : Nat) : Int) (r : Int) m5) Q := by
      intro fu
      induction fu with
      | zero => intro r p _ _ _; exact p_none
      | succ fu ih =>
        intro r p hr hp hs
        show pw (bX9_settle_125 (mX9_settle_125 fu) 126 what (p : Int) _ (r : Int) m5) _
        have ar := amn_rg (grt WD n) n
        have kk := ok.2.2 (r : Int) (by omega) hr
        have z2 := zv_c ok (r := (r : Int)) (by omega) hr
        have s9 := ok.st9 (r := (r : Int)) (by omega) hr
        rw [Int.toNat_natCast] at s9
        have e0 := sh5.2.2 r (by omega)
        have e1 := sh5.2.2 (r + 1) (by omega)
        have e2 := (sh5.2.1.2 (r : Int) (by omega) hr).2
        unfold bX9_settle_125
        rw [wI_s (p := r) (by omega)]
        refine p_gFc (ji := 27) rfl k5.c27 (p_aGc e1 (p_if (fun c3 => ?_) (fun c3 => ?_)))
        · have ra : rAt S p r := ⟨hr, hs, c3⟩
          have fin : ∀ (y : Int) (m : Mem), y = outv S r p (grt WD n p) what → pw (some (y, m)) Q := fun y m hy => by
            rw [hQ]
            exact p_ret (Or.inr ⟨⟨n12, n0, nz, c1.1, c1.2⟩, p, r, hp, ra, hy⟩)
          refine p_gFc (ji := 10) rfl k5.c10 (p_aGc e2 (p_gK (p_call (v_sizeOf k5 sh5.1 kk.2) (fun v m6 y => ?_))))
          obtain ⟨y1, y2⟩ := y
          replace y1 : m6 = m5 := y1
          replace y2 : v = S.zv (S.k2 r) := y2
          subst y1; subst y2
          refine p_if (fun c4 => fin _ _ ?_) (fun c4 => p_if (fun c5 => ?_) (fun c5 => p_if (fun c6 => fin _ _ ?_) (fun c6 => ?_)))
          · unfold outv; rw [if_pos c4]
          · refine p_gFc (ji := 27) rfl k5.c27 (p_aGc e0 ?_)
            rw [wI_id (x := (p : Int) - S.st r) (by omega) (by omega)]
            refine p_dQc (idiv_e (by omega) (by omega) (by omega) (by omega)) (fin _ _ ?_)
            unfold outv; rw [if_neg c4, if_pos c5]
          · unfold outv; rw [if_neg c4, if_neg c5, if_neg (by omega)]
          · have w2 : what = 2 := by omega
            refine p_gFc (ji := 10) rfl k5.c10 (p_aGc e2 (p_if (fun c7 => fin _ _ ?_) (fun c7 => ?_)))
            · unfold outv; rw [if_neg c4, if_neg c5, if_pos w2, if_pos c7]
            · refine p_gFc (ji := 27) rfl k5.c27 (p_aGc e0 ?_)
              rw [wI_id (x := (p : Int) - S.st r) (by omega) (by omega)]
              refine p_dMc (irem_e (by omega) (by omega) (by omega) (by omega)) (fin _ _ ?_)
              unfold outv; rw [if_neg c4, if_neg c5, if_pos w2, if_neg c7]
        · have r1 : ((r + 1 : Nat) : Int) < S.nr := by
            apply Classical.byContradiction
            intro hno
            have e : S.nr.toNat = r + 1 := by omega
            have : S.nf = S.st S.nr.toNat := rfl
            rw [e] at this
            omega
          exact ih (r + 1) p r1 hp (by omega)
    have l50 : ∀ (fu f : Nat) (least : Int), f ≤ n → least = (if amn (grt WD n) f = -1 then 0 else ((grt WD n (amn (grt WD n) f).toNat : Nat) : Int)) → pw (mX9_settle_50 fu 126 what (amn (grt WD n) f) least (f : Int) m5) Q := by
      intro fu
      induction fu with
      | zero => intro f least _ _; exact p_none
      | succ fu ih =>
        intro f least hf hl
        show pw (bX9_settle_50 (mX9_settle_50 fu) 126 what _ least (f : Int) m5) _
        have ar := amn_rg (grt WD n) f
        unfold bX9_settle_50
        refine p_gK (p_call (v_manyFacts ok k5 sh5) (fun v m6 y => ?_))
        obtain ⟨y1, y2⟩ := y
        replace y1 : m6 = m5 := y1
        replace y2 : v = S.nf := y2
        subst y1
        rw [hn] at y2
        subst y2
        refine p_if (fun c3 => ?_) (fun c3 => ?_)
        · have e : f = n := by omega
          rw [e] at hl ar ⊢
          obtain ⟨p, hp⟩ := Int.eq_ofNat_of_zero_le (ar.2.2 n0)
          rw [hp, if_neg (by omega), Int.toNat_natCast] at hl
          rw [hp, hl]
          exact l125 FU 0 p (by
            apply Classical.byContradiction
            intro hno
            have e : S.nr.toNat = 0 := by omega
            have : S.nf = S.st S.nr.toNat := rfl
            rw [e] at this
            have : S.st 0 = 0 := rfl
            omega) hp (by
            have : S.st 0 = 0 := rfl
            omega)
        · have f1 : f < n := by omega
          have df := d2 f f1
          have cl := cfa_le WD n f
          have am : amn (grt WD n) (f + 1) = if amn (grt WD n) f = -1 ∨ grt WD n f < grt WD n (amn (grt WD n) f).toNat then (f : Int) else amn (grt WD n) f := rfl
          have s97 : ∀ x : Int, x = ((grt WD n f : Nat) : Int) → pw (mX9_settle_97 (mX9_settle_50 fu) 126 what (amn (grt WD n) f) least (f : Int) x m6) Q := fun x hx => by
            have take : (amn (grt WD n) f = -1 ∨ grt WD n f < grt WD n (amn (grt WD n) f).toNat) → pw (mX9_settle_110 (mX9_settle_50 fu) 126 what (f : Int) x m6) Q := fun h => by
              unfold mX9_settle_110 mX9_settle_116
              rw [wI_s (p := f) (by omega)]
              have i := ih (f + 1) x (by omega)
              rw [am.trans (if_pos h)] at i
              exact i (by rw [if_neg (by omega), Int.toNat_natCast]; exact hx)
            unfold mX9_settle_97
            refine p_if (fun c4 => take (Or.inl c4)) (fun c4 => p_if (fun c5 => ?_) (fun c5 => take (Or.inr ?_)))
            · rw [if_neg c4] at hl
              unfold mX9_settle_116
              rw [wI_s (p := f) (by omega)]
              have i := ih (f + 1) least (by omega)
              have am2 : amn (grt WD n) (f + 1) = amn (grt WD n) f := am.trans (if_neg (fun w => by
                rcases w with w | w
                · exact c4 w
                · omega))
              rw [am2] at i
              exact i (by rw [if_neg c4]; exact hl)
            · rw [if_neg c4] at hl
              omega
          refine p_gFc (ji := 56) rfl k5.c56 (p_aGc df (p_gFc (ji := 57) rfl d1 ?_))
          rw [wI_id (x := 2 * ((cfa WD n f : Nat) : Int)) (by omega) (by omega)]
          refine p_if (fun c4 => p_gFc (ji := 57) rfl d1 (p_gFc (ji := 56) rfl k5.c56 (p_aGc df ?_))) (fun c4 => p_gFc (ji := 56) rfl k5.c56 (p_aGc df (s97 _ ?_)))
          · rw [wI_id (x := ((ctn WD (2 ^ n) : Nat) : Int) - ((cfa WD n f : Nat) : Int)) (by omega) (by omega)]
            refine s97 _ ?_
            unfold grt
            by_cases c5 : cfa WD n f < ctn WD (2 ^ n) - cfa WD n f
            · rw [if_pos c5]; omega
            · rw [if_neg c5]; omega
          · unfold grt
            rw [if_neg (by omega)]
    exact l50 FU 0 0 (Nat.zero_le _) rfl
  · replace hv : v = 0 := hv
    exact p_it1 hv (bad _ (fun w => c1 ⟨w.2.2.2.1, w.2.2.2.2⟩))
end
theorem eq_settle {M : Mem} {what : Int} (h : J3 M) : pw (mX8_settle 1 what M) (fun q1 => pw (mX9_settle 126 what q1.2) (fun q2 => EQ q1 q2)) := by
  obtain ⟨P, n, ok, hn, k2, sh, tp, rf, ve, vlt, h1, hl⟩ := look h
  refine p_mono (q_settle (what := what) ok hn k2 sh h1 hl) (fun q1 y => ?_)
  obtain ⟨fl, y⟩ := y
  obtain ⟨rf2, e1, e2, e3⟩ := rf.f9 fl.f9
  obtain ⟨K, hK⟩ := Int.eq_ofNat_of_zero_le rf.2.2.2.1.1
  have h8 := rf.2.2.2.1
  rw [hK, Int.toNat_natCast] at vlt
  refine p_mono (v_settle (what := what) ok hn rf2 (e3.trans hK)) (fun q2 z => ?_)
  rw [e1, e2, ve] at z
  exact STG.eq ok (fun w hw => wd_eq hn vlt (by omega) hw) y z
theorem j3_settleE {M : Mem} {l1 : Int} (r1 : (-2147483648) ≤ l1 ∧ l1 ≤ 2147483647) (h : J3 M) : wp (mX8_settle 1 l1 M) (fun q1 => wp (mX9_settle 126 l1 q1.2) (fun q2 => J3 q2.2 ∧ EQ q1 q2)) := J3.e (M := M) (j3_settle r1 h) (eq_settle h)
end
section
/-! ===== sets of worlds: one of them, the k-th ===== -/
section
variable {l n : Int} {f : Nat → Bool} {M : Mem}
theorem q_most (hn : 0 ≤ n ∧ n ≤ 12) (h : WS l n f M) : pw (mX7_most l M) (fun q => q.2 = M ∧ q.1 = ((2 ^ n.toNat : Nat) : Int)) := by
  unfold mX7_most
  refine p_gFc (ji := 2) rfl h.1.2.2 (p_ret ⟨rfl, ?_⟩)
  show ishl 1 n = _
  obtain ⟨k, rfl⟩ := Int.eq_ofNat_of_zero_le hn.1
  rw [ishl1 k (by omega), Int.toNat_natCast]; simp
theorem wd_at {w : Nat} (hn : 0 ≤ n ∧ n ≤ 12) (h : w < 2 ^ n.toNat) : w / 64 < uw n ∧ w < 4096 ∧ 64 * (w / 64) + w % 64 = w ∧ ishr (w : Int) 6 = ((w / 64 : Nat) : Int) := by
  have ub := uw_b hn
  have p12 : 2 ^ n.toNat ≤ 2 ^ 12 := Nat.pow_le_pow_right (n := 2) (by decide) (by omega)
  refine ⟨by omega, by omega, by omega, ?_⟩
  have e := ishr_e (x := (w : Int)) (k := 6) (by omega) (by omega) (by decide)
  have e2 : ishr (w : Int) 6 = (w : Int) / 2 ^ 6 := e
  rw [e2, show (2 : Int) ^ 6 = ((64 : Nat) : Int) from rfl]
  exact (Int.natCast_ediv _ _).symm
theorem q_has {w : Nat} (hn : 0 ≤ n ∧ n ≤ 12) (h : WS l n f M) : pw (mX7_has l (w : Int) M) (fun q => q.2 = M ∧ q.1 = b2i (decide (w < 2 ^ n.toNat) && f w)) := by
  unfold mX7_has
  refine p_it0 (by omega) (p_gK (p_call (q_most hn h) (fun v m y => ?_)))
  obtain ⟨y1, y2⟩ := y
  replace y1 : m = M := y1
  replace y2 : v = ((2 ^ n.toNat : Nat) : Int) := y2
  subst y1; subst y2
  refine p_if (fun c => p_ret ⟨rfl, ?_⟩) (fun c => ?_)
  · have c : ((2 ^ n.toNat : Nat) : Int) ≤ (w : Int) := c
    rw [decide_eq_false (by omega)]; rfl
  · have c : ¬ ((2 ^ n.toNat : Nat) : Int) ≤ (w : Int) := c
    have wl : w < 2 ^ n.toNat := by omega
    obtain ⟨a1, a2, a3, a4⟩ := wd_at hn wl
    rw [a4]
    obtain ⟨v1, v2⟩ := h.2 (w / 64) a1
    have v3 := v2 (w % 64) (Nat.mod_lt _ (by decide))
    rw [a3] at v3
    refine p_gFc (ji := 0) rfl h.1.1 (p_aG (fun x hx => ?_))
    rw [hx] at v3
    rw [lshr_mod x a2]
    rw [decide_eq_true wl, Bool.true_and]
    refine p_if (fun d => p_ret ⟨rfl, ?_⟩) (fun d => p_ret ⟨rfl, ?_⟩)
    · rw [← v3, (l_bitc (Nat.mod_lt _ (by decide))).mp d]; rfl
    · have : lb x (w % 64) = true := by
        cases e : lb x (w % 64) with
        | true => rfl
        | false => exact absurd ((l_bitc (Nat.mod_lt _ (by decide))).mpr e) d
      rw [← v3, this]; rfl
theorem q_add {w : Nat} (hn : 0 ≤ n ∧ n ≤ 12) (h : WS l n f M) (wl : w < 2 ^ n.toNat) : pw (mX7_add l (w : Int) M) (fun q => WS l n (fun x => f x || decide (x = w)) q.2 ∧ FX (l + 1) M q.2) := by
  unfold mX7_add
  obtain ⟨a1, a2, a3, a4⟩ := wd_at hn wl
  refine p_it0 (by omega) (p_gK (p_call (q_most hn h) (fun v m y => ?_)))
  obtain ⟨y1, y2⟩ := y
  replace y1 : m = M := y1
  replace y2 : v = ((2 ^ n.toNat : Nat) : Int) := y2
  subst y1; subst y2
  refine p_it0 (show ¬ ((2 ^ n.toNat : Nat) : Int) ≤ (w : Int) by omega) ?_
  rw [a4]
  obtain ⟨v1, v2⟩ := h.2 (w / 64) a1
  refine p_gFc (ji := 0) rfl h.1.1 (p_aG (fun x hx => p_aS (fun m2 h2 => p_ret ⟨⟨⟨(st_ne h2 (fun z => by omega)).trans h.1.1, (st_ne h2 (fun z => by omega)).trans h.1.2.1, (st_ne h2 (fun z => by omega)).trans h.1.2.2⟩, fun a ha => ?_⟩, fun c j z => st_ne h2 (fun y => z y.1)⟩)))
  rw [hx] at v1 v2
  by_cases e : a = w / 64
  · rw [e, st_eq h2]
    refine ⟨lor_L _ _, fun b hb => ?_⟩
    rw [lb_or, v2 b hb, lshl_mod 1 a2, lb_one (w % 64) (Nat.mod_lt _ (by decide)) b hb]
    show (f _ || _) = (f _ || _)
    congr 1
    by_cases c : b = w % 64
    · rw [decide_eq_true c, decide_eq_true (by omega)]
    · rw [decide_eq_false c, decide_eq_false (by omega)]
  · rw [st_ne h2 (fun y => e (by have := y.2; omega))]
    obtain ⟨u1, u2⟩ := h.2 a ha
    refine ⟨u1, fun b hb => ?_⟩
    rw [u2 b hb]
    show f _ = (f _ || _)
    rw [decide_eq_false (fun z => e (by omega)), Bool.or_false]
/-- the k-th of the first N that are so -/
def NTH (f : Nat → Bool) (N : Nat) (k r : Int) : Prop := (r = -1 ∧ ∀ w, w < N → f w = true → ¬ k = ((ctn f w : Nat) : Int)) ∨ (∃ w : Nat, w < N ∧ r = (w : Int) ∧ f w = true ∧ k = ((ctn f w : Nat) : Int))
theorem ctn_mono (f : Nat → Bool) {a : Nat} : ∀ d : Nat, ctn f a ≤ ctn f (a + d) := by
  intro d
  induction d with
  | zero => exact Nat.le_refl _
  | succ d ih =>
    show ctn f a ≤ ctn f (a + d) + (f (a + d)).toNat
    omega
theorem ctn_lt {f : Nat → Bool} {a b : Nat} (h : a < b) (hf : f a = true) : ctn f a < ctn f b := by
  have := ctn_mono f (a := a + 1) (b - (a + 1))
  rw [show a + 1 + (b - (a + 1)) = b by omega, ctn_s, hf] at this
  have : true.toNat = 1 := rfl
  omega
theorem NTH.uniq {f g : Nat → Bool} {N : Nat} {k r r' : Int} (h : ∀ w, w < N → f w = g w) (a : NTH f N k r) (b : NTH g N k r') : r = r' := by
  have ec : ∀ w, w ≤ N → ctn f w = ctn g w := fun w hw => ctn_congr _ (fun x hx => h x (by omega))
  rcases a with ⟨a1, a2⟩ | ⟨w, a1, a2, a3, a4⟩
  · rcases b with ⟨b1, b2⟩ | ⟨x, b1, b2, b3, b4⟩
    · rw [a1, b1]
    · exact absurd (by rw [ec x (by omega)]; exact b4) (a2 x b1 (by rw [h x b1]; exact b3))
  · rcases b with ⟨b1, b2⟩ | ⟨x, b1, b2, b3, b4⟩
    · exact absurd (by rw [← ec w (by omega)]; exact a4) (b2 w a1 (by rw [← h w a1]; exact a3))
    · have : w = x := by
        apply Classical.byContradiction
        intro hne
        rw [← ec x (by omega)] at b4
        by_cases c : w < x
        · have := ctn_lt c a3; omega
        · have := ctn_lt (f := f) (show x < w by omega) (by rw [h x b1]; exact b3); omega
      rw [a2, b2, this]
theorem q_nth {k : Int} (hk : (-2147483648) ≤ k ∧ k ≤ 2147483647) (hn : 0 ≤ n ∧ n ≤ 12) (h : WS l n f M) : pw (mX7_nth l k M) (fun q => q.2 = M ∧ NTH f (2 ^ n.toNat) k q.1) := by
  have p12 : 2 ^ n.toNat ≤ 2 ^ 12 := Nat.pow_le_pow_right (n := 2) (by decide) (by omega)
  obtain ⟨Q, hQ⟩ : ∃ Q : Int × Mem → Prop, Q = fun q => q.2 = M ∧ NTH f (2 ^ n.toNat) k q.1 := ⟨_, rfl⟩
  rw [← hQ]
  have loop : ∀ (fu w : Nat) (left : Int), w ≤ 2 ^ n.toNat → ((0 ≤ k ∧ left = k - ((ctn f w : Nat) : Int)) ∨ (k < 0 ∧ left < 0)) → (∀ u, u < w → f u = true → ¬ k = ((ctn f u : Nat) : Int)) → pw (mX7_nth_4 fu l left (w : Int) M) Q := by
    intro fu
    induction fu with
    | zero => intro w left _ _ _; exact p_none
    | succ fu ih =>
      intro w left hw hl hu
      show pw (bX7_nth_4 (mX7_nth_4 fu) l left (w : Int) M) _
      have cl := ctn_le f w
      unfold bX7_nth_4
      refine p_gK (p_call (q_most hn h) (fun v m y => ?_))
      obtain ⟨y1, y2⟩ := y
      replace y1 : m = M := y1
      replace y2 : v = ((2 ^ n.toNat : Nat) : Int) := y2
      subst y1; subst y2
      refine p_if (fun c => p_ret ?_) (fun c => ?_)
      · have c : ((2 ^ n.toNat : Nat) : Int) ≤ (w : Int) := c
        rw [hQ]
        exact ⟨rfl, Or.inl ⟨rfl, fun u h1 h2 => hu u (by omega) h2⟩⟩
      have c : ¬ ((2 ^ n.toNat : Nat) : Int) ≤ (w : Int) := c
      refine p_if (fun c2 => p_ret ?_) (fun c2 => ?_)
      · rw [hQ]
        refine ⟨rfl, Or.inl ⟨rfl, fun u h1 h2 e => ?_⟩⟩
        by_cases d : u < w
        · exact hu u d h2 e
        · have := ctn_mono f (a := w) (u - w)
          rw [show w + (u - w) = u by omega] at this
          omega
      have hk0 : 0 ≤ k ∧ left = k - ((ctn f w : Nat) : Int) := by
        rcases hl with hl | hl
        · exact hl
        · omega
      refine p_gK (p_call (q_has (w := w) hn h) (fun v m2 y => ?_))
      obtain ⟨y3, y4⟩ := y
      replace y3 : m2 = m := y3
      replace y4 : v = b2i (decide (w < 2 ^ n.toNat) && f w) := y4
      subst y3
      rw [decide_eq_true (show w < 2 ^ n.toNat by omega), Bool.true_and] at y4
      refine p_if (fun d => ?_) (fun d => p_if (fun d2 => p_ret ?_) (fun d2 => ?_))
      · have ff := b2i_0.mp (y4.symm.trans d)
        unfold mX7_nth_33
        rw [wI_s (p := w) (by omega)]
        refine ih (w + 1) left (by omega) (Or.inl ⟨hk0.1, ?_⟩) (fun u h1 h2 => ?_)
        · rw [ctn_s, ff]
          have : false.toNat = 0 := rfl
          omega
        · by_cases e : u = w
          · rw [e, ff] at h2; cases h2
          · exact hu u (by omega) h2
      all_goals
        have ft : f w = true := by
          cases e : f w with
          | true => rfl
          | false => rw [e] at y4; exact absurd y4 d
      · rw [hQ]
        exact ⟨rfl, Or.inr ⟨w, by omega, rfl, ft, by omega⟩⟩
      · unfold mX7_nth_33
        rw [wI_s (p := w) (by omega), wI_id (x := left + (-1)) (by omega) (by omega)]
        refine ih (w + 1) (left + (-1)) (by omega) (Or.inl ⟨hk0.1, ?_⟩) (fun u h1 h2 => ?_)
        · rw [ctn_s, ft]
          have : true.toNat = 1 := rfl
          omega
        · by_cases e : u = w
          · rw [e]; omega
          · exact hu u (by omega) h2
  unfold mX7_nth
  refine loop FU 0 k (Nat.zero_le _) ?_ (fun u hu => absurd hu (by omega))
  by_cases c : 0 ≤ k
  · refine Or.inl ⟨c, ?_⟩
    have : ctn f 0 = 0 := rfl
    omega
  · exact Or.inr ⟨by omega, by omega⟩
end
/-! how many bits an int has -/
def pop16 (x : Nat) : Nat := pop8 (x % 256) + pop8 (x / 256)
def bcN (x : Nat) : Nat :=
  let b9 := x - ((x >>> 1) &&& 1431655765)
  let b23 := (b9 &&& 858993459) + ((b9 >>> 2) &&& 858993459)
  let b33 := (b23 + (b23 >>> 4)) &&& 252645135
  let b40 := b33 + (b33 >>> 8)
  let b47 := b40 + (b40 >>> 16)
  b47 &&& 63
def bB (x : Nat) : Nat := x - ((x >>> 1) &&& 1431655765)
def bC (x : Nat) : Nat := (x &&& 858993459) + ((x >>> 2) &&& 858993459)
def bD (x : Nat) : Nat := (x + (x >>> 4)) &&& 252645135
def bE (x : Nat) : Nat := (x + (x >>> 8) + ((x + (x >>> 8)) >>> 16)) &&& 63
theorem bcN_E (x : Nat) : bcN x = bE (bD (bC (bB x))) := rfl
theorem sp8 (x m : Nat) : x &&& m = 256 * (x / 256 &&& m / 256) + (x % 256 &&& m % 256) := by
  have h1 : (x &&& m) / 256 = x / 256 &&& m / 256 := Nat.and_div_two_pow (n := 8)
  have h2 : (x &&& m) % 256 = x % 256 &&& m % 256 := Nat.and_mod_two_pow (n := 8)
  rw [← h1, ← h2]
  exact (Nat.div_add_mod _ _).symm
theorem bB_t : ∀ a : Nat, a < 256 → ((a / 2) &&& 5592405 = (a >>> 1) &&& 1431655765) ∧ ((a >>> 1) &&& 1431655765 ≤ a) ∧ bB a < 256 ∧ bC (bB a) < 69 ∧ bC (bB a) % 16 < 5 ∧ bD (bC (bB a)) = pop8 a ∧ pop8 a < 9 := by decide +kernel
theorem bB_r : ∀ r : Nat, r < 2 → ∀ b : Nat, b < 256 → (128 * r + b / 2) &&& 85 = (b >>> 1) &&& 1431655765 := by decide +kernel
theorem bC_t : ∀ p : Nat, p < 256 → p &&& 3355443 = p &&& 858993459 ∧ p &&& 51 = p &&& 858993459 ∧ p / 4 &&& 3355443 = (p >>> 2) &&& 858993459 := by decide +kernel
theorem bC_r : ∀ r : Nat, r < 4 → ∀ q : Nat, q < 256 → (64 * r + q / 4) &&& 51 = (q >>> 2) &&& 858993459 := by decide +kernel
theorem bD_t : ∀ p : Nat, p < 69 → (p + p / 16) &&& 986895 = bD p := by decide +kernel
theorem bD_r : ∀ r : Nat, r < 5 → ∀ q : Nat, q < 69 → (16 * r + (q + q / 16)) &&& 15 = bD q := by decide +kernel
theorem bE_t : ∀ u : Nat, u < 9 → ∀ v : Nat, v < 9 → bE (256 * u + v) = v + u := by decide +kernel
theorem bB_s {a b : Nat} (ha : a < 256) (hb : b < 256) : bB (256 * a + b) = 256 * bB a + bB b := by
  have h := sp8 ((256 * a + b) >>> 1) 1431655765
  rw [show ((256 * a + b) >>> 1) / 256 = a / 2 by rw [Nat.shiftRight_eq_div_pow]; omega, show ((256 * a + b) >>> 1) % 256 = 128 * (a % 2) + b / 2 by rw [Nat.shiftRight_eq_div_pow]; omega, show 1431655765 / 256 = 5592405 from rfl, show 1431655765 % 256 = 85 from rfl, (bB_t a ha).1, bB_r (a % 2) (by omega) b hb] at h
  have l1 := (bB_t a ha).2.1
  have l2 := (bB_t b hb).2.1
  show 256 * a + b - ((256 * a + b) >>> 1 &&& 1431655765) = 256 * (a - ((a >>> 1) &&& 1431655765)) + (b - ((b >>> 1) &&& 1431655765))
  rw [h]
  generalize ((a >>> 1) &&& 1431655765) = s at l1 ⊢
  generalize ((b >>> 1) &&& 1431655765) = t at l2 ⊢
  clear h
  omega
theorem bC_s {p q : Nat} (hp : p < 256) (hq : q < 256) : bC (256 * p + q) = 256 * bC p + bC q := by
  have h := sp8 (256 * p + q) 858993459
  have k := sp8 ((256 * p + q) >>> 2) 858993459
  rw [show (256 * p + q) / 256 = p by omega, show (256 * p + q) % 256 = q by omega, show 858993459 / 256 = 3355443 from rfl, show 858993459 % 256 = 51 from rfl, (bC_t p hp).1, (bC_t q hq).2.1] at h
  rw [show ((256 * p + q) >>> 2) / 256 = p / 4 by rw [Nat.shiftRight_eq_div_pow]; omega, show ((256 * p + q) >>> 2) % 256 = 64 * (p % 4) + q / 4 by rw [Nat.shiftRight_eq_div_pow]; omega, show 858993459 / 256 = 3355443 from rfl, show 858993459 % 256 = 51 from rfl, (bC_t p hp).2.2, bC_r (p % 4) (by omega) q hq] at k
  show (256 * p + q &&& 858993459) + ((256 * p + q) >>> 2 &&& 858993459) = 256 * ((p &&& 858993459) + ((p >>> 2) &&& 858993459)) + ((q &&& 858993459) + ((q >>> 2) &&& 858993459))
  rw [h, k]
  generalize (p &&& 858993459) = s
  generalize ((p >>> 2) &&& 858993459) = t
  generalize (q &&& 858993459) = u
  generalize ((q >>> 2) &&& 858993459) = v
  clear h k
  omega
theorem bD_s {p q : Nat} (hp : p < 69) (hq : q < 69) (hr : p % 16 < 5) : bD (256 * p + q) = 256 * bD p + bD q := by
  have h := sp8 (256 * p + q + (256 * p + q) >>> 4) 252645135
  rw [show (256 * p + q + (256 * p + q) >>> 4) / 256 = p + p / 16 by rw [Nat.shiftRight_eq_div_pow]; omega, show (256 * p + q + (256 * p + q) >>> 4) % 256 = 16 * (p % 16) + (q + q / 16) by rw [Nat.shiftRight_eq_div_pow]; omega, show 252645135 / 256 = 986895 from rfl, show 252645135 % 256 = 15 from rfl, bD_t p hp, bD_r (p % 16) hr q hq] at h
  exact h
theorem bcN_t : ∀ a : Nat, a < 256 → ∀ b : Nat, b < 256 → bcN (256 * a + b) = pop8 b + pop8 a := fun a ha b hb => by
  obtain ⟨-, -, a1, a2, a3, a4, a5⟩ := bB_t a ha
  obtain ⟨-, -, b1, b2, b3, b4, b5⟩ := bB_t b hb
  rw [bcN_E, bB_s ha hb, bC_s a1 b1, bD_s a2 b2 a3, a4, b4]
  exact bE_t _ a5 _ b5
theorem iushr_n (x : Nat) (hx : x < 2147483648) (n : Nat) (v : UInt32) (hv : ((Int32.ofInt (n : Int)).toUInt32 &&& Int32.toUInt32 31) = v) (hn : v.toNat % 32 = n) : iushr (x : Int) (n : Int) = ((x >>> n : Nat) : Int) := by
  unfold iushr
  rw [hv]
  have e : ((Int32.ofInt (x : Int)).toUInt32 >>> v).toNat = x >>> n := by
    rw [UInt32.toNat_shiftRight, hn]
    have : (Int32.ofInt (x : Int)).toUInt32.toNat = x := by
      show (Int32.ofInt (x : Int)).toBitVec.toNat = x
      rw [nonneg_bv (by omega) (by omega), Int.toNat_natCast]
    rw [this]
  have l : x >>> n ≤ x := Nat.shiftRight_le x n
  have e2 : ((Int32.ofInt (x : Int)).toUInt32 >>> v).toInt32.toBitVec.toNat = x >>> n := e
  rw [toInt_small _ (by rw [e2]; omega), e2]
theorem q_bc16 {x : Nat} {M : Mem} (hx : x < 65536) : pw (mJ6_bitCount_0f7a4 (x : Int) M) (fun q => q.2 = M ∧ q.1 = ((pop16 x : Nat) : Int)) := by
  have e := bcN_t (x / 256) (by omega) (x % 256) (by omega)
  rw [show 256 * (x / 256) + x % 256 = x by omega] at e
  have s1 : ∀ y : Nat, y < 2147483648 → iushr (y : Int) 1 = ((y >>> 1 : Nat) : Int) := fun y hy => iushr_n y hy 1 1 (by decide +kernel) (by decide +kernel)
  have s2 : ∀ y : Nat, y < 2147483648 → iushr (y : Int) 2 = ((y >>> 2 : Nat) : Int) := fun y hy => iushr_n y hy 2 2 (by decide +kernel) (by decide +kernel)
  have s4 : ∀ y : Nat, y < 2147483648 → iushr (y : Int) 4 = ((y >>> 4 : Nat) : Int) := fun y hy => iushr_n y hy 4 4 (by decide +kernel) (by decide +kernel)
  have s8 : ∀ y : Nat, y < 2147483648 → iushr (y : Int) 8 = ((y >>> 8 : Nat) : Int) := fun y hy => iushr_n y hy 8 8 (by decide +kernel) (by decide +kernel)
  have s16 : ∀ y : Nat, y < 2147483648 → iushr (y : Int) 16 = ((y >>> 16 : Nat) : Int) := fun y hy => iushr_n y hy 16 16 (by decide +kernel) (by decide +kernel)
  have le : ∀ y k : Nat, y >>> k ≤ y := fun y k => Nat.shiftRight_le y k
  have an : ∀ y m : Nat, y &&& m ≤ y := fun y m => Nat.and_le_left
  unfold mJ6_bitCount_0f7a4
  refine p_some (fun b9 h9 => p_some (fun b23 h23 => p_some (fun b33 h33 => p_some (fun b40 h40 => p_some (fun b47 h47 => p_ret ⟨rfl, ?_⟩)))))
  show iand b47 63 = _
  obtain ⟨n9, e9⟩ : ∃ n9, n9 = x - ((x >>> 1) &&& 1431655765) := ⟨_, rfl⟩
  have a1 := an (x >>> 1) 1431655765
  have a2 := le x 1
  rw [s1 x (by omega), show (1431655765 : Int) = ((1431655765 : Nat) : Int) from rfl, iand_c _ _ (by omega) (by decide), wI_id (by omega) (by omega), show (x : Int) - (((x >>> 1) &&& 1431655765 : Nat) : Int) = ((x - ((x >>> 1) &&& 1431655765) : Nat) : Int) by omega, ← e9] at h9
  subst h9
  have l9 : n9 ≤ x := by omega
  obtain ⟨n23, e23⟩ : ∃ n23, n23 = (n9 &&& 858993459) + ((n9 >>> 2) &&& 858993459) := ⟨_, rfl⟩
  have a3 := an n9 858993459
  have a4 := an (n9 >>> 2) 858993459
  have a5 := le n9 2
  rw [s2 n9 (by omega), show (858993459 : Int) = ((858993459 : Nat) : Int) from rfl, iand_c _ _ (by omega) (by decide), iand_c _ _ (by omega) (by decide), ← Int.natCast_add, ← e23, wI_id (by omega) (by omega)] at h23
  subst h23
  obtain ⟨n33, e33⟩ : ∃ n33, n33 = (n23 + (n23 >>> 4)) &&& 252645135 := ⟨_, rfl⟩
  have a6 := le n23 4
  have a7 := an (n23 + (n23 >>> 4)) 252645135
  rw [s4 n23 (by omega), ← Int.natCast_add, wI_id (by omega) (by omega), show (252645135 : Int) = ((252645135 : Nat) : Int) from rfl, iand_c _ _ (by omega) (by decide), ← e33] at h33
  subst h33
  obtain ⟨n40, e40⟩ : ∃ n40, n40 = n33 + (n33 >>> 8) := ⟨_, rfl⟩
  have a8 := le n33 8
  rw [s8 n33 (by omega), ← Int.natCast_add, ← e40, wI_id (by omega) (by omega)] at h40
  subst h40
  obtain ⟨n47, e47⟩ : ∃ n47, n47 = n40 + (n40 >>> 16) := ⟨_, rfl⟩
  have a9 := le n40 16
  rw [s16 n40 (by omega), ← Int.natCast_add, ← e47, wI_id (by omega) (by omega)] at h47
  subst h47
  rw [show (63 : Int) = ((63 : Nat) : Int) from rfl, iand_c _ _ (by omega) (by decide)]
  have : bcN x = n47 &&& 63 := by
    show _ = _
    rw [e47, e40, e33, e23, e9]
    rfl
  rw [← this, e]
  unfold pop16
  omega
end
