/-! ===== facts of the world at hand: tell, fact ===== -/
theorem wn_s (g : Int → Int) (k : Nat) : wn g (k + 1) = 2 * wn g k + (if g (k : Int) = 1 then 1 else 0) := by
  apply Nat.eq_of_testBit_eq
  intro b
  rw [wn_b]
  cases b with
  | zero =>
    have e : ((k + 1 : Nat) : Int) - 1 - ((0 : Nat) : Int) = (k : Int) := by omega
    rw [e, decide_eq_true (show 0 < k + 1 by omega), Bool.true_and, Nat.testBit_zero]
    by_cases c : g (k : Int) = 1
    · rw [if_pos c, decide_eq_true c]; exact (decide_eq_true (by omega)).symm
    · rw [if_neg c, decide_eq_false c]; exact (decide_eq_false (by omega)).symm
  | succ b =>
    have h2 : (2 * wn g k + (if g (k : Int) = 1 then 1 else 0)) / 2 = wn g k := by split <;> omega
    have e : ((k + 1 : Nat) : Int) - 1 - ((b + 1 : Nat) : Int) = (k : Int) - 1 - (b : Int) := by omega
    rw [Nat.testBit_succ, h2, wn_b, e]
    by_cases c : b < k
    · rw [decide_eq_true c, decide_eq_true (show b + 1 < k + 1 by omega)]
    · rw [decide_eq_false c, decide_eq_false (show ¬ b + 1 < k + 1 by omega)]
section
variable {S : SH} {M : Mem} {n : Nat}
/-- the class looks at a fact -/
theorem q_isSo {g : Int → Int} {p : Nat} (ok : S.ok) (hn : S.nf = (n : Int)) (n36 : n ≤ 36) (k2 : K2 M) (sh : SHC S 4 M) (hw : mG M 3 1 = ((wn g n : Nat) : Int)) (hp : p < n) : pw (mX6_isSo 3 (p : Int) M) (fun q => q.2 = M ∧ q.1 = b2i (decide (g (p : Int) = 1))) := by
  unfold mX6_isSo
  refine p_gFc (ji := 1) rfl hw (p_gFc (ji := 0) rfl k2.c3_0 (p_gK (p_call (q_bit (p := (p : Int)) sh ok ⟨by omega, by omega⟩) (fun b m y => ?_))))
  obtain ⟨y1, y2⟩ := y
  replace y1 : m = M := y1
  replace y2 : b = S.nf - 1 - (p : Int) := y2
  subst y1
  rw [hn, show (n : Int) - 1 - (p : Int) = ((n - 1 - p : Nat) : Int) by omega] at y2
  subst y2
  have e : lb ((wn g n : Nat) : Int) (n - 1 - p) = decide (g (p : Int) = 1) := by
    rw [lb_nat _ (by omega), wn_b, decide_eq_true (show n - 1 - p < n by omega), Bool.true_and, show (n : Int) - 1 - ((n - 1 - p : Nat) : Int) = (p : Int) by omega]
  have l := l_bitc (x := ((wn g n : Nat) : Int)) (n := n - 1 - p) (by omega)
  refine p_if (fun c => p_ret ⟨rfl, ?_⟩) (fun c => p_ret ⟨rfl, ?_⟩)
  · rw [← e, l.mp c]; rfl
  · rw [← e]
    cases h : lb ((wn g n : Nat) : Int) (n - 1 - p) with
    | true => rfl
    | false => exact absurd (l.mpr h) c
/-- a fact is told otherwise -/
theorem wn_x {g g' : Int → Int} {p : Nat} (n36 : n ≤ 36) (hp : p < n) (hg : 0 ≤ g (p : Int) ∧ g (p : Int) ≤ 1) (hg' : g' (p : Int) = 1 - g (p : Int)) (e : ∀ f : Int, ¬ f = (p : Int) → g' f = g f) : lxor ((wn g n : Nat) : Int) (lshl 1 ((n - 1 - p : Nat) : Int)) = ((wn g' n : Nat) : Int) := by
  refine l_ext (lxor_L _ _) (nat_L n36 (wn_lt g' n)).1 (fun b hb => ?_)
  rw [lb_xor, lb_nat _ hb, lb_nat _ hb, lb_one _ (by omega) b hb, wn_b, wn_b]
  by_cases c : b = n - 1 - p
  · have ep : (n : Int) - 1 - (b : Int) = (p : Int) := by omega
    rw [ep, decide_eq_true c, decide_eq_true (show b < n by omega), Bool.true_and, Bool.true_and, hg']
    by_cases d : g (p : Int) = 1
    · rw [decide_eq_true d, decide_eq_false (show ¬ 1 - g (p : Int) = 1 by omega)]; rfl
    · rw [decide_eq_false d, decide_eq_true (show 1 - g (p : Int) = 1 by omega)]; rfl
  · rw [decide_eq_false c, Bool.xor_false]
    by_cases d : b < n
    · rw [e ((n : Int) - 1 - (b : Int)) (by omega)]
    · rw [decide_eq_false d]; rfl
end
/-- how many facts there are -/
theorem J4.n {M : Mem} {n : Nat} (h : J4 M) (hn : (shp M).nf = (n : Int)) (sh : SHC (shp M) 4 M) : nfs 0 M = n ∧ n ≤ 36 ∧ W0 n M := by
  have a := nfs_0 h.1.1.1.1.1
  have b := sh.1.2.2.2.2.2.2.2
  have e : nfs 0 M = n := by omega
  refine ⟨e, by omega, ?_⟩
  have := (h.2 0 ⟨by decide, by decide, Or.inl rfl⟩).w0
  rw [e] at this
  exact this
section
variable {M : Mem} {l1 l2 l3 l4 : Int}
theorem q_fact8 (h : J4 M) : pw (mX8_fact 1 l1 l2 l3 M) (fun q => q.2 = M ∧ ((((0 ≤ l1 ∧ l1 < (shp M).nr) ∧ (shp M).inr l1 l2 l3) ∧ q.1 = mG M 137 ((shp M).at' l1 l2 l3)) ∨ (¬ ((0 ≤ l1 ∧ l1 < (shp M).nr) ∧ (shp M).inr l1 l2 l3) ∧ q.1 = -1))) := by
  obtain ⟨P, n, ok, hn, k2, sh, tp, rf, ve, vlt, h1, hl⟩ := look h.1.1
  obtain ⟨en, n36, w0⟩ := h.n hn sh
  unfold mX8_fact
  refine p_gFc (ji := 1) rfl h1.2 (p_gFc (ji := 0) rfl k2.c3_0 (p_gK (p_call (q_place (r := l1) (i := l2) (j := l3) ok sh) (fun v m y => ?_))))
  obtain ⟨y1, y2⟩ := y
  replace y1 : m = M := y1
  subst y1
  rcases y2 with ⟨a, b, c⟩ | ⟨a, c⟩
  · replace c : v = (shp m).at' l1 l2 l3 := c
    have pos := ok.pos a.1 a.2 b
    have s0 := ok.st (r := l1.toNat) (by omega)
    obtain ⟨p, hp⟩ := Int.eq_ofNat_of_zero_le (show 0 ≤ (shp m).at' l1 l2 l3 by omega)
    rw [hp] at c pos
    subst c
    refine p_it0 (show ¬ (p : Int) = -1 by omega) (p_gFc (ji := 1) rfl h1.2 (p_gK (p_call (q_isSo (p := p) ok hn n36 k2 sh w0.1.1 (by omega)) (fun v m2 y => ?_))))
    obtain ⟨y1, y2⟩ := y
    replace y1 : m2 = m := y1
    replace y2 : v = b2i (decide (mG m 137 (p : Int) = 1)) := y2
    subst y1
    have r := rd_Mworld h.1.1.1.1.1 (a := 137) (i := (p : Int)) rfl
    rw [hp]
    refine p_if (fun d => p_ret ⟨rfl, Or.inl ⟨⟨a, b⟩, ?_⟩⟩) (fun d => p_ret ⟨rfl, Or.inl ⟨⟨a, b⟩, ?_⟩⟩)
    · have := of_decide_eq_false (b2i_0.mp (y2.symm.trans d))
      show (0 : Int) = mG m2 137 (p : Int)
      omega
    · show (1 : Int) = mG m2 137 (p : Int)
      by_cases e : mG m2 137 (p : Int) = 1
      · exact e.symm
      · rw [decide_eq_false e] at y2
        exact absurd y2 d
  · exact p_it1 c (p_ret ⟨rfl, Or.inr ⟨a, rfl⟩⟩)
theorem v_fact9 {S : SH} {P : Nat → List Row} {m1 : Mem} (ok : S.ok) (rf : RFB S P m1) (hb : ∀ f : Int, 0 ≤ mG m1 137 f ∧ mG m1 137 f ≤ 1) : pw (mX9_fact 126 l1 l2 l3 m1) (fun q => (((0 ≤ l1 ∧ l1 < S.nr) ∧ S.inr l1 l2 l3) ∧ q.1 = mG m1 137 (S.at' l1 l2 l3)) ∨ (¬ ((0 ≤ l1 ∧ l1 < S.nr) ∧ S.inr l1 l2 l3) ∧ q.1 = -1)) := by
  unfold mX9_fact
  refine p_pF (ji := 0) rfl (fun m2 h2 => ?_)
  have g2 : ∀ c j : Int, ¬ c = 126 → mG m2 c j = mG m1 c j := fun c j x => st_ne h2 (fun w => x w.1)
  have k2 : K9 m2 := rf.1.kp (fun j hj => st_ne h2 (fun w => by omega))
  refine p_gK (p_call (v_toldFact ok k2 (rf.2.1.kp (fun c j hc => g2 c j (by omega)))) (fun v m3 y => ?_))
  obtain ⟨⟨k3, _⟩, fn, y⟩ := y
  replace k3 : K9 m3 := k3
  replace fn : FN m2 m3 := fn
  have g3 : ∀ j : Int, mG m3 137 j = mG m1 137 j := fun j => (fn 137 j (by decide) (by decide)).trans (g2 137 j (by decide))
  rcases y with ⟨a, b, c⟩ | ⟨a, c⟩
  · replace c : v = S.at' l1 l2 l3 := c
    have pos := ok.pos a.1 a.2 b
    have s0 := ok.st (r := l1.toNat) (by omega)
    have r := hb (S.at' l1 l2 l3)
    refine p_it0 (show ¬ v = -1 by omega) (p_gFc (ji := 11) rfl k3.c11 (p_aGc (r := mG m1 137 (S.at' l1 l2 l3)) (by rw [g3]; show mG m1 137 v = _; rw [c]) (p_if (fun d => p_ret (Or.inl ⟨⟨a, b⟩, d.symm⟩)) (fun d => p_ret (Or.inl ⟨⟨a, b⟩, ?_⟩)))))
    show (1 : Int) = _
    omega
  · exact p_it1 c (p_ret (Or.inr ⟨a, rfl⟩))
theorem eq_fact (r1 : (-2147483648) ≤ l1 ∧ l1 ≤ 2147483647) (h : J4 M) : pw (mX8_fact 1 l1 l2 l3 M) (fun q1 => pw (mX9_fact 126 l1 l2 l3 q1.2) (fun q2 => EQ q1 q2)) := by
  obtain ⟨P, n, ok, hn, k2, sh, tp, rf, ve, vlt, h1, hl⟩ := look h.1.1
  have iM := h.1.1.1.1.1
  refine p_mono (q_fact8 h) (fun q1 y => ?_)
  obtain ⟨y1, y2⟩ := y
  rw [y1]
  refine p_mono (v_fact9 (l1 := l1) (l2 := l2) (l3 := l3) ok rf (fun f => rd_Mworld iM (a := 137) (i := f) rfl)) (fun q2 z => ?_)
  show q1.1 = q2.1
  rcases y2 with ⟨a, b⟩ | ⟨a, b⟩
  · rcases z with ⟨c, d⟩ | ⟨c, d⟩
    · rw [b, d]
    · exact absurd a c
  · rcases z with ⟨c, d⟩ | ⟨c, d⟩
    · exact absurd c a
    · rw [b, d]
/-- the class tells a fact -/
theorem q_tell8 (r4 : 0 ≤ l4 ∧ l4 ≤ 1) (h : J4 M) : pw (mX8_tell 1 l1 l2 l3 l4 M) (fun q => (((0 ≤ l1 ∧ l1 < (shp M).nr) ∧ (shp M).inr l1 l2 l3) ∧ ¬ mG M 137 ((shp M).at' l1 l2 l3) = l4 ∧ q.1 = 1 ∧ mG q.2 3 1 = ((wn (fun f => if f = (shp M).at' l1 l2 l3 then l4 else mG M 137 f) (nfs 0 M) : Nat) : Int) ∧ ∀ b j : Int, ¬ (b = 3 ∧ j = 1) → mG q.2 b j = mG M b j) ∨ (¬ (((0 ≤ l1 ∧ l1 < (shp M).nr) ∧ (shp M).inr l1 l2 l3) ∧ ¬ mG M 137 ((shp M).at' l1 l2 l3) = l4) ∧ q.1 = 0 ∧ q.2 = M)) := by
  obtain ⟨P, n, ok, hn, k2, sh, tp, rf, ve, vlt, h1, hl⟩ := look h.1.1
  obtain ⟨en, n36, w0⟩ := h.n hn sh
  rw [en]
  unfold mX8_tell
  refine p_gFc (ji := 1) rfl h1.2 (p_gFc (ji := 0) rfl k2.c3_0 (p_gK (p_call (q_place (r := l1) (i := l2) (j := l3) ok sh) (fun v m y => ?_))))
  obtain ⟨y1, y2⟩ := y
  replace y1 : m = M := y1
  subst y1
  rcases y2 with ⟨a, b, c⟩ | ⟨a, c⟩
  · replace c : v = (shp m).at' l1 l2 l3 := c
    have pos := ok.pos a.1 a.2 b
    have s0 := ok.st (r := l1.toNat) (by omega)
    obtain ⟨p, hp⟩ := Int.eq_ofNat_of_zero_le (show 0 ≤ (shp m).at' l1 l2 l3 by omega)
    rw [hp] at c pos ⊢
    subst c
    have r := rd_Mworld h.1.1.1.1.1 (a := 137) (i := (p : Int)) rfl
    refine p_it0 (show ¬ (p : Int) = -1 by omega) (p_gFc (ji := 1) rfl h1.2 (p_gK (p_call (q_isSo (p := p) ok hn n36 k2 sh w0.1.1 (by omega)) (fun v m2 y => ?_))))
    obtain ⟨y1, y2⟩ := y
    replace y1 : m2 = m := y1
    replace y2 : v = b2i (decide (mG m 137 (p : Int) = 1)) := y2
    subst y1
    have ev : v = mG m2 137 (p : Int) := by
      by_cases e : mG m2 137 (p : Int) = 1
      · rw [y2, decide_eq_true e, e]; rfl
      · rw [y2, decide_eq_false e]
        show (0 : Int) = _
        omega
    subst ev
    refine p_if (fun d => p_ret (Or.inr ⟨fun w => w.2 d, rfl, rfl⟩)) (fun d => ?_)
    replace d : ¬ mG m2 137 (p : Int) = l4 := d
    refine p_gFc (ji := 1) rfl h1.2 (p_gFc (ji := 1) rfl w0.1.1 (p_gFc (ji := 1) rfl h1.2 (p_gFc (ji := 0) rfl k2.c3_0 (p_gK (p_call (q_bit (p := (p : Int)) sh ok ⟨by omega, by omega⟩) (fun u m3 y => ?_))))))
    obtain ⟨z1, z2⟩ := y
    replace z1 : m3 = m2 := z1
    replace z2 : u = (shp m2).nf - 1 - (p : Int) := z2
    subst z1
    rw [hn, show (n : Int) - 1 - (p : Int) = ((n - 1 - p : Nat) : Int) by omega] at z2
    subst z2
    refine p_pF (ji := 1) rfl (fun m4 h4 => p_ret (Or.inl ⟨⟨a, b⟩, d, rfl, ?_, fun b j x => st_ne h4 x⟩))
    rw [wn_x (g := mG m3 137) (g' := fun f => if f = (p : Int) then l4 else mG m3 137 f) n36 (by omega) r (by show (if (p : Int) = (p : Int) then l4 else _) = _; rw [if_pos rfl]; omega) (fun f hf => if_neg hf)] at h4
    exact st_eq h4
  · exact p_it1 c (p_ret (Or.inr ⟨fun w => a w.1, rfl, rfl⟩))
theorem v_tell9 {S : SH} {P : Nat → List Row} {m1 : Mem} (ok : S.ok) (rf : RFB S P m1) : pw (mX9_tell 126 l1 l2 l3 l4 m1) (fun q => ((((0 ≤ l1 ∧ l1 < S.nr) ∧ S.inr l1 l2 l3) ∧ ¬ mG m1 137 (S.at' l1 l2 l3) = l4) ∧ q.1 = 1 ∧ mG q.2 137 (S.at' l1 l2 l3) = l4 ∧ ∀ c j : Int, ¬ c = 126 → ¬ c = 152 → ¬ c = 153 → ¬ (c = 137 ∧ j = S.at' l1 l2 l3) → mG q.2 c j = mG m1 c j) ∨ (¬ (((0 ≤ l1 ∧ l1 < S.nr) ∧ S.inr l1 l2 l3) ∧ ¬ mG m1 137 (S.at' l1 l2 l3) = l4) ∧ q.1 = 0 ∧ ∀ c j : Int, ¬ c = 126 → ¬ c = 152 → ¬ c = 153 → mG q.2 c j = mG m1 c j)) := by
  unfold mX9_tell
  refine p_pF (ji := 0) rfl (fun m2 h2 => ?_)
  have g2 : ∀ c j : Int, ¬ c = 126 → mG m2 c j = mG m1 c j := fun c j x => st_ne h2 (fun w => x w.1)
  have k2 : K9 m2 := rf.1.kp (fun j hj => st_ne h2 (fun w => by omega))
  refine p_gK (p_call (v_toldFact ok k2 (rf.2.1.kp (fun c j hc => g2 c j (by omega)))) (fun v m3 y => ?_))
  obtain ⟨⟨k3, _⟩, fn, y⟩ := y
  replace k3 : K9 m3 := k3
  replace fn : FN m2 m3 := fn
  have g3 : ∀ c j : Int, ¬ c = 126 → ¬ c = 152 → ¬ c = 153 → mG m3 c j = mG m1 c j := fun c j x y z => (fn c j y z).trans (g2 c j x)
  rcases y with ⟨a, b, c⟩ | ⟨a, c⟩
  · replace c : v = S.at' l1 l2 l3 := c
    have pos := ok.pos a.1 a.2 b
    have s0 := ok.st (r := l1.toNat) (by omega)
    have nv : ¬ v = -1 := by omega
    subst c
    refine p_it0 nv (p_gFc (ji := 11) rfl k3.c11 (p_aGc (r := mG m1 137 (S.at' l1 l2 l3)) (g3 137 _ (by decide) (by decide) (by decide)) (p_if (fun d => p_ret (Or.inr ⟨fun w => w.2 d, rfl, g3⟩)) (fun d => p_gFc (ji := 11) rfl k3.c11 (p_aSZ (fun m4 h4 => p_ret (Or.inl ⟨⟨⟨a, b⟩, d⟩, rfl, st_eq h4, fun c j x y z w => (st_ne h4 w).trans (g3 c j x y z)⟩)))))))
  · exact p_it1 c (p_ret (Or.inr ⟨fun w => a w.1, rfl, g3⟩))
theorem kw_tell (r4 : 0 ≤ l4 ∧ l4 ≤ 1) (h : J4 M) : pw (mX8_tell 1 l1 l2 l3 l4 M) (fun q1 => pw (mX9_tell 126 l1 l2 l3 l4 q1.2) (fun q2 => KW q2.2 ∧ EQ q1 q2)) := by
  obtain ⟨P, n, ok, hn, k2, sh, tp, rf, ve, vlt, h1, hl⟩ := look h.1.1
  obtain ⟨en, n36, w0⟩ := h.n hn sh
  have iM := h.1.1.1.1.1
  refine p_mono (q_tell8 r4 h) ?_
  rintro ⟨a, M1⟩ y
  have g1 : ∀ b j : Int, ¬ (b = 3 ∧ j = 1) → mG M1 b j = mG M b j := by
    rcases y with ⟨_, _, _, _, y5⟩ | ⟨_, _, y3⟩
    · exact y5
    · replace y3 : M1 = M := y3
      rw [y3]
      exact fun _ _ _ => rfl
  have rf1 := (rf.f9 (M' := M1) (fun c j c0 _ => g1 c j (by omega))).1
  refine p_mono (v_tell9 (l1 := l1) (l2 := l2) (l3 := l3) (l4 := l4) ok rf1) ?_
  rintro ⟨b, M2⟩ z
  show KW M2 ∧ a = b
  have e137 : ∀ j, mG M1 137 j = mG M 137 j := fun j => g1 137 j (by omega)
  rcases y with ⟨y1, y2, y3, y4, _⟩ | ⟨y1, y2, y3⟩
  · replace y3 : a = 1 := y3
    replace y4 : mG M1 3 1 = ((wn (fun f => if f = (shp M).at' l1 l2 l3 then l4 else mG M 137 f) (nfs 0 M) : Nat) : Int) := y4
    rcases z with ⟨z1, z2, z3, z4⟩ | ⟨z1, _⟩
    · replace z2 : b = 1 := z2
      replace z3 : mG M2 137 ((shp M).at' l1 l2 l3) = l4 := z3
      replace z4 : ∀ c j : Int, ¬ c = 126 → ¬ c = 152 → ¬ c = 153 → ¬ (c = 137 ∧ j = (shp M).at' l1 l2 l3) → mG M2 c j = mG M1 c j := z4
      have pos := ok.pos y1.1.1 y1.1.2 y1.2
      have s0 := ok.st (r := l1.toNat) (by have := y1.1; omega)
      have gg : ∀ c j : Int, ¬ (c = 3 ∧ j = 1) → ¬ c = 126 → ¬ c = 152 → ¬ c = 153 → ¬ (c = 137 ∧ j = (shp M).at' l1 l2 l3) → mG M2 c j = mG M c j := fun c j u x y z w => (z4 c j x y z w).trans (g1 c j u)
      refine ⟨h.2.r0 iM (W0.sw ?_) (fun b j w => gg b j (by omega) (by omega) (by omega) (by omega) (by omega)), by omega⟩
      rw [nfs_e (gg 4 7 (by decide) (by decide) (by decide) (by decide) (by omega)), en]
      rw [en] at y4
      refine ⟨⟨?_, fun f f0 f1 => ?_⟩, fun p p0 p1 hp => ?_⟩
      · rw [z4 3 1 (by decide) (by decide) (by decide) (by omega), y4]
        refine congrArg (fun x : Nat => (x : Int)) (wn_congr (fun f f0 f1 => ?_))
        by_cases e : f = (shp M).at' l1 l2 l3
        · rw [if_pos e, e, z3]
        · rw [if_neg e]
          exact (gg 137 f (by omega) (by decide) (by decide) (by decide) (fun w => e w.2)).symm
      · rw [gg 137 f (by omega) (by decide) (by decide) (by decide) (by omega)]
        exact w0.1.2 f f0 f1
      · rw [gg 12 p (by omega) (by decide) (by decide) (by decide) (by omega)] at hp
        rw [gg 11 p (by omega) (by decide) (by decide) (by decide) (by omega), w0.2 p p0 p1 hp]
        exact congrArg (fun x : Nat => (x : Int)) (wn_congr (fun f _ _ => (gg 150 _ (by omega) (by decide) (by decide) (by decide) (by omega)).symm))
    · exact absurd ⟨y1, by rw [e137]; exact y2⟩ z1
  · replace y2 : a = 0 := y2
    rcases z with ⟨z1, _⟩ | ⟨_, z2, z3⟩
    · exact absurd ⟨z1.1, by rw [← e137]; exact z1.2⟩ y1
    · replace z2 : b = 0 := z2
      replace z3 : ∀ c j : Int, ¬ c = 126 → ¬ c = 152 → ¬ c = 153 → mG M2 c j = mG M1 c j := z3
      replace y3 : M1 = M := y3
      refine ⟨h.2.fr iM (fun b j w => ?_), by omega⟩
      rw [← y3]
      exact z3 b j (by unfold WX8 at w; omega) (by unfold WX8 at w; omega) (by unfold WX8 at w; omega)
theorem j4_tell (r1 : (-2147483648) ≤ l1 ∧ l1 ≤ 2147483647) (r2 : (-2147483648) ≤ l2 ∧ l2 ≤ 2147483647) (r3 : (-2147483648) ≤ l3 ∧ l3 ≤ 2147483647) (r4 : 0 ≤ l4 ∧ l4 ≤ 1) (h : J4 M) : wp (mX8_tell 1 l1 l2 l3 l4 M) (fun q1 => wp (mX9_tell 126 l1 l2 l3 l4 q1.2) (fun q2 => J4 q2.2)) :=
  w_mono (w_and3 (M := M) (jb_tell r1 r2 r3 r4 h.1) (kw_tell r4 h)) (fun q1 z => w_mono z (fun q2 y => ⟨y.1, y.2.1⟩))
theorem j4_tellE (r1 : (-2147483648) ≤ l1 ∧ l1 ≤ 2147483647) (r2 : (-2147483648) ≤ l2 ∧ l2 ≤ 2147483647) (r3 : (-2147483648) ≤ l3 ∧ l3 ≤ 2147483647) (r4 : 0 ≤ l4 ∧ l4 ≤ 1) (h : J4 M) : wp (mX8_tell 1 l1 l2 l3 l4 M) (fun q1 => wp (mX9_tell 126 l1 l2 l3 l4 q1.2) (fun q2 => J4 q2.2 ∧ EQ q1 q2)) :=
  w_mono (w_and3 (M := M) (jb_tell r1 r2 r3 r4 h.1) (kw_tell r4 h)) (fun q1 z => w_mono z (fun q2 y => ⟨⟨y.1, y.2.1⟩, y.2.2⟩))
end
