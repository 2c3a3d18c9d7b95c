section
/-! ===== the class's tokens ===== -/
def CE (E : RE) (M : Mem) : Prop := AC M ∧ mG M 65 2 = E.n ∧ (0 ≤ E.n ∧ E.n ≤ 400) ∧ (∀ i, 0 ≤ i → i < E.n → mG M 13 i = E.t i) ∧ mG M 4 6 = E.nr ∧ (0 ≤ E.nr ∧ E.nr ≤ 4) ∧ (mG M 4 1 = 6 ∧ mG M 4 2 = 7) ∧ (∀ r, 0 ≤ r → r < E.nr → mG M 6 r = E.k1 r ∧ mG M 7 r = E.k2 r) ∧ ((mK M 67).2 = 40 ∧ (mK M 72).2 = 402)
/-- only the token's fields are others -/
def AF (M M' : Mem) : Prop := (∀ c j : Int, ¬ (c = 65 ∧ 8 ≤ j) → mG M' c j = mG M c j) ∧ ∀ c : Int, mK M' c = mK M c
theorem AF.rf {M : Mem} : AF M M := ⟨fun _ _ _ => rfl, fun _ => rfl⟩
theorem AF.tr {M M1 M2 : Mem} (h1 : AF M M1) (h2 : AF M1 M2) : AF M M2 := ⟨fun c j h => (h2.1 c j h).trans (h1.1 c j h), fun c => (h2.2 c).trans (h1.2 c)⟩
theorem AF.st {M M1 M2 : Mem} {i x : Int} (h1 : AF M M1) (hM : M2 = mS M1 65 i x) (hi : 8 ≤ i) : AF M M2 := ⟨fun c j h => (st_ne hM (fun z => h ⟨z.1, by omega⟩)).trans (h1.1 c j h), fun c => (st_k hM c).trans (h1.2 c)⟩
/-- the reader's environment stays where its cells do -/
theorem CE.kp {E : RE} {M M' : Mem} (e : CE E M) (h : ∀ c j : Int, (c = 65 ∧ (j ≤ 3 ∨ j = 5 ∨ j = 6)) ∨ c = 13 ∨ c = 4 ∨ c = 6 ∨ c = 7 ∨ (c = 66 ∧ j ≤ 3) → mG M' c j = mG M c j) (hk : ∀ c : Int, mK M' c = mK M c) : CE E M' := by
  obtain ⟨a, e1, e2, e3, e4, e5, e6, e7, e8⟩ := e
  refine ⟨?_, (h 65 2 (by omega)).trans e1, e2, fun i i0 i1 => (h 13 i (by omega)).trans (e3 i i0 i1), (h 4 6 (by omega)).trans e4, e5, ⟨(h 4 1 (by omega)).trans e6.1, (h 4 2 (by omega)).trans e6.2⟩, fun r r0 r1 => ⟨(h 6 r (by omega)).trans (e7 r r0 r1).1, (h 7 r (by omega)).trans (e7 r r0 r1).2⟩, by rw [hk 67, hk 72]; exact e8⟩
  obtain ⟨a0, a1, a2, a3, a4, a5, a6, a7, a8⟩ := a
  exact ⟨(h _ _ (by omega)).trans a0, (h _ _ (by omega)).trans a1, (h _ _ (by omega)).trans a2, (h _ _ (by omega)).trans a3, (h _ _ (by omega)).trans a4, (h _ _ (by omega)).trans a5, (h _ _ (by omega)).trans a6, (h _ _ (by omega)).trans a7, (h _ _ (by omega)).trans a8⟩
theorem AF.ce {E : RE} {M M' : Mem} (h : AF M M') (e : CE E M) : CE E M' := e.kp (fun c j z => h.1 c j (by omega)) h.2
section
variable {E : RE} {M : Mem}
theorem RE.letT {p : Int} (h : E.let' p = true) : p < E.n ∧ 97 ≤ E.t p ∧ E.t p ≤ 122 := of_decide_eq_true h
theorem RE.letF {p : Int} (h : E.let' p = false) : ¬ (p < E.n ∧ 97 ≤ E.t p ∧ E.t p ≤ 122) := of_decide_eq_false h
theorem RE.digT {p : Int} (h : E.dig p = true) : p < E.n ∧ 48 ≤ E.t p ∧ E.t p ≤ 57 := of_decide_eq_true h
theorem RE.digF {p : Int} (h : E.dig p = false) : ¬ (p < E.n ∧ 48 ≤ E.t p ∧ E.t p ≤ 57) := of_decide_eq_false h
theorem RE.blkT {p : Int} (h : E.blk p = true) : p < E.n ∧ (E.t p = 10 ∨ E.t p = 32) := of_decide_eq_true h
theorem RE.mkT {P : Prop} [Decidable P] (h : P) : decide P = true := decide_eq_true h
theorem q_isLetter {p : Int} (ce : CE E M) (h0 : 0 ≤ p) : pw (mX2_isLetter 65 p M) (fun q => (E.let' p = true ∧ q.1 = 1 ∨ E.let' p = false ∧ q.1 = 0) ∧ q.2 = M) := by
  obtain ⟨⟨_, a1, _⟩, e1, e2, e3, _⟩ := ce
  unfold mX2_isLetter
  refine p_gFc (ji := 2) rfl e1 ?_
  refine p_if (fun c => p_ret ⟨Or.inr ⟨decide_eq_false (by omega), rfl⟩, rfl⟩) (fun c => ?_)
  refine p_gFc (ji := 1) rfl a1 (p_aGc (e3 p h0 (by omega)) ?_)
  refine p_if (fun c2 => p_ret ⟨Or.inr ⟨decide_eq_false (by omega), rfl⟩, rfl⟩) (fun c2 => ?_)
  refine p_gFc (ji := 1) rfl a1 (p_aGc (e3 p h0 (by omega)) ?_)
  exact p_if (fun c3 => p_ret ⟨Or.inr ⟨decide_eq_false (by omega), rfl⟩, rfl⟩) (fun c3 => p_ret ⟨Or.inl ⟨decide_eq_true (by omega), rfl⟩, rfl⟩)
theorem q_isDigit {p : Int} (ce : CE E M) (h0 : 0 ≤ p) : pw (mX2_isDigit 65 p M) (fun q => (E.dig p = true ∧ q.1 = 1 ∨ E.dig p = false ∧ q.1 = 0) ∧ q.2 = M) := by
  obtain ⟨⟨_, a1, _⟩, e1, e2, e3, _⟩ := ce
  unfold mX2_isDigit
  refine p_gFc (ji := 2) rfl e1 ?_
  refine p_if (fun c => p_ret ⟨Or.inr ⟨decide_eq_false (by omega), rfl⟩, rfl⟩) (fun c => ?_)
  refine p_gFc (ji := 1) rfl a1 (p_aGc (e3 p h0 (by omega)) ?_)
  refine p_if (fun c2 => p_ret ⟨Or.inr ⟨decide_eq_false (by omega), rfl⟩, rfl⟩) (fun c2 => ?_)
  refine p_gFc (ji := 1) rfl a1 (p_aGc (e3 p h0 (by omega)) ?_)
  exact p_if (fun c3 => p_ret ⟨Or.inr ⟨decide_eq_false (by omega), rfl⟩, rfl⟩) (fun c3 => p_ret ⟨Or.inl ⟨decide_eq_true (by omega), rfl⟩, rfl⟩)
def CTok (E : RE) (b : Int) (M : Mem) : Prop := mG M 65 9 = b ∧ (0 ≤ b ∧ b ≤ E.n) ∧ ((E.n ≤ b ∧ mG M 65 8 = 0) ∨ (E.let' b = true ∧ mG M 65 8 = 1 ∧ mG M 65 10 = E.we b) ∨ (E.dig b = true ∧ mG M 65 8 = 2 ∧ (E.de b - b ≤ 4 → mG M 65 10 = E.de b ∧ mG M 65 11 = E.val b (E.de b - b).toNat) ∧ (¬ E.de b - b ≤ 4 → E.dig (b + 4) = true ∧ mG M 65 10 = b + 4)) ∨ (b < E.n ∧ E.let' b = false ∧ E.dig b = false ∧ mG M 65 8 = 3))
theorem q_adv100 {b : Int} (hb : 0 ≤ b) : ∀ (fu : Nat) (p : Int) (M : Mem), CE E M → mG M 65 10 = p → b ≤ p → p ≤ E.n → (∀ i, b ≤ i → i < p → E.let' i = true) → pw (mX2_advance_100 fu 65 M) (fun q => AF M q.2 ∧ mG q.2 65 8 = mG M 65 8 ∧ mG q.2 65 9 = mG M 65 9 ∧ mG q.2 65 10 = E.we b) := by
  intro fu
  induction fu with
  | zero => intro p M ce hp b0 b1 hl; exact p_none
  | succ fu ih =>
    intro p M ce hp b0 b1 hl
    have e1 := ce.2.1
    have e2 := ce.2.2.1
    show pw (bX2_advance_100 (mX2_advance_100 fu) 65 M) _
    unfold bX2_advance_100
    have stop : E.let' p = false → AF M M ∧ mG M 65 8 = mG M 65 8 ∧ mG M 65 9 = mG M 65 9 ∧ mG M 65 10 = E.we b := fun z =>
      ⟨AF.rf, rfl, rfl, hp.trans (ru_eq 400 b p b0 (by omega) hl z).symm⟩
    refine p_gFc (ji := 10) rfl hp (p_gFc (ji := 2) rfl e1 ?_)
    refine p_if (fun c => p_ret (stop (decide_eq_false (by omega)))) (fun c => ?_)
    refine p_gFc (ji := 10) rfl hp (p_gK ?_)
    refine p_call (q_isLetter ce (by omega)) (fun r M1 h => ?_)
    obtain ⟨h, e⟩ := h
    have e : M1 = M := e
    subst e
    rcases h with ⟨h, hr⟩ | ⟨h, hr⟩
    · have hr : r = 1 := hr
      subst hr
      refine p_it0 (show ¬ (1 : Int) = 0 by decide) ?_
      refine p_gFc (ji := 10) rfl hp (p_pF (ji := 10) rfl (fun M2 h2 => ?_))
      have a2 : AF M1 M2 := AF.rf.st h2 (by decide)
      rw [wI_id (x := p + 1) (by omega) (by omega)] at h2
      have lt := RE.letT h
      refine p_mono (ih (p + 1) M2 (a2.ce ce) (st_eq h2) (by omega) (by omega) (fun i i0 i1 => ?_)) (fun q z => ?_)
      · by_cases w : i = p
        · rw [w]; exact h
        · exact hl i i0 (by omega)
      · obtain ⟨z1, z2, z3, z4⟩ := z
        exact ⟨a2.tr z1, z2.trans (st_ne h2 (by omega)), z3.trans (st_ne h2 (by omega)), z4⟩
    · have hr : r = 0 := hr
      subst hr
      exact p_it1 (show (0 : Int) = 0 from rfl) (p_ret (stop h))
theorem q_adv151 {b : Int} (hb : 0 ≤ b) : ∀ (fu : Nat) (k : Nat) (M : Mem), CE E M → mG M 65 9 = b → mG M 65 10 = b + (k : Int) → mG M 65 11 = E.val b k → k ≤ 4 → (0 ≤ E.val b k ∧ E.val b k < 10 ^ k) → b + (k : Int) ≤ E.n → (∀ i, b ≤ i → i < b + (k : Int) → E.dig i = true) → pw (mX2_advance_151 fu 65 M) (fun q => AF M q.2 ∧ mG q.2 65 8 = mG M 65 8 ∧ mG q.2 65 9 = b ∧ (E.de b - b ≤ 4 → mG q.2 65 10 = E.de b ∧ mG q.2 65 11 = E.val b (E.de b - b).toNat) ∧ (¬ E.de b - b ≤ 4 → E.dig (b + 4) = true ∧ mG q.2 65 10 = b + 4)) := by
  intro fu
  induction fu with
  | zero => intro k M ce h9 h10 h11 k4 hv hn hl; exact p_none
  | succ fu ih =>
    intro k M ce h9 h10 h11 k4 hv hn hl
    have e1 := ce.2.1
    have e2 := ce.2.2.1
    show pw (bX2_advance_151 (mX2_advance_151 fu) 65 M) _
    unfold bX2_advance_151
    refine p_gFc (ji := 10) rfl h10 (p_gFc (ji := 9) rfl h9 ?_)
    rw [wI_id (x := b + (k : Int) - b) (by omega) (by omega)]
    have stop : E.dig (b + (k : Int)) = false → AF M M ∧ mG M 65 8 = mG M 65 8 ∧ mG M 65 9 = b ∧ (E.de b - b ≤ 4 → mG M 65 10 = E.de b ∧ mG M 65 11 = E.val b (E.de b - b).toNat) ∧ (¬ E.de b - b ≤ 4 → E.dig (b + 4) = true ∧ mG M 65 10 = b + 4) := fun z => by
      have d : E.de b = b + (k : Int) := ru_eq 400 b _ (by omega) (by omega) hl z
      refine ⟨AF.rf, rfl, h9, fun _ => ⟨h10.trans d.symm, ?_⟩, fun c => absurd c (by omega)⟩
      rw [h11, d, show (b + (k : Int) - b).toNat = k by omega]
    refine p_if (fun c => p_ret ?_) (fun c => ?_)
    · have k4' : k = 4 := by omega
      subst k4'
      by_cases z : E.dig (b + 4) = true
      case neg => exact stop (Bool.eq_false_iff.mpr z)
      case pos =>
        refine ⟨AF.rf, rfl, h9, fun c2 => ?_, fun _ => ⟨z, h10⟩⟩
        exfalso
        obtain ⟨d1, d2, d3, _⟩ := ru_spec (P := E.dig) (n := E.n) (fun i hi => (RE.digT hi).1) 400 b (by omega)
        have d1 : b ≤ E.de b := d1
        have d3 : E.dig (E.de b) = false := d3
        by_cases w : E.de b = b + 4
        · rw [w, z] at d3; cases d3
        · rw [hl (E.de b) d1 (by omega)] at d3; cases d3
    · refine p_gFc (ji := 10) rfl h10 (p_gK ?_)
      refine p_call (q_isDigit ce (by omega)) (fun r M1 h => ?_)
      obtain ⟨h, e⟩ := h
      have e : M1 = M := e
      subst e
      rcases h with ⟨h, hr⟩ | ⟨h, hr⟩
      · have hr : r = 1 := hr
        subst hr
        have lt := RE.digT h
        refine p_it0 (show ¬ (1 : Int) = 0 by decide) ?_
        refine p_gFc (ji := 11) rfl h11 (p_gFc (ji := 1) rfl ce.1.2.1 (p_gFc (ji := 10) rfl h10 (p_aGc (ce.2.2.2.1 _ (by omega) lt.1) ?_)))
        have hp4 : (10 : Int) ^ k ≤ 1000 := by
          have : k = 0 ∨ k = 1 ∨ k = 2 ∨ k = 3 := by omega
          rcases this with z | z | z | z <;> subst z <;> decide
        rw [wI_id (x := 10 * E.val b k) (by omega) (by omega), wI_id (x := 10 * E.val b k + E.t (b + (k : Int))) (by omega) (by omega), wI_id (x := 10 * E.val b k + E.t (b + (k : Int)) - 48) (by omega) (by omega)]
        refine p_pF (ji := 11) rfl (fun M2 h2 => ?_)
        have a2 : AF M1 M2 := AF.rf.st h2 (by decide)
        refine p_gFc (ji := 10) rfl ((st_ne h2 (by omega)).trans h10) (p_pF (ji := 10) rfl (fun M3 h3 => ?_))
        have a3 : AF M1 M3 := a2.st h3 (by decide)
        rw [wI_id (x := b + (k : Int) + 1) (by omega) (by omega)] at h3
        have hv' : E.val b (k + 1) = 10 * E.val b k + E.t (b + (k : Int)) - 48 := rfl
        refine p_mono (ih (k + 1) M3 (a3.ce ce) ((st_ne h3 (by omega)).trans ((st_ne h2 (by omega)).trans h9)) ((st_eq h3).trans (by omega)) ((st_ne h3 (by omega)).trans ((st_eq h2).trans hv'.symm)) (by omega) ?_ (by omega) (fun i i0 i1 => ?_)) (fun q z => ?_)
        · rw [hv', Int.pow_succ]; omega
        · by_cases w : i = b + (k : Int)
          · rw [w]; exact h
          · exact hl i i0 (by omega)
        · obtain ⟨z1, z2, z3, z4⟩ := z
          exact ⟨a3.tr z1, z2.trans ((st_ne h3 (by omega)).trans (st_ne h2 (by omega))), z3, z4⟩
      · have hr : r = 0 := hr
        subst hr
        exact p_it1 (show (0 : Int) = 0 from rfl) (p_ret (stop h))
theorem q_adv52 {b : Int} (hb : 0 ≤ b ∧ b ≤ E.n) (ce : CE E M) (h10 : mG M 65 10 = b) : pw (mX2_advance_52 65 M) (fun q => AF M q.2 ∧ CTok E b q.2) := by
  have e1 := ce.2.1
  have e2 := ce.2.2.1
  unfold mX2_advance_52
  refine p_gFc (ji := 10) rfl h10 (p_pF (ji := 9) rfl (fun M1 h1 => p_pF (ji := 11) rfl (fun M2 h2 => ?_)))
  have a2 : AF M M2 := (AF.rf.st h1 (by decide)).st h2 (by decide)
  have c2 := a2.ce ce
  have i9 : mG M2 65 9 = b := (st_ne h2 (by omega)).trans (st_eq h1)
  have i10 : mG M2 65 10 = b := (st_ne h2 (by omega)).trans ((st_ne h1 (by omega)).trans h10)
  have i11 : mG M2 65 11 = 0 := st_eq h2
  refine p_gFc (ji := 10) rfl i10 (p_gFc (ji := 2) rfl c2.2.1 ?_)
  refine p_if (fun c => ?_) (fun c => ?_)
  · refine p_gFc (ji := 10) rfl i10 (p_gK ?_)
    refine p_call (q_isLetter c2 hb.1) (fun r M3 h => ?_)
    obtain ⟨h, e⟩ := h
    have e : M3 = M2 := e
    subst e
    rcases h with ⟨h, hr⟩ | ⟨h, hr⟩
    · have hr : r = 1 := hr
      subst hr
      refine p_it0 (show ¬ (1 : Int) = 0 by decide) (p_pF (ji := 8) rfl (fun M4 h4 => ?_))
      have a4 : AF M3 M4 := AF.rf.st h4 (by decide)
      refine p_mono (q_adv100 hb.1 _ b M4 (a4.ce c2) ((st_ne h4 (by omega)).trans i10) (Int.le_refl _) hb.2 (fun i i0 i1 => absurd i1 (by omega))) (fun q z => ?_)
      obtain ⟨z1, z2, z3, z4⟩ := z
      exact ⟨(a2.tr a4).tr z1, z3.trans ((st_ne h4 (by omega)).trans i9), hb, Or.inr (Or.inl ⟨h, z2.trans (st_eq h4), z4⟩)⟩
    · have hr : r = 0 := hr
      subst hr
      refine p_it1 (show (0 : Int) = 0 from rfl) ?_
      refine p_gFc (ji := 10) rfl i10 (p_gK ?_)
      refine p_call (q_isDigit c2 hb.1) (fun r M4 g => ?_)
      obtain ⟨g, e⟩ := g
      have e : M4 = M3 := e
      subst e
      rcases g with ⟨g, hr⟩ | ⟨g, hr⟩
      · have hr : r = 1 := hr
        subst hr
        refine p_it0 (show ¬ (1 : Int) = 0 by decide) (p_pF (ji := 8) rfl (fun M5 h5 => ?_))
        have a5 : AF M4 M5 := AF.rf.st h5 (by decide)
        refine p_mono (q_adv151 hb.1 _ 0 M5 (a5.ce c2) ((st_ne h5 (by omega)).trans i9) ((st_ne h5 (by omega)).trans (i10.trans (by omega))) ((st_ne h5 (by omega)).trans i11) (by omega) ⟨Int.le_refl _, (by decide : (0 : Int) < 1)⟩ (by omega) (fun i i0 i1 => absurd i1 (by omega))) (fun q z => ?_)
        obtain ⟨z1, z2, z3, z4, z5⟩ := z
        exact ⟨(a2.tr a5).tr z1, z3, hb, Or.inr (Or.inr (Or.inl ⟨g, z2.trans (st_eq h5), z4, z5⟩))⟩
      · have hr : r = 0 := hr
        subst hr
        refine p_it1 (show (0 : Int) = 0 from rfl) (p_pF (ji := 8) rfl (fun M5 h5 => p_ret ?_))
        exact ⟨a2.st h5 (by decide), (st_ne h5 (by omega)).trans i9, hb, Or.inr (Or.inr (Or.inr ⟨c, h, g, st_eq h5⟩))⟩
  · refine p_pF (ji := 8) rfl (fun M5 h5 => p_ret ?_)
    exact ⟨a2.st h5 (by decide), (st_ne h5 (by omega)).trans i9, hb, Or.inl ⟨by omega, st_eq h5⟩⟩
theorem q_advance {p0 : Int} (ce : CE E M) (h10 : mG M 65 10 = p0) (hp : 0 ≤ p0 ∧ p0 ≤ E.n) : pw (mX2_advance 65 M) (fun q => AF M q.2 ∧ CTok E (E.sk p0) q.2) := by
  have key : ∀ (fu : Nat) (p : Int) (M1 : Mem), AF M M1 → mG M1 65 10 = p → p0 ≤ p → p ≤ E.n → (∀ i, p0 ≤ i → i < p → E.blk i = true) → pw (mX2_advance_0 fu 65 M1) (fun q => AF M q.2 ∧ CTok E (E.sk p0) q.2) := by
    intro fu
    induction fu with
    | zero => intro p M1 a1 i10 i0 i1 hl; exact p_none
    | succ fu ih =>
      intro p M1 a1 i10 i0 i1 hl
      have c1 := a1.ce ce
      have e2 := ce.2.2.1
      show pw (bX2_advance_0 (mX2_advance_0 fu) 65 M1) _
      unfold bX2_advance_0
      have stop : E.blk p = false → pw (mX2_advance_52 65 M1) (fun q => AF M q.2 ∧ CTok E (E.sk p0) q.2) := fun z => by
        have d : E.sk p0 = p := ru_eq 400 p0 p i0 (by omega) hl z
        rw [d]
        exact p_mono (q_adv52 ⟨by omega, i1⟩ c1 i10) (fun q z => ⟨a1.tr z.1, z.2⟩)
      have go : E.blk p = true → pw (mX2_advance_39 (mX2_advance_0 fu) 65 M1) (fun q => AF M q.2 ∧ CTok E (E.sk p0) q.2) := fun z => by
        unfold mX2_advance_39
        have lt := RE.blkT z
        refine p_gFc (ji := 10) rfl i10 (p_pF (ji := 10) rfl (fun M2 h2 => ?_))
        have a2 : AF M M2 := a1.st h2 (by decide)
        rw [wI_id (x := p + 1) (by omega) (by omega)] at h2
        refine ih (p + 1) M2 a2 (st_eq h2) (by omega) (by omega) (fun i j0 j1 => ?_)
        by_cases w : i = p
        · rw [w]; exact z
        · exact hl i j0 (by omega)
      refine p_gFc (ji := 10) rfl i10 (p_gFc (ji := 2) rfl c1.2.1 ?_)
      refine p_if (fun c => stop (decide_eq_false (by omega))) (fun c => ?_)
      refine p_gFc (ji := 1) rfl c1.1.2.1 (p_gFc (ji := 10) rfl i10 (p_aGc (c1.2.2.2.1 p (by omega) (by omega)) ?_))
      refine p_if (fun c2 => go (decide_eq_true ⟨by omega, Or.inl c2⟩)) (fun c2 => ?_)
      refine p_gFc (ji := 1) rfl c1.1.2.1 (p_gFc (ji := 10) rfl i10 (p_aGc (c1.2.2.2.1 p (by omega) (by omega)) ?_))
      exact p_if (fun c3 => go (decide_eq_true ⟨by omega, Or.inr c3⟩)) (fun c3 => stop (decide_eq_false (by omega)))
  unfold mX2_advance
  exact key _ p0 M AF.rf h10 (Int.le_refl _) hp.2 (fun i i0 i1 => absurd i1 (by omega))
end
end
section
/-! ===== the class's words ===== -/
section
variable {E : RE} {M : Mem}
theorem RE.we_spec (b : Int) (h0 : 0 ≤ b) (hn : E.n ≤ 400) : b ≤ E.we b ∧ (∀ i, b ≤ i → i < E.we b → E.let' i = true) ∧ E.let' (E.we b) = false ∧ (E.we b ≤ E.n ∨ E.we b = b) :=
  ru_spec (P := E.let') (n := E.n) (fun i hi => (RE.letT hi).1) 400 b (by omega)
theorem RE.de_spec (b : Int) (h0 : 0 ≤ b) (hn : E.n ≤ 400) : b ≤ E.de b ∧ (∀ i, b ≤ i → i < E.de b → E.dig i = true) ∧ E.dig (E.de b) = false ∧ (E.de b ≤ E.n ∨ E.de b = b) :=
  ru_spec (P := E.dig) (n := E.n) (fun i hi => (RE.digT hi).1) 400 b (by omega)
theorem RE.sk_spec (b : Int) (h0 : 0 ≤ b) (hn : E.n ≤ 400) : b ≤ E.sk b ∧ (∀ i, b ≤ i → i < E.sk b → E.blk i = true) ∧ E.blk (E.sk b) = false ∧ (E.sk b ≤ E.n ∨ E.sk b = b) :=
  ru_spec (P := E.blk) (n := E.n) (fun i hi => (RE.blkT hi).1) 400 b (by omega)
theorem RE.we_gt {b : Int} (h0 : 0 ≤ b) (hn : E.n ≤ 400) (h : E.let' b = true) : b < E.we b := by
  obtain ⟨h1, h2, h3, _⟩ := E.we_spec b h0 hn
  by_cases e : E.we b = b
  · rw [e, h] at h3; cases h3
  · omega
theorem RE.we_id {b : Int} (h0 : 0 ≤ b) (hn : E.n ≤ 400) (h : E.let' b = false) : E.we b = b :=
  ru_eq 400 b b (Int.le_refl _) (by omega) (fun i i0 i1 => absurd i1 (by omega)) h
theorem RE.wd_iff (b : Int) (L : List Int) : E.wd b = L ↔ (E.we b - b).toNat = L.length ∧ ∀ i : Nat, i < L.length → E.t (b + (i : Int)) = L.getD i 0 := by
  constructor
  · intro h
    subst h
    unfold RE.wd
    refine ⟨by simp, fun i hi => ?_⟩
    rw [List.length_map, List.length_range] at hi
    rw [List.getD_eq_getElem?_getD, List.getElem?_map, List.getElem?_range hi]
    rfl
  · intro ⟨h1, h2⟩
    unfold RE.wd
    refine List.ext_getElem (by simp [h1]) (fun i i1 i2 => ?_)
    have := h2 i i2
    rw [List.getD_eq_getElem?_getD, List.getElem?_eq_getElem i2] at this
    rw [List.getElem_map, List.getElem_range]
    exact this
theorem RE.wd_nil {b : Int} (h0 : 0 ≤ b) (hn : E.n ≤ 400) (h : E.let' b = false) : E.wd b = [] :=
  (E.wd_iff b []).mpr ⟨by rw [RE.we_id h0 hn h]; simp, fun i hi => absurd hi (Nat.not_lt_zero i)⟩
theorem p_sLnc {β : Type} {Q : β → Prop} {w r : Int} {f : Int → Option β} (h : sLn w = some r) (k : pw (f r) Q) : pw ((sLn w).bind f) Q := by rw [h]; exact k
theorem p_sAtc {β : Type} {Q : β → Prop} {w i r : Int} {f : Int → Option β} (h : sAt w i = some r) (k : pw (f r) Q) : pw ((sAt w i).bind f) Q := by rw [h]; exact k
theorem CTok.wd {b : Int} (ce : CE E M) (ct : CTok E b M) : (mG M 65 8 = 1 ∧ E.let' b = true ∧ mG M 65 10 = E.we b) ∨ (¬ mG M 65 8 = 1 ∧ E.let' b = false) := by
  obtain ⟨_, _, h⟩ := ct
  rcases h with ⟨h, e⟩ | ⟨h, e, e2⟩ | ⟨h, e, _⟩ | ⟨h, h2, _, e⟩
  · exact Or.inr ⟨by omega, decide_eq_false (by omega)⟩
  · exact Or.inl ⟨e, h, e2⟩
  · have := RE.digT h
    exact Or.inr ⟨by omega, decide_eq_false (by omega)⟩
  · exact Or.inr ⟨by omega, h2⟩
theorem q_isWord {b w : Int} {L : List Int} (ce : CE E M) (ct : CTok E b M) (hl : sLn w = some (L.length : Int)) (ha : ∀ i : Nat, i < L.length → sAt w (i : Int) = some (L.getD i 0)) (h5 : 0 < L.length ∧ L.length ≤ 5) : pw (mX2_isWord 65 w M) (fun q => (E.wd b = L ∧ q.1 = 1 ∨ ¬ E.wd b = L ∧ q.1 = 0) ∧ q.2 = M) := by
  have hn := ce.2.2.1
  have hb := ct.2.1
  have key : ∀ (fu : Nat) (k : Nat), (E.we b - b).toNat = L.length → E.we b ≤ E.n → (∀ i : Nat, i < k → E.t (b + (i : Int)) = L.getD i 0) → k ≤ L.length → pw (mX2_isWord_28 fu 65 w (k : Int) M) (fun q => (E.wd b = L ∧ q.1 = 1 ∨ ¬ E.wd b = L ∧ q.1 = 0) ∧ q.2 = M) := by
    intro fu
    induction fu with
    | zero => intro k e en hk kl; exact p_none
    | succ fu ih =>
      intro k e en hk kl
      show pw (bX2_isWord_28 (mX2_isWord_28 fu) 65 w (k : Int) M) _
      unfold bX2_isWord_28
      refine p_sLnc hl (p_if (fun c => ?_) (fun c => ?_))
      · exact p_ret ⟨Or.inl ⟨(E.wd_iff b L).mpr ⟨e, fun i hi => hk i (by omega)⟩, rfl⟩, rfl⟩
      · have kl : k < L.length := by omega
        refine p_gFc (ji := 1) rfl ce.1.2.1 (p_gFc (ji := 9) rfl ct.1 ?_)
        rw [wI_id (x := b + (k : Int)) (by omega) (by omega), wI_id (x := (k : Int) + 1) (by omega) (by omega)]
        refine p_aGc (ce.2.2.2.1 _ (by omega) (by omega)) (p_sAtc (ha k kl) (p_if (fun c2 => ?_) (fun c2 => ?_)))
        · refine ih (k + 1) e en (fun i hi => ?_) (by omega)
          by_cases z : i = k
          · rw [z]; exact c2
          · exact hk i (by omega)
        · exact p_ret ⟨Or.inr ⟨fun z => c2 (((E.wd_iff b L).mp z).2 k kl), rfl⟩, rfl⟩
  have no : (E.let' b = false ∨ ¬ (E.we b - b).toNat = L.length) → ¬ E.wd b = L := fun z y => by
    have y' := (E.wd_iff b L).mp y
    rcases z with z | z
    · rw [RE.we_id hb.1 hn.2 z] at y'; have := y'.1; simp at this; omega
    · exact z y'.1
  unfold mX2_isWord
  rcases ct.wd ce with ⟨g1, g2, g3⟩ | ⟨g1, g2⟩
  · refine p_gFc (ji := 8) rfl g1 (p_it1 rfl ?_)
    refine p_gFc (ji := 10) rfl g3 (p_gFc (ji := 9) rfl ct.1 (p_sLnc hl ?_))
    have gt := RE.we_gt hb.1 hn.2 g2
    obtain ⟨_, _, _, w4⟩ := E.we_spec b hb.1 hn.2
    have w5 : E.we b ≤ E.n := by omega
    rw [wI_id (x := E.we b - b) (by omega) (by omega)]
    refine p_if (fun c => key FU 0 (by omega) w5 (fun i hi => absurd hi (Nat.not_lt_zero i)) (by omega)) (fun c => p_ret ⟨Or.inr ⟨no (Or.inr (by omega)), rfl⟩, rfl⟩)
  · refine p_gF (ji := 8) rfl (fun v hv => p_it0 (by omega) (p_ret ⟨Or.inr ⟨no (Or.inl g2), rfl⟩, rfl⟩))
def oneL (w : List Int) : Int := match w with | [c] => c | _ => 0
theorem RE.one_iff (b c : Int) : E.wd b = [c] ↔ (E.we b - b).toNat = 1 ∧ E.t b = c := by
  rw [E.wd_iff b [c]]
  constructor
  · intro ⟨h1, h2⟩
    have := h2 0 (by simp)
    rw [show b + ((0 : Nat) : Int) = b by omega] at this
    exact ⟨h1, this⟩
  · intro ⟨h1, h2⟩
    refine ⟨h1, fun i hi => ?_⟩
    have : i = 0 := by simp at hi; exact hi
    subst this
    rw [show b + ((0 : Nat) : Int) = b by omega]; exact h2
theorem q_oneLetter {b : Int} (ce : CE E M) (ct : CTok E b M) : pw (mX2_oneLetter 65 M) (fun q => ((E.wd b = [q.1] ∧ 97 ≤ q.1 ∧ q.1 ≤ 122) ∨ (q.1 = 0 ∧ ∀ c, ¬ E.wd b = [c])) ∧ q.2 = M) := by
  have hn := ce.2.2.1
  have hb := ct.2.1
  unfold mX2_oneLetter
  rcases ct.wd ce with ⟨g1, g2, g3⟩ | ⟨g1, g2⟩
  · refine p_gFc (ji := 8) rfl g1 (p_it1 rfl ?_)
    refine p_gFc (ji := 10) rfl g3 (p_gFc (ji := 9) rfl ct.1 ?_)
    have gt := RE.we_gt hb.1 hn.2 g2
    have lt := RE.letT g2
    obtain ⟨_, _, _, w4⟩ := E.we_spec b hb.1 hn.2
    rw [wI_id (x := E.we b - b) (by omega) (by omega)]
    refine p_if (fun c => ?_) (fun c => p_ret ⟨Or.inr ⟨rfl, fun x hx => ?_⟩, rfl⟩)
    · refine p_gFc (ji := 1) rfl ce.1.2.1 (p_gFc (ji := 9) rfl ct.1 (p_aGc (ce.2.2.2.1 _ hb.1 lt.1) (p_ret ⟨Or.inl ⟨(E.one_iff b _).mpr ⟨by omega, rfl⟩, lt.2⟩, rfl⟩)))
    · have := ((E.one_iff b x).mp hx).1
      omega
  · refine p_gF (ji := 8) rfl (fun v hv => p_it0 (by omega) (p_ret ⟨Or.inr ⟨rfl, fun x hx => ?_⟩, rfl⟩))
    rw [RE.wd_nil hb.1 hn.2 g2] at hx; cases hx
end
end
section
/-! ===== what the class takes from a tape ===== -/
def fst8 (nr : Int) (w : List Int) : Int := if actW w = -1 then (if relW nr w = -1 then -1 else 11) else actW w
theorem fst8_a {nr a : Int} {w : List Int} (h : actW w = a) (ha : ¬ a = -1) : fst8 nr w = a := by
  unfold fst8; rw [if_neg (by rw [h]; exact ha)]; exact h
theorem l1_ne {c d : Int} (h : ¬ c = d) : ¬ ([c] : List Int) = [d] := fun z => h (List.cons.inj z).1
theorem relW_in {nr c : Int} (hn : nr ≤ 4) (h : 0 ≤ c - 114 ∧ c - 114 < nr) : relW nr [c] = c - 114 := by
  have : c = 114 ∨ c = 115 ∨ c = 116 ∨ c = 117 := by omega
  rcases this with e | e | e | e <;> subst e
  · exact (show relW nr [114] = if nr ≤ 0 then -1 else 0 from rfl).trans (if_neg (by omega))
  · exact (show relW nr [115] = if nr ≤ 1 then -1 else 1 from rfl).trans (if_neg (by omega))
  · exact (show relW nr [116] = if nr ≤ 2 then -1 else 2 from rfl).trans (if_neg (by omega))
  · exact (show relW nr [117] = if nr ≤ 3 then -1 else 3 from rfl).trans (if_neg (by omega))
theorem relW_out {nr c : Int} (h0 : 0 ≤ nr) (h : ¬ (0 ≤ c - 114 ∧ c - 114 < nr)) : relW nr [c] = -1 := by
  by_cases e0 : c = 114
  · subst e0; exact (show relW nr [114] = if nr ≤ 0 then -1 else 0 from rfl).trans (if_pos (by omega))
  by_cases e1 : c = 115
  · subst e1; exact (show relW nr [115] = if nr ≤ 1 then -1 else 1 from rfl).trans (if_pos (by omega))
  by_cases e2 : c = 116
  · subst e2; exact (show relW nr [116] = if nr ≤ 2 then -1 else 2 from rfl).trans (if_pos (by omega))
  by_cases e3 : c = 117
  · subst e3; exact (show relW nr [117] = if nr ≤ 3 then -1 else 3 from rfl).trans (if_pos (by omega))
  unfold relW
  rw [if_neg (l1_ne e0), if_neg (l1_ne e1), if_neg (l1_ne e2), if_neg (l1_ne e3)]
  exact if_neg (by show ¬ nr ≤ -1; omega)
theorem relW_no {nr : Int} {w : List Int} (h0 : 0 ≤ nr) (h : ∀ c, ¬ w = [c]) : relW nr w = -1 := by
  unfold relW
  rw [if_neg (h _), if_neg (h _), if_neg (h _), if_neg (h _)]
  exact if_neg (by show ¬ nr ≤ -1; omega)
theorem varW_in {c : Int} (h : 119 ≤ c ∧ c ≤ 122) : ¬ varW [c] = -1 ∧ cv (varW [c]) = c - 119 ∧ 0 ≤ varW [c] ∧ varW [c] ≤ 3 := by
  have : c = 119 ∨ c = 120 ∨ c = 121 ∨ c = 122 := by omega
  rcases this with e | e | e | e <;> subst e <;> decide
theorem varW_out {c : Int} (h : ¬ (119 ≤ c ∧ c ≤ 122)) : varW [c] = -1 := by
  unfold varW
  rw [if_neg (l1_ne (by omega)), if_neg (l1_ne (by omega)), if_neg (l1_ne (by omega)), if_neg (l1_ne (by omega))]
theorem varW_no {w : List Int} (h : ∀ c, ¬ w = [c]) : varW w = -1 := by
  unfold varW
  rw [if_neg (h _), if_neg (h _), if_neg (h _), if_neg (h _)]
/-- a fault is told -/
def Z2 (M : Mem) : Prop := AC M ∧ BFI M ∧ ¬ mG M 3 6 = 0
/-- none is told; the token at b is taken -/
def C2 (E : RE) (b : Int) (M : Mem) : Prop := CE E M ∧ BFI M ∧ mG M 3 6 = 0 ∧ CTok E b M
section
variable {E : RE} {M : Mem}
theorem Z2.t {M' : Mem} (h : Z2 M) (t : T2 M M') : Z2 M' := ⟨t.ac h.1, t.2.2 h.2.1, t.2.1 h.2.2⟩
theorem C2.br {b : Int} (h : C2 E b M) : mG M 65 4 = 0 := by
  by_cases e : mG M 65 4 = 0
  · exact e
  · exact absurd h.2.2.1 (h.2.1 e)
theorem C2.ac {b : Int} (h : C2 E b M) : AC M := h.1.1
theorem AF.c2 {b b' : Int} {M' : Mem} (a : AF M M') (h : C2 E b M) (ct : CTok E b' M') : C2 E b' M' :=
  ⟨a.ce h.1, fun z => by rw [a.1 3 6 (by omega)]; exact h.2.1 (by rw [← a.1 65 4 (by omega)]; exact z), (a.1 3 6 (by omega)).trans h.2.2.1, ct⟩
theorem q_refuse (ha : AC M) (hb : BFI M) : pw (mX2_refuse 65 M) (fun q => Z2 q.2 ∧ ¬ mG q.2 65 4 = 0) :=
  p_mono (pu_refuse ha) (fun q z => ⟨⟨z.1.ac ha, z.1.2.2 hb, z.2.1 hb⟩, z.2.2⟩)
theorem q_note {a b : Int} (ha : AC M) (hb : BFI M) (h : ¬ a = 0) : pw (mX2_note 65 a b M) (fun q => Z2 q.2) :=
  p_mono (pu_note ha h) (fun q z => ⟨z.1.ac ha, z.1.2.2 hb, z.2⟩)
theorem q_adv {b e : Int} (h : C2 E b M) (h10 : mG M 65 10 = e) (he : 0 ≤ e ∧ e ≤ E.n) : pw (mX2_advance 65 M) (fun q => AF M q.2 ∧ C2 E (E.sk e) q.2) :=
  p_mono (q_advance h.1 h10 he) (fun q z => ⟨z.1, z.1.c2 h z.2⟩)
theorem p_isw8 {β : Type} {Q : β → Prop} {b w : Int} {L : List Int} {f : Int × Mem → Option β} (ce : CE E M) (ct : CTok E b M) (hl : sLn w = some (L.length : Int)) (ha : ∀ i : Nat, i < L.length → sAt w (i : Int) = some (L.getD i 0)) (h5 : 0 < L.length ∧ L.length ≤ 5) (k1 : E.wd b = L → pw (f (1, M)) Q) (k0 : ¬ E.wd b = L → pw (f (0, M)) Q) : pw ((gK 2 M 65).bind fun _ => (mX2_isWord 65 w M).bind f) Q := by
  refine p_gK (p_call (q_isWord ce ct hl ha h5) (fun r M1 h => ?_))
  obtain ⟨h, e⟩ := h
  have e : M1 = M := e
  subst e
  rcases h with ⟨h, hr⟩ | ⟨h, hr⟩
  · have hr : r = 1 := hr
    subst hr; exact k1 h
  · have hr : r = 0 := hr
    subst hr; exact k0 h
theorem q_firstWord {b : Int} (ce : CE E M) (ct : CTok E b M) : pw (mX2_firstWord 65 M) (fun q => q.1 = fst8 E.nr (E.wd b) ∧ q.2 = M) := by
  unfold mX2_firstWord
  refine p_isw8 (L := [97, 108, 108]) ce ct (by decide) (by decide +kernel) (by decide) (fun h => p_it0 (show ¬ (1 : Int) = 0 by decide) (p_ret ⟨(fst8_a (a := 0) (by rw [h]; decide) (by decide)).symm, rfl⟩)) (fun h0 => p_it1 (show (0 : Int) = 0 from rfl) ?_)
  refine p_isw8 (L := [115, 111, 109, 101]) ce ct (by decide) (by decide +kernel) (by decide) (fun h => p_it0 (show ¬ (1 : Int) = 0 by decide) (p_ret ⟨(fst8_a (a := 1) (by rw [h]; decide) (by decide)).symm, rfl⟩)) (fun h1 => p_it1 (show (0 : Int) = 0 from rfl) ?_)
  refine p_isw8 (L := [108, 101, 97, 115, 116]) ce ct (by decide) (by decide +kernel) (by decide) (fun h => p_it0 (show ¬ (1 : Int) = 0 by decide) (p_ret ⟨(fst8_a (a := 2) (by rw [h]; decide) (by decide)).symm, rfl⟩)) (fun h2 => p_it1 (show (0 : Int) = 0 from rfl) ?_)
  refine p_isw8 (L := [109, 111, 115, 116]) ce ct (by decide) (by decide +kernel) (by decide) (fun h => p_it0 (show ¬ (1 : Int) = 0 by decide) (p_ret ⟨(fst8_a (a := 3) (by rw [h]; decide) (by decide)).symm, rfl⟩)) (fun h3 => p_it1 (show (0 : Int) = 0 from rfl) ?_)
  refine p_isw8 (L := [110, 111, 116]) ce ct (by decide) (by decide +kernel) (by decide) (fun h => p_it0 (show ¬ (1 : Int) = 0 by decide) (p_ret ⟨(fst8_a (a := 4) (by rw [h]; decide) (by decide)).symm, rfl⟩)) (fun h4 => p_it1 (show (0 : Int) = 0 from rfl) ?_)
  refine p_isw8 (L := [97, 110, 100]) ce ct (by decide) (by decide +kernel) (by decide) (fun h => p_it0 (show ¬ (1 : Int) = 0 by decide) (p_ret ⟨(fst8_a (a := 5) (by rw [h]; decide) (by decide)).symm, rfl⟩)) (fun h5 => p_it1 (show (0 : Int) = 0 from rfl) ?_)
  refine p_isw8 (L := [111, 114]) ce ct (by decide) (by decide +kernel) (by decide) (fun h => p_it0 (show ¬ (1 : Int) = 0 by decide) (p_ret ⟨(fst8_a (a := 6) (by rw [h]; decide) (by decide)).symm, rfl⟩)) (fun h6 => p_it1 (show (0 : Int) = 0 from rfl) ?_)
  refine p_isw8 (L := [105, 102]) ce ct (by decide) (by decide +kernel) (by decide) (fun h => p_it0 (show ¬ (1 : Int) = 0 by decide) (p_ret ⟨(fst8_a (a := 7) (by rw [h]; decide) (by decide)).symm, rfl⟩)) (fun h7 => p_it1 (show (0 : Int) = 0 from rfl) ?_)
  refine p_isw8 (L := [115, 97, 109, 101]) ce ct (by decide) (by decide +kernel) (by decide) (fun h => p_it0 (show ¬ (1 : Int) = 0 by decide) (p_ret ⟨(fst8_a (a := 8) (by rw [h]; decide) (by decide)).symm, rfl⟩)) (fun h8 => p_it1 (show (0 : Int) = 0 from rfl) ?_)
  refine p_isw8 (L := [114, 101, 97, 99, 104]) ce ct (by decide) (by decide +kernel) (by decide) (fun h => p_it0 (show ¬ (1 : Int) = 0 by decide) (p_ret ⟨(fst8_a (a := 9) (by rw [h]; decide) (by decide)).symm, rfl⟩)) (fun h9 => p_it1 (show (0 : Int) = 0 from rfl) ?_)
  refine p_isw8 (L := [116, 114, 101, 101]) ce ct (by decide) (by decide +kernel) (by decide) (fun h => p_it0 (show ¬ (1 : Int) = 0 by decide) (p_ret ⟨(fst8_a (a := 10) (by rw [h]; decide) (by decide)).symm, rfl⟩)) (fun h10 => p_it1 (show (0 : Int) = 0 from rfl) ?_)
  have no : actW (E.wd b) = -1 := by
    unfold actW
    rw [if_neg h0, if_neg h1, if_neg h2, if_neg h3, if_neg h4, if_neg h5, if_neg h6, if_neg h7, if_neg h8, if_neg h9, if_neg h10]
  have nr := ce.2.2.2.2.2.1
  refine p_gFc (ji := 3) rfl ce.1.2.2.1 (p_gK (p_call (q_oneLetter ce ct) (fun r M1 h => ?_)))
  obtain ⟨h, e⟩ := h
  have e : M1 = M := e
  subst e
  refine p_gK (p_call pu_hasRelation (fun r2 M2 g => ?_))
  obtain ⟨e, g⟩ := g
  have e : M2 = M1 := e
  subst e
  have hr : 0 ≤ r ∧ r ≤ 122 := by
    rcases h with ⟨_, x, y⟩ | ⟨x, _⟩
    · exact ⟨by omega, y⟩
    · exact ⟨Int.le_of_eq x.symm, by have x : r = 0 := x; omega⟩
  rw [wI_id (x := r - 114) (by omega) (by omega), ce.2.2.2.2.1] at g
  unfold fst8
  rw [if_pos no]
  rcases g with ⟨g, g2⟩ | ⟨g, g2⟩
  · have g : r2 = 0 := g
    subst g
    refine p_it1 (show (0 : Int) = 0 from rfl) (p_ret ⟨?_, rfl⟩)
    rcases h with ⟨x, _⟩ | ⟨_, x⟩
    · have x : E.wd b = [r] := x
      rw [x, if_pos (relW_out nr.1 g2)]
    · rw [if_pos (relW_no nr.1 x)]
  · have g : r2 = 1 := g
    subst g
    refine p_it0 (show ¬ (1 : Int) = 0 by decide) (p_ret ⟨?_, rfl⟩)
    rcases h with ⟨x, _⟩ | ⟨x, _⟩
    · have x : E.wd b = [r] := x
      rw [x, relW_in nr.2 g2, if_neg (by omega)]
    · have x : r = 0 := x
      exact absurd g2.1 (by omega)
theorem CTok.we {b : Int} (ce : CE E M) (ct : CTok E b M) (h : ¬ E.wd b = []) : mG M 65 10 = E.we b ∧ 0 ≤ E.we b ∧ E.we b ≤ E.n := by
  have hn := ce.2.2.1
  have hb := ct.2.1
  rcases ct.wd ce with ⟨g1, g2, g3⟩ | ⟨g1, g2⟩
  · have gt := RE.we_gt hb.1 hn.2 g2
    obtain ⟨_, _, _, w4⟩ := E.we_spec b hb.1 hn.2
    exact ⟨g3, by omega, by omega⟩
  · exact absurd (RE.wd_nil hb.1 hn.2 g2) h
theorem q_takeVariable {b : Int} (h : C2 E b M) : pw (mX2_takeVariable 65 M) (fun q => (Z2 q.2 ∧ varW (E.wd b) = -1) ∨ (¬ varW (E.wd b) = -1 ∧ q.1 = cv (varW (E.wd b)) ∧ (0 ≤ varW (E.wd b) ∧ varW (E.wd b) ≤ 3) ∧ AF M q.2 ∧ C2 E (E.sk (E.we b)) q.2)) := by
  unfold mX2_takeVariable
  refine p_gK (p_call (q_oneLetter h.1 h.2.2.2) (fun r M1 g => ?_))
  obtain ⟨g, e⟩ := g
  have e : M1 = M := e
  subst e
  have vb : r < 119 ∨ 122 < r → varW (E.wd b) = -1 := fun hh => by
    rcases g with ⟨g, _⟩ | ⟨_, g⟩
    · have g : E.wd b = [r] := g
      rw [g]; exact varW_out (by omega)
    · exact varW_no g
  have bad : ∀ l, varW (E.wd b) = -1 → pw (mX2_takeVariable_17 65 l M1) (fun q => (Z2 q.2 ∧ varW (E.wd b) = -1) ∨ (¬ varW (E.wd b) = -1 ∧ q.1 = cv (varW (E.wd b)) ∧ (0 ≤ varW (E.wd b) ∧ varW (E.wd b) ≤ 3) ∧ AF M1 q.2 ∧ C2 E (E.sk (E.we b)) q.2)) := fun l vv => by
    unfold mX2_takeVariable_17
    refine p_gK (p_call (q_refuse h.ac h.2.1) (fun r M2 z => ?_))
    unfold mX2_takeVariable_21
    exact p_gF (ji := 4) rfl (fun v hv => p_it0 (fun y => z.2 (hv.trans y)) (p_ret (Or.inl ⟨z.1, vv⟩)))
  refine p_if (fun cc => bad _ (vb (Or.inl cc))) (fun c => p_if (fun c2 => ?_) (fun cc => bad _ (vb (Or.inr (by have cc : ¬ r ≤ 122 := cc; omega)))))
  have c : ¬ r < 119 := c
  have c2 : r ≤ 122 := c2
  rcases g with ⟨g, _⟩ | ⟨g, _⟩
  · have g : E.wd b = [r] := g
    obtain ⟨v1, v2, v3⟩ := varW_in (c := r) ⟨by omega, c2⟩
    obtain ⟨w1, w2⟩ := h.2.2.2.we h.1 (by rw [g]; exact fun z => by cases z)
    unfold mX2_takeVariable_21
    refine p_gFc (ji := 4) rfl h.br (p_it1 rfl (p_gK (p_call (q_adv h w1 w2) (fun r2 M2 z => p_ret (Or.inr ?_)))))
    rw [g, wI_id (x := r - 119) (by omega) (by omega)]
    exact ⟨v1, v2.symm, v3, z⟩
  · have g : r = 0 := g
    exact absurd c (by omega)
theorem q_takeKind {b : Int} (h : C2 E b M) : pw (mX2_takeKind 65 M) (fun q => (Z2 q.2 ∧ kindW (E.wd b) = -1) ∨ (¬ kindW (E.wd b) = -1 ∧ q.1 = kindW (E.wd b) ∧ (0 ≤ q.1 ∧ q.1 ≤ 2) ∧ AF M q.2 ∧ C2 E (E.sk (E.we b)) q.2)) := by
  have good : ∀ k : Int, ¬ E.wd b = [] → kindW (E.wd b) = k → (0 ≤ k ∧ k ≤ 2) → pw (mX2_takeKind_48 65 k M) (fun q => (Z2 q.2 ∧ kindW (E.wd b) = -1) ∨ (¬ kindW (E.wd b) = -1 ∧ q.1 = kindW (E.wd b) ∧ (0 ≤ q.1 ∧ q.1 ≤ 2) ∧ AF M q.2 ∧ C2 E (E.sk (E.we b)) q.2)) := fun k hw hk k0 => by
    obtain ⟨w1, w2⟩ := h.2.2.2.we h.1 hw
    unfold mX2_takeKind_48
    exact p_gFc (ji := 4) rfl h.br (p_it1 rfl (p_gK (p_call (q_adv h w1 w2) (fun r2 M2 z => p_ret (Or.inr ⟨by omega, hk.symm, k0, z⟩)))))
  unfold mX2_takeKind
  refine p_isw8 (L := [109, 97, 110]) h.1 h.2.2.2 (by decide) (by decide +kernel) (by decide) (fun g => p_it0 (show ¬ (1 : Int) = 0 by decide) (good 0 (by rw [g]; exact fun z => by cases z) (by rw [g]; decide) (by decide))) (fun g1 => p_it1 (show (0 : Int) = 0 from rfl) ?_)
  refine p_isw8 (L := [104, 111, 117, 115, 101]) h.1 h.2.2.2 (by decide) (by decide +kernel) (by decide) (fun g => p_it0 (show ¬ (1 : Int) = 0 by decide) (good 1 (by rw [g]; exact fun z => by cases z) (by rw [g]; decide) (by decide))) (fun g2 => p_it1 (show (0 : Int) = 0 from rfl) ?_)
  refine p_isw8 (L := [100, 97, 121]) h.1 h.2.2.2 (by decide) (by decide +kernel) (by decide) (fun g => p_it0 (show ¬ (1 : Int) = 0 by decide) (good 2 (by rw [g]; exact fun z => by cases z) (by rw [g]; decide) (by decide))) (fun g0 => p_it1 (show (0 : Int) = 0 from rfl) ?_)
  refine p_gK (p_call (q_refuse h.ac h.2.1) (fun r M2 z => ?_))
  unfold mX2_takeKind_48
  exact p_gF (ji := 4) rfl (fun v hv => p_it0 (fun y => z.2 (hv.trans y)) (p_ret (Or.inl ⟨z.1, by unfold kindW; rw [if_neg g1, if_neg g2, if_neg g0]⟩)))
theorem q_takeNumber {b : Int} (h : C2 E b M) : pw (mX2_takeNumber 65 M) (fun q => (Z2 q.2 ∧ ¬ E.dig b = true) ∨ (E.dig b = true ∧ AF M q.2 ∧ ((E.de b - b ≤ 4 ∧ q.1 = E.val b (E.de b - b).toNat ∧ C2 E (E.sk (E.de b)) q.2) ∨ (¬ E.de b - b ≤ 4 ∧ C2 E (b + 4) q.2 ∧ E.wd (b + 4) = [])))) := by
  have hn := h.1.2.2.1
  have hb := h.2.2.2.2.1
  obtain ⟨d1, d2, d3, d4⟩ := E.de_spec b hb.1 hn.2
  unfold mX2_takeNumber
  refine p_gF (ji := 8) rfl (fun v hv => p_if (fun c => ?_) (fun c => ?_))
  · obtain ⟨_, _, t⟩ := h.2.2.2
    have t : E.dig b = true ∧ (E.de b - b ≤ 4 → mG M 65 10 = E.de b ∧ mG M 65 11 = E.val b (E.de b - b).toNat) ∧ (¬ E.de b - b ≤ 4 → E.dig (b + 4) = true ∧ mG M 65 10 = b + 4) := by
      rcases t with ⟨_, e⟩ | ⟨_, e, _⟩ | ⟨g, _, x, y⟩ | ⟨_, _, _, e⟩
      · exfalso; omega
      · exfalso; omega
      · exact ⟨g, x, y⟩
      · exfalso; omega
    obtain ⟨g, x, y⟩ := t
    have lt := RE.digT g
    have d5 : E.de b ≤ E.n := by
      rcases d4 with d4 | d4
      · exact d4
      · omega
    unfold mX2_takeNumber_12
    refine p_gFc (ji := 4) rfl h.br (p_it1 rfl ?_)
    by_cases c4 : E.de b - b ≤ 4
    · obtain ⟨x1, x2⟩ := x c4
      exact p_gFc (ji := 11) rfl x2 (p_gK (p_call (q_adv h x1 ⟨by omega, d5⟩) (fun r2 M2 z => p_ret (Or.inr ⟨g, z.1, Or.inl ⟨c4, rfl, z.2⟩⟩))))
    · obtain ⟨y1, y2⟩ := y c4
      have l4 := RE.digT y1
      have s4 : E.sk (b + 4) = b + 4 := ru_eq 400 (b + 4) (b + 4) (Int.le_refl _) (by omega) (fun i i0 i1 => absurd i1 (by omega)) (decide_eq_false (by omega))
      refine p_gF (ji := 11) rfl (fun v2 _ => p_gK (p_call (q_adv h y2 ⟨by omega, by omega⟩) (fun r2 M2 z => p_ret (Or.inr ⟨g, z.1, Or.inr ⟨c4, ?_, ?_⟩⟩))))
      · have := z.2; rw [s4] at this; exact this
      · exact RE.wd_nil (by omega) hn.2 (decide_eq_false (by omega))
  · refine p_gK (p_call (q_refuse h.ac h.2.1) (fun r M2 z => ?_))
    unfold mX2_takeNumber_12
    have nd : ¬ E.dig b = true := fun y => by
      have := RE.digT y
      obtain ⟨_, _, t⟩ := h.2.2.2
      rcases t with ⟨e, _⟩ | ⟨e, _⟩ | ⟨_, e, _⟩ | ⟨_, _, e, _⟩
      · omega
      · have := RE.letT e; omega
      · exact c (hv.symm.trans e)
      · rw [e] at y; cases y
    exact p_gF (ji := 4) rfl (fun v hv => p_it0 (fun y => z.2 (hv.trans y)) (p_ret (Or.inl ⟨z.1, nd⟩)))
theorem q_takeRelation {b : Int} (h : C2 E b M) : pw (mX2_takeRelation 65 M) (fun q => (Z2 q.2 ∧ relW E.nr (E.wd b) = -1) ∨ (¬ relW E.nr (E.wd b) = -1 ∧ q.1 = relW E.nr (E.wd b) ∧ (0 ≤ q.1 ∧ q.1 < E.nr) ∧ AF M q.2 ∧ C2 E (E.sk (E.we b)) q.2)) := by
  have nr := h.1.2.2.2.2.2.1
  unfold mX2_takeRelation
  refine p_gK (p_call (q_oneLetter h.1 h.2.2.2) (fun r M1 g => ?_))
  obtain ⟨g, e⟩ := g
  have e : M1 = M := e
  subst e
  refine p_gFc (ji := 3) rfl h.ac.2.2.1 (p_gK (p_call pu_hasRelation (fun r2 M2 g2 => ?_)))
  obtain ⟨e, g2⟩ := g2
  have e : M2 = M1 := e
  subst e
  have hr : 0 ≤ r ∧ r ≤ 122 := by
    rcases g with ⟨_, x, y⟩ | ⟨x, _⟩
    · exact ⟨by omega, y⟩
    · exact ⟨Int.le_of_eq x.symm, by have x : r = 0 := x; omega⟩
  rw [wI_id (x := r - 114) (by omega) (by omega), h.1.2.2.2.2.1] at g2
  rcases g2 with ⟨c, g2⟩ | ⟨c, g2⟩
  · have c : r2 = 0 := c
    subst c
    refine p_it1 (show (0 : Int) = 0 from rfl) (p_gK (p_call (q_refuse h.ac h.2.1) (fun r3 M3 z => ?_)))
    unfold mX2_takeRelation_23
    have nw : relW E.nr (E.wd b) = -1 := by
      rcases g with ⟨g, _⟩ | ⟨_, g⟩
      · have g : E.wd b = [r] := g
        rw [g]; exact relW_out nr.1 g2
      · exact relW_no nr.1 g
    exact p_gF (ji := 4) rfl (fun v hv => p_it0 (fun y => z.2 (hv.trans y)) (p_ret (Or.inl ⟨z.1, nw⟩)))
  · have c : r2 = 1 := c
    subst c
    refine p_it0 (show ¬ (1 : Int) = 0 by decide) ?_
    rcases g with ⟨g, _⟩ | ⟨g, _⟩
    · have g : E.wd b = [r] := g
      obtain ⟨w1, w2⟩ := h.2.2.2.we h.1 (by rw [g]; exact fun z => by cases z)
      unfold mX2_takeRelation_23
      refine p_gFc (ji := 4) rfl h.br (p_it1 rfl (p_gK (p_call (q_adv h w1 w2) (fun r3 M3 z => p_ret (Or.inr ?_)))))
      rw [g, relW_in nr.2 g2, wI_id (x := r - 114) (by omega) (by omega)]
      exact ⟨by omega, rfl, g2, z⟩
    · have g : r = 0 := g
      exact absurd g2.1 (by omega)
end
end
section
/-! ===== what is bound: both sides' words for it ===== -/
theorem tb15 (i : Nat) : Nat.testBit 15 i = decide (i < 4) := Nat.testBit_two_pow_sub_one 4 i
theorem tb_lt {x i : Nat} (h : x < 16) (hi : ¬ i < 4) : x.testBit i = false := Nat.testBit_lt_two_pow (Nat.lt_of_lt_of_le h (show 2 ^ 4 ≤ 2 ^ i from Nat.pow_le_pow_right (by decide) (by omega)))
def bm (c : Nat) : Nat := 65535 - 15 * 2 ^ (4 * c)
theorem nb_same {S x c d : Nat} (hx : x < 16) (hc : c ≤ 3) : ((((S &&& bm c) ||| (x <<< (4 * c))) ||| (d <<< 16)) >>> (4 * c)) &&& 15 = x := by
  refine Nat.eq_of_testBit_eq (fun i => ?_)
  rw [Nat.testBit_and, Nat.testBit_shiftRight, Nat.testBit_or, Nat.testBit_or, Nat.testBit_and, Nat.testBit_shiftLeft, Nat.testBit_shiftLeft, tb15]
  by_cases hi : i < 4
  · have m : ∀ c, c ≤ 3 → ∀ i, i < 4 → (bm c).testBit (4 * c + i) = false := by decide
    rw [m c hc i hi, decide_eq_true hi, decide_eq_false (show ¬ 4 * c + i ≥ 16 by omega), decide_eq_true (show 4 * c + i ≥ 4 * c by omega), show 4 * c + i - 4 * c = i by omega]
    simp
  · rw [decide_eq_false hi, tb_lt hx hi]; simp
theorem nb_other {S x c c' d : Nat} (hx : x < 16) (hc : c ≤ 3) (hc' : c' ≤ 3) (h : ¬ c' = c) : ((((S &&& bm c) ||| (x <<< (4 * c))) ||| (d <<< 16)) >>> (4 * c')) &&& 15 = (S >>> (4 * c')) &&& 15 := by
  refine Nat.eq_of_testBit_eq (fun i => ?_)
  rw [Nat.testBit_and, Nat.testBit_shiftRight, Nat.testBit_or, Nat.testBit_or, Nat.testBit_and, Nat.testBit_shiftLeft, Nat.testBit_shiftLeft, tb15, Nat.testBit_and, Nat.testBit_shiftRight, tb15]
  by_cases hi : i < 4
  · have m : ∀ c, c ≤ 3 → ∀ c', c' ≤ 3 → ¬ c' = c → ∀ i, i < 4 → (bm c).testBit (4 * c' + i) = true := by decide
    rw [m c hc c' hc' h i hi, decide_eq_true hi, decide_eq_false (show ¬ 4 * c' + i ≥ 16 by omega)]
    by_cases g : c ≤ c'
    · rw [tb_lt hx (show ¬ 4 * c' + i - 4 * c < 4 by omega)]; simp
    · rw [decide_eq_false (show ¬ 4 * c' + i ≥ 4 * c by omega)]; simp
  · rw [decide_eq_false hi]; simp
theorem nb_dep {S x c d : Nat} (hx : x < 16) (hc : c ≤ 3) : ((((S &&& bm c) ||| (x <<< (4 * c))) ||| (d <<< 16)) >>> 16) = d := by
  refine Nat.eq_of_testBit_eq (fun i => ?_)
  rw [Nat.testBit_shiftRight, Nat.testBit_or, Nat.testBit_or, Nat.testBit_and, Nat.testBit_shiftLeft, Nat.testBit_shiftLeft]
  have m : (bm c).testBit (16 + i) = false := Nat.testBit_lt_two_pow (Nat.lt_of_lt_of_le (show bm c < 2 ^ 16 by unfold bm; omega) (Nat.pow_le_pow_right (by decide) (by omega)))
  rw [m, tb_lt hx (show ¬ 16 + i - 4 * c < 4 by omega), decide_eq_true (show 16 + i ≥ 16 by omega), show 16 + i - 16 = i by omega]
  simp
theorem ior_nat {x y : Int} (h0 : 0 ≤ x) (h1 : x < 1073741824) (hy0 : 0 ≤ y) (hy1 : y < 1073741824) : ior x y = ((x.toNat ||| y.toNat : Nat) : Int) := by
  unfold ior
  have e : (Int32.ofInt x ||| Int32.ofInt y).toBitVec.toNat = x.toNat ||| y.toNat := by
    rw [Int32.toBitVec_or, BitVec.toNat_or, nonneg_bv h0 (by omega), nonneg_bv hy0 (by omega)]
  have h2 : x.toNat ||| y.toNat < 2 ^ 30 := Nat.or_lt_two_pow (by omega) (by omega)
  rw [toInt_small _ (by rw [e]; omega), e]
theorem ior_nn {a b : Nat} (ha : a < 1073741824) (hb : b < 1073741824) : ior (a : Int) (b : Int) = ((a ||| b : Nat) : Int) := by
  have := ior_nat (x := (a : Int)) (y := (b : Int)) (by omega) (by omega) (by omega) (by omega)
  rw [Int.toNat_natCast, Int.toNat_natCast] at this
  exact this
/-- and with a word whose high bits stand -/
theorem iand_hi {x m : Int} {k : Nat} (h0 : 0 ≤ x) (h1 : x < 2147483648) (hm : (Int32.ofInt m).toBitVec.toNat = k) : iand x m = ((x.toNat &&& k : Nat) : Int) := by
  unfold iand
  have e : (Int32.ofInt x &&& Int32.ofInt m).toBitVec.toNat = x.toNat &&& k := by
    rw [Int32.toBitVec_and, BitVec.toNat_and, nonneg_bv h0 h1, hm]
  have h2 : x.toNat &&& k ≤ x.toNat := Nat.and_le_left
  rw [toInt_small _ (by rw [e]; omega), e]
theorem mskC : ∀ c : Nat, c ≤ 3 → (Int32.ofInt (ixor (ishl 15 (wI (4 * (c : Int)))) (-1))).toBitVec.toNat = 4294967295 - 15 * 2 ^ (4 * c) := by decide +kernel
theorem mskC2 : ∀ c : Nat, c ≤ 3 → 65535 &&& (4294967295 - 15 * 2 ^ (4 * c)) = bm c := by decide +kernel
theorem shlC : ∀ c : Nat, c ≤ 3 → ∀ x : Nat, x < 16 → ishl (x : Int) (wI (4 * (c : Int))) = ((x <<< (4 * c) : Nat) : Int) := by decide +kernel
theorem shlD : ∀ d : Nat, d < 16 → ishl (d : Int) 16 = ((d <<< 16 : Nat) : Int) := by decide +kernel
theorem shrC {x : Int} (h0 : 0 ≤ x) (h1 : x < 2147483648) {c : Nat} (hc : c ≤ 3) : ishr x (wI (4 * (c : Int))) = ((x.toNat >>> (4 * c) : Nat) : Int) := by
  rw [wI_id (x := 4 * (c : Int)) (by omega) (by omega), show (4 : Int) * (c : Int) = ((4 * c : Nat) : Int) by omega, ishr_e h0 h1 (by omega), Nat.shiftRight_eq_div_pow]
  obtain ⟨n, rfl⟩ := Int.eq_ofNat_of_zero_le h0
  simp
theorem bindC_nat {sc k s : Int} {c : Nat} (h0 : 0 ≤ sc) (h1 : sc < 1048576) (hc : c ≤ 3) (hk : 0 ≤ k ∧ k ≤ 2) (hs : 0 ≤ s ∧ s ≤ 3) (hd : 0 ≤ ishr sc 16 ∧ ishr sc 16 ≤ 3) : bindC sc (c : Int) k s = (((((sc.toNat &&& bm c) ||| ((1 + k + 4 * s).toNat <<< (4 * c))) ||| ((ishr sc 16 + 1).toNat <<< 16) : Nat)) : Int) := by
  unfold bindC
  have e1 : iand sc 65535 = ((sc.toNat &&& 65535 : Nat) : Int) := iand_nat h0 (by omega) (by decide) (by decide)
  have l1 : sc.toNat &&& 65535 ≤ 65535 := Nat.and_le_right
  have e2 : iand (iand sc 65535) (ixor (ishl 15 (wI (4 * (c : Int)))) (-1)) = ((sc.toNat &&& bm c : Nat) : Int) := by
    rw [iand_hi (by rw [e1]; omega) (by rw [e1]; omega) (mskC c hc), e1, Int.toNat_natCast, Nat.and_assoc, mskC2 c hc]
  have l2 : sc.toNat &&& bm c ≤ bm c := Nat.and_le_right
  have l3 : bm c ≤ 65535 := by unfold bm; omega
  have e3 : wI (wI (1 + k) + wI (4 * s)) = (((1 + k + 4 * s).toNat : Nat) : Int) := by
    rw [wI_id (x := 1 + k) (by omega) (by omega), wI_id (x := 4 * s) (by omega) (by omega), wI_id (x := 1 + k + 4 * s) (by omega) (by omega)]; omega
  have e4 := shlC c hc (1 + k + 4 * s).toNat (by omega)
  have e5 : wI (ishr sc 16 + 1) = (((ishr sc 16 + 1).toNat : Nat) : Int) := by
    rw [wI_id (x := ishr sc 16 + 1) (by omega) (by omega)]; omega
  have e6 := shlD (ishr sc 16 + 1).toNat (by omega)
  have b4 : (1 + k + 4 * s).toNat <<< (4 * c) < 2 ^ 16 := by
    rw [Nat.shiftLeft_eq]
    have p : (2 : Nat) ^ (4 * c) ≤ 2 ^ 12 := Nat.pow_le_pow_right (by decide) (by omega)
    have q : (1 + k + 4 * s).toNat ≤ 15 := by omega
    exact Nat.lt_of_le_of_lt (Nat.mul_le_mul q p) (by decide)
  have b6 : (ishr sc 16 + 1).toNat <<< 16 < 2 ^ 20 := by
    rw [Nat.shiftLeft_eq]
    have q : (ishr sc 16 + 1).toNat ≤ 4 := by omega
    exact Nat.lt_of_le_of_lt (Nat.mul_le_mul_right _ q) (by decide)
  have b7 : (sc.toNat &&& bm c) ||| ((1 + k + 4 * s).toNat <<< (4 * c)) < 2 ^ 16 := Nat.or_lt_two_pow (by omega) b4
  rw [e2, e3, e4, e5, e6, ior_nn (by omega) (Nat.lt_trans b4 (by decide)), ior_nn (Nat.lt_trans b7 (by decide)) (Nat.lt_trans b6 (by decide))]
theorem tb3 (i : Nat) : Nat.testBit 3 i = decide (i < 2) := Nat.testBit_two_pow_sub_one 2 i
theorem tb_lt4 {x i : Nat} (h : x < 4) (hi : ¬ i < 2) : x.testBit i = false := Nat.testBit_lt_two_pow (Nat.lt_of_lt_of_le h (show 2 ^ 2 ≤ 2 ^ i from Nat.pow_le_pow_right (by decide) (by omega)))
def rm (v : Nat) : Nat := 4294967295 - 3 * 2 ^ (2 * v)
theorem rb_same {B x v : Nat} (hx : x < 4) (hv : v < 4) : (((B &&& rm v) ||| (x <<< (2 * v))) >>> (2 * v)) &&& 3 = x := by
  refine Nat.eq_of_testBit_eq (fun i => ?_)
  rw [Nat.testBit_and, Nat.testBit_shiftRight, Nat.testBit_or, Nat.testBit_and, Nat.testBit_shiftLeft, tb3]
  by_cases hi : i < 2
  · have m : ∀ v, v < 4 → ∀ i, i < 2 → (rm v).testBit (2 * v + i) = false := by decide +kernel
    rw [m v hv i hi, decide_eq_true hi, decide_eq_true (show 2 * v + i ≥ 2 * v by omega), show 2 * v + i - 2 * v = i by omega]
    simp
  · rw [decide_eq_false hi, tb_lt4 hx hi]; simp
theorem rb_other {B x v u : Nat} (hx : x < 4) (hv : v < 4) (hu : u < 4) (h : ¬ u = v) : (((B &&& rm v) ||| (x <<< (2 * v))) >>> (2 * u)) &&& 3 = (B >>> (2 * u)) &&& 3 := by
  refine Nat.eq_of_testBit_eq (fun i => ?_)
  rw [Nat.testBit_and, Nat.testBit_shiftRight, Nat.testBit_or, Nat.testBit_and, Nat.testBit_shiftLeft, tb3, Nat.testBit_and, Nat.testBit_shiftRight, tb3]
  by_cases hi : i < 2
  · have m : ∀ v, v < 4 → ∀ u, u < 4 → ¬ u = v → ∀ i, i < 2 → (rm v).testBit (2 * u + i) = true := by decide +kernel
    rw [m v hv u hu h i hi, decide_eq_true hi]
    by_cases g : v ≤ u
    · rw [tb_lt4 hx (show ¬ 2 * u + i - 2 * v < 2 by omega)]; simp
    · rw [decide_eq_false (show ¬ 2 * u + i ≥ 2 * v by omega)]; simp
  · rw [decide_eq_false hi]; simp
theorem rb_dep {B x v : Nat} (hx : x < 4) (hv : v < 4) (hB : B < 2048) : ((B &&& rm v) ||| (x <<< (2 * v))) >>> 8 = B >>> 8 := by
  refine Nat.eq_of_testBit_eq (fun i => ?_)
  rw [Nat.testBit_shiftRight, Nat.testBit_or, Nat.testBit_and, Nat.testBit_shiftLeft, Nat.testBit_shiftRight]
  rw [tb_lt4 hx (show ¬ 8 + i - 2 * v < 2 by omega)]
  by_cases hi : i < 3
  · have m : ∀ v, v < 4 → ∀ i, i < 3 → (rm v).testBit (8 + i) = true := by decide +kernel
    rw [m v hv i hi]; simp
  · have : B.testBit (8 + i) = false := Nat.testBit_lt_two_pow (Nat.lt_of_lt_of_le hB (show 2 ^ 11 ≤ 2 ^ (8 + i) from Nat.pow_le_pow_right (by decide) (by omega)))
    rw [this]; simp
theorem mskR : ∀ v : Nat, v < 4 → (Int32.ofInt (ixor (ishl 3 (wI (2 * (v : Int)))) (-1))).toBitVec.toNat = rm v := by decide +kernel
theorem shlR : ∀ v : Nat, v < 4 → ∀ x : Nat, x < 4 → ishl (x : Int) (wI (2 * (v : Int))) = ((x <<< (2 * v) : Nat) : Int) := by decide +kernel
theorem shrR {x : Int} (h0 : 0 ≤ x) (h1 : x < 2147483648) {v : Nat} (hv : v < 4) : ishr x (wI (2 * (v : Int))) = ((x.toNat >>> (2 * v) : Nat) : Int) := by
  rw [wI_id (x := 2 * (v : Int)) (by omega) (by omega), show (2 : Int) * (v : Int) = ((2 * v : Nat) : Int) by omega, ishr_e h0 h1 (by omega), Nat.shiftRight_eq_div_pow]
  obtain ⟨n, rfl⟩ := Int.eq_ofNat_of_zero_le h0
  simp
theorem bindR_nat {bo k : Int} {v : Nat} (h0 : 0 ≤ bo) (h1 : bo < 2048) (hv : v < 4) (hk : 0 ≤ k ∧ k ≤ 2) : bindR bo (v : Int) k = (((((bo.toNat &&& rm v) ||| (k.toNat <<< (2 * v))) + 256 : Nat)) : Int) ∧ ((bo.toNat &&& rm v) ||| (k.toNat <<< (2 * v))) < 2048 := by
  unfold bindR
  have e1 : iand bo (ixor (ishl 3 (wI (2 * (v : Int)))) (-1)) = ((bo.toNat &&& rm v : Nat) : Int) := iand_hi h0 (by omega) (mskR v hv)
  have l1 : bo.toNat &&& rm v ≤ bo.toNat := Nat.and_le_left
  have e2 := shlR v hv k.toNat (by omega)
  rw [show ((k.toNat : Nat) : Int) = k by omega] at e2
  have b2 : k.toNat <<< (2 * v) < 2 ^ 11 := by
    rw [Nat.shiftLeft_eq]
    have p : (2 : Nat) ^ (2 * v) ≤ 2 ^ 6 := Nat.pow_le_pow_right (by decide) (by omega)
    have q : k.toNat ≤ 2 := by omega
    exact Nat.lt_of_le_of_lt (Nat.mul_le_mul q p) (by decide)
  have b3 : (bo.toNat &&& rm v) ||| (k.toNat <<< (2 * v)) < 2 ^ 11 := Nat.or_lt_two_pow (by omega) b2
  refine ⟨?_, b3⟩
  rw [e1, e2, ior_nn (by omega) (Nat.lt_trans b2 (by decide))]
  generalize hX : (bo.toNat &&& rm v) ||| (k.toNat <<< (2 * v)) = X at b3 ⊢
  rw [wI_id (by omega) (by omega)]
  rfl
theorem bnd_nat {bo : Int} {v : Nat} (h0 : 0 ≤ bo) (h1 : bo < 2147483648) (hv : v < 4) : bnd bo (v : Int) = if (bo.toNat >>> (2 * v)) &&& 3 = 3 then -1 else (((bo.toNat >>> (2 * v)) &&& 3 : Nat) : Int) := by
  unfold bnd
  rw [shrR h0 h1 hv]
  have l : bo.toNat >>> (2 * v) ≤ bo.toNat := by rw [Nat.shiftRight_eq_div_pow]; exact Nat.div_le_self _ _
  rw [iand_nat (Int.natCast_nonneg _) (by omega) (by decide) (by decide), Int.toNat_natCast]
  show (if (((bo.toNat >>> (2 * v)) &&& 3 : Nat) : Int) = 3 then _ else _) = _
  by_cases e : (bo.toNat >>> (2 * v)) &&& 3 = 3
  · rw [if_pos e, if_pos (by rw [e]; rfl)]
  · rw [if_neg e, if_neg (fun z => e (by omega))]; rfl
def cn (v : Nat) : Nat := if v = 3 then 0 else v + 1
theorem cv_n : ∀ v : Nat, v < 4 → cv (v : Int) = ((cn v : Nat) : Int) ∧ cn v ≤ 3 := by decide
theorem cn_inj : ∀ v : Nat, v < 4 → ∀ u : Nat, u < 4 → ¬ u = v → ¬ cn u = cn v := by decide
theorem cbd_nat {sc : Int} {v : Nat} (h0 : 0 ≤ sc) (h1 : sc < 2147483648) (hv : v < 4) : cbd sc (v : Int) = (((sc.toNat >>> (4 * cn v)) &&& 15 : Nat) : Int) := by
  unfold cbd
  obtain ⟨e1, e2⟩ := cv_n v hv
  rw [e1, shrC h0 h1 e2]
  have l : sc.toNat >>> (4 * cn v) ≤ sc.toNat := by rw [Nat.shiftRight_eq_div_pow]; exact Nat.div_le_self _ _
  rw [iand_nat (Int.natCast_nonneg _) (by omega) (by decide) (by decide), Int.toNat_natCast]
  rfl
theorem idiv256 (x : Nat) (h : x < 2304) : idiv (x : Int) 256 = ((x / 256 : Nat) : Int) := by
  rw [idiv_e (by omega) (by omega) (by decide) (by decide)]; rfl
/-- both words say the same of every variable, and of the depth -/
def ScR (sc bo : Int) : Prop := (0 ≤ sc ∧ sc < 1048576) ∧ (0 ≤ bo ∧ bo < 1280) ∧ (∀ v : Nat, v < 4 → (bnd bo (v : Int) = -1 ∧ cbd sc (v : Int) = 0) ∨ (¬ cbd sc (v : Int) = 0 ∧ 0 ≤ bnd bo (v : Int) ∧ bnd bo (v : Int) ≤ 2 ∧ iand (wI (cbd sc (v : Int) - 1)) 3 = bnd bo (v : Int))) ∧ ishr sc 16 = idiv bo 256 ∧ 0 ≤ ishr sc 16 ∧ ishr sc 16 ≤ 4
theorem ScR.start : ScR 0 255 := ⟨by decide, by decide, by decide +kernel, by decide +kernel, by decide +kernel, by decide +kernel⟩
theorem low3 : ∀ k : Nat, k < 3 → ∀ s : Nat, s < 4 → iand (wI (((1 + k + 4 * s : Nat) : Int) - 1)) 3 = (k : Int) := by decide +kernel
theorem bindC_ex {sc : Int} {v k s : Nat} (h0 : 0 ≤ sc) (h1 : sc < 1048576) (hv : v < 4) (hk : k ≤ 2) (hs : s ≤ 3) (hd : ishr sc 16 = (s : Int)) : ∃ N : Nat, bindC sc (cv (v : Int)) (k : Int) (s : Int) = (N : Int) ∧ N < 1048576 ∧ (N >>> (4 * cn v)) &&& 15 = 1 + k + 4 * s ∧ (∀ u : Nat, u < 4 → ¬ u = v → (N >>> (4 * cn u)) &&& 15 = (sc.toNat >>> (4 * cn u)) &&& 15) ∧ N / 65536 = s + 1 := by
  obtain ⟨c1, c2⟩ := cv_n v hv
  have e := bindC_nat (k := (k : Int)) (s := (s : Int)) h0 h1 c2 ⟨by omega, by omega⟩ ⟨by omega, by omega⟩ ⟨by omega, by omega⟩
  have e1 : (1 + (k : Int) + 4 * (s : Int)).toNat = 1 + k + 4 * s := by omega
  have e2 : (ishr sc 16 + 1).toNat = s + 1 := by omega
  rw [e1, e2] at e
  have hx : 1 + k + 4 * s < 16 := by omega
  have l3 : sc.toNat &&& bm (cn v) ≤ bm (cn v) := Nat.and_le_right
  have l4 : bm (cn v) ≤ 65535 := by unfold bm; omega
  have b4 : (1 + k + 4 * s) <<< (4 * cn v) < 2 ^ 20 := by
    rw [Nat.shiftLeft_eq]
    have p : (2 : Nat) ^ (4 * cn v) ≤ 2 ^ 12 := Nat.pow_le_pow_right (by decide) (by omega)
    exact Nat.lt_of_le_of_lt (Nat.mul_le_mul (show _ ≤ 15 by omega) p) (by decide)
  have b6 : (s + 1) <<< 16 < 2 ^ 20 := by
    rw [Nat.shiftLeft_eq]
    exact Nat.lt_of_le_of_lt (Nat.mul_le_mul_right _ (show _ ≤ 4 by omega)) (by decide)
  refine ⟨_, by rw [c1]; exact e, Nat.or_lt_two_pow (Nat.or_lt_two_pow (by omega) b4) b6, nb_same hx c2, fun u hu hn => nb_other hx c2 (cv_n u hu).2 (cn_inj v hv u hu hn), ?_⟩
  have d := nb_dep (S := sc.toNat) (d := s + 1) hx c2
  rw [Nat.shiftRight_eq_div_pow] at d
  exact d
theorem bindR_ex {bo : Int} {v k : Nat} (h0 : 0 ≤ bo) (h1 : bo < 2048) (hv : v < 4) (hk : k ≤ 2) : ∃ N : Nat, bindR bo (v : Int) (k : Int) = (N : Int) ∧ N < 2304 ∧ (N >>> (2 * v)) &&& 3 = k ∧ (∀ u : Nat, u < 4 → ¬ u = v → (N >>> (2 * u)) &&& 3 = (bo.toNat >>> (2 * u)) &&& 3) ∧ N / 256 = bo.toNat / 256 + 1 := by
  obtain ⟨f, fB⟩ := bindR_nat (bo := bo) (k := (k : Int)) h0 h1 hv ⟨by omega, by omega⟩
  rw [Int.toNat_natCast] at f fB
  have q : ∀ X u : Nat, u < 4 → ((X + 256) >>> (2 * u)) &&& 3 = (X >>> (2 * u)) &&& 3 := fun X u hu => by
    rw [Nat.shiftRight_eq_div_pow, Nat.shiftRight_eq_div_pow, show (3 : Nat) = 2 ^ 2 - 1 from rfl, Nat.and_two_pow_sub_one_eq_mod, Nat.and_two_pow_sub_one_eq_mod]
    have : u = 0 ∨ u = 1 ∨ u = 2 ∨ u = 3 := by omega
    rcases this with z | z | z | z <;> subst z <;> omega
  have rd := rb_dep (B := bo.toNat) (x := k) (v := v) (by omega) hv (by omega)
  rw [Nat.shiftRight_eq_div_pow, Nat.shiftRight_eq_div_pow] at rd
  refine ⟨_, f, by omega, by rw [q _ v hv]; exact rb_same (by omega) hv, fun u hu hn => by rw [q _ u hu]; exact rb_other (by omega) hv hu hn, ?_⟩
  have rd : ((bo.toNat &&& rm v) ||| (k <<< (2 * v))) / 256 = bo.toNat / 256 := rd
  generalize (bo.toNat &&& rm v) ||| (k <<< (2 * v)) = X at rd ⊢
  omega
theorem ScR.step {sc bo : Int} (h : ScR sc bo) (hd : ishr sc 16 < 4) {v k : Int} (hv : 0 ≤ v ∧ v ≤ 3) (hk : 0 ≤ k ∧ k ≤ 2) : ScR (bindC sc (cv v) k (ishr sc 16)) (bindR bo v k) := by
  obtain ⟨a1, a2, a3, a4, a5, a6⟩ := h
  obtain ⟨v, rfl⟩ := Int.eq_ofNat_of_zero_le hv.1
  obtain ⟨k, rfl⟩ := Int.eq_ofNat_of_zero_le hk.1
  obtain ⟨s, hs⟩ := Int.eq_ofNat_of_zero_le a5
  have hv4 : v < 4 := by omega
  obtain ⟨N, e, N1, N2, N3, N4⟩ := bindC_ex (v := v) (k := k) (s := s) a1.1 a1.2 hv4 (by omega) (by omega) hs
  obtain ⟨R, f, R1, R2, R3, R4⟩ := bindR_ex (bo := bo) (v := v) (k := k) a2.1 (by omega) hv4 (by omega)
  have i1 := idiv256 bo.toNat (by omega)
  rw [show ((bo.toNat : Nat) : Int) = bo by omega] at i1
  have dep : ishr (N : Int) 16 = (s : Int) + 1 := by
    have := ishr_e (x := (N : Int)) (k := 16) (by omega) (by omega) (by decide)
    rw [show ((16 : Nat) : Int) = 16 from rfl] at this
    rw [this, show ((2 : Int) ^ 16) = 65536 from rfl]
    omega
  rw [hs, e, f]
  have i2 := idiv256 R R1
  refine ⟨⟨by omega, by omega⟩, ⟨by omega, by omega⟩, ?_, by rw [dep, i2]; omega, by omega, by omega⟩
  intro u hu
  rw [cbd_nat (by omega) (by omega) hu, Int.toNat_natCast, bnd_nat (by omega) (by omega) hu, Int.toNat_natCast]
  by_cases eq : u = v
  · subst eq
    rw [N2, R2, if_neg (by omega)]
    right
    refine ⟨by omega, by omega, by omega, ?_⟩
    exact low3 k (by omega) s (by omega)
  · rw [N3 u hu eq, R3 u hu eq]
    have := a3 u hu
    rw [cbd_nat a1.1 (by omega) hu, bnd_nat a2.1 (by omega) hu] at this
    exact this
end
