/-! ===== the class's tokens ===== -/
def CE (E : RE) (M : Mem) : Prop := AC M ∧ mG M 65 2 = E.n ∧ (0 ≤ E.n ∧ E.n ≤ 400) ∧ (∀ i, 0 ≤ i → i < E.n → mG M 13 i = E.t i) ∧ mG M 4 6 = E.nr ∧ (0 ≤ E.nr ∧ E.nr ≤ 4) ∧ (mG M 4 1 = 6 ∧ mG M 4 2 = 7) ∧ (∀ r, 0 ≤ r → r < E.nr → mG M 6 r = E.k1 r ∧ mG M 7 r = E.k2 r) ∧ ((mK M 67).2 = 40 ∧ (mK M 72).2 = 402)
/-- only the token's fields are others -/
def AF (M M' : Mem) : Prop := (∀ c j : Int, ¬ (c = 65 ∧ 8 ≤ j) → mG M' c j = mG M c j) ∧ ∀ c : Int, mK M' c = mK M c
theorem AF.rf {M : Mem} : AF M M := ⟨fun _ _ _ => rfl, fun _ => rfl⟩
theorem AF.tr {M M1 M2 : Mem} (h1 : AF M M1) (h2 : AF M1 M2) : AF M M2 := ⟨fun c j h => (h2.1 c j h).trans (h1.1 c j h), fun c => (h2.2 c).trans (h1.2 c)⟩
theorem AF.st {M M1 M2 : Mem} {i x : Int} (h1 : AF M M1) (hM : M2 = mS M1 65 i x) (hi : 8 ≤ i) : AF M M2 := ⟨fun c j h => (st_ne hM (fun z => h ⟨z.1, by omega⟩)).trans (h1.1 c j h), fun c => (st_k hM c).trans (h1.2 c)⟩
/-- the reader's environment stays where its cells do -/
theorem CE.kp {E : RE} {M M' : Mem} (e : CE E M) (h : ∀ c j : Int, (c = 65 ∧ (j ≤ 3 ∨ j = 5 ∨ j = 6)) ∨ c = 13 ∨ c = 4 ∨ c = 6 ∨ c = 7 ∨ (c = 66 ∧ j ≤ 3) → mG M' c j = mG M c j) (hk : ∀ c : Int, mK M' c = mK M c) : CE E M' := by
  obtain ⟨a, e1, e2, e3, e4, e5, e6, e7, e8⟩ := e
  refine ⟨?_, (h 65 2 (by omega)).trans e1, e2, fun i i0 i1 => (h 13 i (by omega)).trans (e3 i i0 i1), (h 4 6 (by omega)).trans e4, e5, ⟨(h 4 1 (by omega)).trans e6.1, (h 4 2 (by omega)).trans e6.2⟩, fun r r0 r1 => ⟨(h 6 r (by omega)).trans (e7 r r0 r1).1, (h 7 r (by omega)).trans (e7 r r0 r1).2⟩, by rw [hk 67, hk 72]; exact e8⟩
  obtain ⟨a0, a1, a2, a3, a4, a5, a6, a7, a8⟩ := a
  exact ⟨(h _ _ (by omega)).trans a0, (h _ _ (by omega)).trans a1, (h _ _ (by omega)).trans a2, (h _ _ (by omega)).trans a3, (h _ _ (by omega)).trans a4, (h _ _ (by omega)).trans a5, (h _ _ (by omega)).trans a6, (h _ _ (by omega)).trans a7, (h _ _ (by omega)).trans a8⟩
theorem AF.ce {E : RE} {M M' : Mem} (h : AF M M') (e : CE E M) : CE E M' := e.kp (fun c j z => h.1 c j (by omega)) h.2
section
variable {E : RE} {M : Mem}
theorem RE.letT {p : Int} (h : E.let' p = true) : p < E.n ∧ 97 ≤ E.t p ∧ E.t p ≤ 122 := of_decide_eq_true h
theorem RE.letF {p : Int} (h : E.let' p = false) : ¬ (p < E.n ∧ 97 ≤ E.t p ∧ E.t p ≤ 122) := of_decide_eq_false h
theorem RE.digT {p : Int} (h : E.dig p = true) : p < E.n ∧ 48 ≤ E.t p ∧ E.t p ≤ 57 := of_decide_eq_true h
theorem RE.digF {p : Int} (h : E.dig p = false) : ¬ (p < E.n ∧ 48 ≤ E.t p ∧ E.t p ≤ 57) := of_decide_eq_false h
theorem RE.blkT {p : Int} (h : E.blk p = true) : p < E.n ∧ (E.t p = 10 ∨ E.t p = 32) := of_decide_eq_true h
theorem RE.mkT {P : Prop} [Decidable P] (h : P) : decide P = true := decide_eq_true h
theorem q_isLetter {p : Int} (ce : CE E M) (h0 : 0 ≤ p) : pw (mX2_isLetter 65 p M) (fun q => (E.let' p = true ∧ q.1 = 1 ∨ E.let' p = false ∧ q.1 = 0) ∧ q.2 = M) := by
  obtain ⟨⟨_, a1, _⟩, e1, e2, e3, _⟩ := ce
  unfold mX2_isLetter
  refine p_gFc (ji := 2) rfl e1 ?_
  refine p_if (fun c => p_ret ⟨Or.inr ⟨decide_eq_false (by omega), rfl⟩, rfl⟩) (fun c => ?_)
  refine p_gFc (ji := 1) rfl a1 (p_aGc (e3 p h0 (by omega)) ?_)
  refine p_if (fun c2 => p_ret ⟨Or.inr ⟨decide_eq_false (by omega), rfl⟩, rfl⟩) (fun c2 => ?_)
  refine p_gFc (ji := 1) rfl a1 (p_aGc (e3 p h0 (by omega)) ?_)
  exact p_if (fun c3 => p_ret ⟨Or.inr ⟨decide_eq_false (by omega), rfl⟩, rfl⟩) (fun c3 => p_ret ⟨Or.inl ⟨decide_eq_true (by omega), rfl⟩, rfl⟩)
theorem q_isDigit {p : Int} (ce : CE E M) (h0 : 0 ≤ p) : pw (mX2_isDigit 65 p M) (fun q => (E.dig p = true ∧ q.1 = 1 ∨ E.dig p = false ∧ q.1 = 0) ∧ q.2 = M) := by
  obtain ⟨⟨_, a1, _⟩, e1, e2, e3, _⟩ := ce
  unfold mX2_isDigit
  refine p_gFc (ji := 2) rfl e1 ?_
  refine p_if (fun c => p_ret ⟨Or.inr ⟨decide_eq_false (by omega), rfl⟩, rfl⟩) (fun c => ?_)
  refine p_gFc (ji := 1) rfl a1 (p_aGc (e3 p h0 (by omega)) ?_)
  refine p_if (fun c2 => p_ret ⟨Or.inr ⟨decide_eq_false (by omega), rfl⟩, rfl⟩) (fun c2 => ?_)
  refine p_gFc (ji := 1) rfl a1 (p_aGc (e3 p h0 (by omega)) ?_)
  exact p_if (fun c3 => p_ret ⟨Or.inr ⟨decide_eq_false (by omega), rfl⟩, rfl⟩) (fun c3 => p_ret ⟨Or.inl ⟨decide_eq_true (by omega), rfl⟩, rfl⟩)
def CTok (E : RE) (b : Int) (M : Mem) : Prop := mG M 65 9 = b ∧ (0 ≤ b ∧ b ≤ E.n) ∧ ((E.n ≤ b ∧ mG M 65 8 = 0) ∨ (E.let' b = true ∧ mG M 65 8 = 1 ∧ mG M 65 10 = E.we b) ∨ (E.dig b = true ∧ mG M 65 8 = 2 ∧ (E.de b - b ≤ 4 → mG M 65 10 = E.de b ∧ mG M 65 11 = E.val b (E.de b - b).toNat) ∧ (¬ E.de b - b ≤ 4 → E.dig (b + 4) = true ∧ mG M 65 10 = b + 4)) ∨ (b < E.n ∧ E.let' b = false ∧ E.dig b = false ∧ mG M 65 8 = 3))
theorem q_adv100 {b : Int} (hb : 0 ≤ b) : ∀ (fu : Nat) (p : Int) (M : Mem), CE E M → mG M 65 10 = p → b ≤ p → p ≤ E.n → (∀ i, b ≤ i → i < p → E.let' i = true) → pw (mX2_advance_100 fu 65 M) (fun q => AF M q.2 ∧ mG q.2 65 8 = mG M 65 8 ∧ mG q.2 65 9 = mG M 65 9 ∧ mG q.2 65 10 = E.we b) := by
  intro fu
  induction fu with
  | zero => intro p M ce hp b0 b1 hl; exact p_none
  | succ fu ih =>
    intro p M ce hp b0 b1 hl
    have e1 := ce.2.1
    have e2 := ce.2.2.1
    show pw (bX2_advance_100 (mX2_advance_100 fu) 65 M) _
    unfold bX2_advance_100
    have stop : E.let' p = false → AF M M ∧ mG M 65 8 = mG M 65 8 ∧ mG M 65 9 = mG M 65 9 ∧ mG M 65 10 = E.we b := fun z =>
      ⟨AF.rf, rfl, rfl, hp.trans (ru_eq 400 b p b0 (by omega) hl z).symm⟩
    refine p_gFc (ji := 10) rfl hp (p_gFc (ji := 2) rfl e1 ?_)
    refine p_if (fun c => p_ret (stop (decide_eq_false (by omega)))) (fun c => ?_)
    refine p_gFc (ji := 10) rfl hp (p_gK ?_)
    refine p_call (q_isLetter ce (by omega)) (fun r M1 h => ?_)
    obtain ⟨h, e⟩ := h
    have e : M1 = M := e
    subst e
    rcases h with ⟨h, hr⟩ | ⟨h, hr⟩
    · have hr : r = 1 := hr
      subst hr
      refine p_it0 (show ¬ (1 : Int) = 0 by decide) ?_
      refine p_gFc (ji := 10) rfl hp (p_pF (ji := 10) rfl (fun M2 h2 => ?_))
      have a2 : AF M1 M2 := AF.rf.st h2 (by decide)
      rw [wI_id (x := p + 1) (by omega) (by omega)] at h2
      have lt := RE.letT h
      refine p_mono (ih (p + 1) M2 (a2.ce ce) (st_eq h2) (by omega) (by omega) (fun i i0 i1 => ?_)) (fun q z => ?_)
      · by_cases w : i = p
        · rw [w]; exact h
        · exact hl i i0 (by omega)
      · obtain ⟨z1, z2, z3, z4⟩ := z
        exact ⟨a2.tr z1, z2.trans (st_ne h2 (by omega)), z3.trans (st_ne h2 (by omega)), z4⟩
    · have hr : r = 0 := hr
      subst hr
      exact p_it1 (show (0 : Int) = 0 from rfl) (p_ret (stop h))
theorem q_adv151 {b : Int} (hb : 0 ≤ b) : ∀ (fu : Nat) (k : Nat) (M : Mem), CE E M → mG M 65 9 = b → mG M 65 10 = b + (k : Int) → mG M 65 11 = E.val b k → k ≤ 4 → (0 ≤ E.val b k ∧ E.val b k < 10 ^ k) → b + (k : Int) ≤ E.n → (∀ i, b ≤ i → i < b + (k : Int) → E.dig i = true) → pw (mX2_advance_151 fu 65 M) (fun q => AF M q.2 ∧ mG q.2 65 8 = mG M 65 8 ∧ mG q.2 65 9 = b ∧ (E.de b - b ≤ 4 → mG q.2 65 10 = E.de b ∧ mG q.2 65 11 = E.val b (E.de b - b).toNat) ∧ (¬ E.de b - b ≤ 4 → E.dig (b + 4) = true ∧ mG q.2 65 10 = b + 4)) := by
  intro fu
  induction fu with
  | zero => intro k M ce h9 h10 h11 k4 hv hn hl; exact p_none
  | succ fu ih =>
    intro k M ce h9 h10 h11 k4 hv hn hl
    have e1 := ce.2.1
    have e2 := ce.2.2.1
    show pw (bX2_advance_151 (mX2_advance_151 fu) 65 M) _
    unfold bX2_advance_151
    refine p_gFc (ji := 10) rfl h10 (p_gFc (ji := 9) rfl h9 ?_)
    rw [wI_id (x := b + (k : Int) - b) (by omega) (by omega)]
    have stop : E.dig (b + (k : Int)) = false → AF M M ∧ mG M 65 8 = mG M 65 8 ∧ mG M 65 9 = b ∧ (E.de b - b ≤ 4 → mG M 65 10 = E.de b ∧ mG M 65 11 = E.val b (E.de b - b).toNat) ∧ (¬ E.de b - b ≤ 4 → E.dig (b + 4) = true ∧ mG M 65 10 = b + 4) := fun z => by
      have d : E.de b = b + (k : Int) := ru_eq 400 b _ (by omega) (by omega) hl z
      refine ⟨AF.rf, rfl, h9, fun _ => ⟨h10.trans d.symm, ?_⟩, fun c => absurd c (by omega)⟩
      rw [h11, d, show (b + (k : Int) - b).toNat = k by omega]
    refine p_if (fun c => p_ret ?_) (fun c => ?_)
    · have k4' : k = 4 := by omega
      subst k4'
      by_cases z : E.dig (b + 4) = true
      case neg => exact stop (Bool.eq_false_iff.mpr z)
      case pos =>
        refine ⟨AF.rf, rfl, h9, fun c2 => ?_, fun _ => ⟨z, h10⟩⟩
        exfalso
        obtain ⟨d1, d2, d3, _⟩ := ru_spec (P := E.dig) (n := E.n) (fun i hi => (RE.digT hi).1) 400 b (by omega)
        have d1 : b ≤ E.de b := d1
        have d3 : E.dig (E.de b) = false := d3
        by_cases w : E.de b = b + 4
        · rw [w, z] at d3; cases d3
        · rw [hl (E.de b) d1 (by omega)] at d3; cases d3
    · refine p_gFc (ji := 10) rfl h10 (p_gK ?_)
      refine p_call (q_isDigit ce (by omega)) (fun r M1 h => ?_)
      obtain ⟨h, e⟩ := h
      have e : M1 = M := e
      subst e
      rcases h with ⟨h, hr⟩ | ⟨h, hr⟩
      · have hr : r = 1 := hr
        subst hr
        have lt := RE.digT h
        refine p_it0 (show ¬ (1 : Int) = 0 by decide) ?_
        refine p_gFc (ji := 11) rfl h11 (p_gFc (ji := 1) rfl ce.1.2.1 (p_gFc (ji := 10) rfl h10 (p_aGc (ce.2.2.2.1 _ (by omega) lt.1) ?_)))
        have hp4 : (10 : Int) ^ k ≤ 1000 := by
          have : k = 0 ∨ k = 1 ∨ k = 2 ∨ k = 3 := by omega
          rcases this with z | z | z | z <;> subst z <;> decide
        rw [wI_id (x := 10 * E.val b k) (by omega) (by omega), wI_id (x := 10 * E.val b k + E.t (b + (k : Int))) (by omega) (by omega), wI_id (x := 10 * E.val b k + E.t (b + (k : Int)) - 48) (by omega) (by omega)]
        refine p_pF (ji := 11) rfl (fun M2 h2 => ?_)
        have a2 : AF M1 M2 := AF.rf.st h2 (by decide)
        refine p_gFc (ji := 10) rfl ((st_ne h2 (by omega)).trans h10) (p_pF (ji := 10) rfl (fun M3 h3 => ?_))
        have a3 : AF M1 M3 := a2.st h3 (by decide)
        rw [wI_id (x := b + (k : Int) + 1) (by omega) (by omega)] at h3
        have hv' : E.val b (k + 1) = 10 * E.val b k + E.t (b + (k : Int)) - 48 := rfl
        refine p_mono (ih (k + 1) M3 (a3.ce ce) ((st_ne h3 (by omega)).trans ((st_ne h2 (by omega)).trans h9)) ((st_eq h3).trans (by omega)) ((st_ne h3 (by omega)).trans ((st_eq h2).trans hv'.symm)) (by omega) ?_ (by omega) (fun i i0 i1 => ?_)) (fun q z => ?_)
        · rw [hv', Int.pow_succ]; omega
        · by_cases w : i = b + (k : Int)
          · rw [w]; exact h
          · exact hl i i0 (by omega)
        · obtain ⟨z1, z2, z3, z4⟩ := z
          exact ⟨a3.tr z1, z2.trans ((st_ne h3 (by omega)).trans (st_ne h2 (by omega))), z3, z4⟩
      · have hr : r = 0 := hr
        subst hr
        exact p_it1 (show (0 : Int) = 0 from rfl) (p_ret (stop h))
theorem q_adv52 {b : Int} (hb : 0 ≤ b ∧ b ≤ E.n) (ce : CE E M) (h10 : mG M 65 10 = b) : pw (mX2_advance_52 65 M) (fun q => AF M q.2 ∧ CTok E b q.2) := by
  have e1 := ce.2.1
  have e2 := ce.2.2.1
  unfold mX2_advance_52
  refine p_gFc (ji := 10) rfl h10 (p_pF (ji := 9) rfl (fun M1 h1 => p_pF (ji := 11) rfl (fun M2 h2 => ?_)))
  have a2 : AF M M2 := (AF.rf.st h1 (by decide)).st h2 (by decide)
  have c2 := a2.ce ce
  have i9 : mG M2 65 9 = b := (st_ne h2 (by omega)).trans (st_eq h1)
  have i10 : mG M2 65 10 = b := (st_ne h2 (by omega)).trans ((st_ne h1 (by omega)).trans h10)
  have i11 : mG M2 65 11 = 0 := st_eq h2
  refine p_gFc (ji := 10) rfl i10 (p_gFc (ji := 2) rfl c2.2.1 ?_)
  refine p_if (fun c => ?_) (fun c => ?_)
  · refine p_gFc (ji := 10) rfl i10 (p_gK ?_)
    refine p_call (q_isLetter c2 hb.1) (fun r M3 h => ?_)
    obtain ⟨h, e⟩ := h
    have e : M3 = M2 := e
    subst e
    rcases h with ⟨h, hr⟩ | ⟨h, hr⟩
    · have hr : r = 1 := hr
      subst hr
      refine p_it0 (show ¬ (1 : Int) = 0 by decide) (p_pF (ji := 8) rfl (fun M4 h4 => ?_))
      have a4 : AF M3 M4 := AF.rf.st h4 (by decide)
      refine p_mono (q_adv100 hb.1 _ b M4 (a4.ce c2) ((st_ne h4 (by omega)).trans i10) (Int.le_refl _) hb.2 (fun i i0 i1 => absurd i1 (by omega))) (fun q z => ?_)
      obtain ⟨z1, z2, z3, z4⟩ := z
      exact ⟨(a2.tr a4).tr z1, z3.trans ((st_ne h4 (by omega)).trans i9), hb, Or.inr (Or.inl ⟨h, z2.trans (st_eq h4), z4⟩)⟩
    · have hr : r = 0 := hr
      subst hr
      refine p_it1 (show (0 : Int) = 0 from rfl) ?_
      refine p_gFc (ji := 10) rfl i10 (p_gK ?_)
      refine p_call (q_isDigit c2 hb.1) (fun r M4 g => ?_)
      obtain ⟨g, e⟩ := g
      have e : M4 = M3 := e
      subst e
      rcases g with ⟨g, hr⟩ | ⟨g, hr⟩
      · have hr : r = 1 := hr
        subst hr
        refine p_it0 (show ¬ (1 : Int) = 0 by decide) (p_pF (ji := 8) rfl (fun M5 h5 => ?_))
        have a5 : AF M4 M5 := AF.rf.st h5 (by decide)
        refine p_mono (q_adv151 hb.1 _ 0 M5 (a5.ce c2) ((st_ne h5 (by omega)).trans i9) ((st_ne h5 (by omega)).trans (i10.trans (by omega))) ((st_ne h5 (by omega)).trans i11) (by omega) ⟨Int.le_refl _, (by decide : (0 : Int) < 1)⟩ (by omega) (fun i i0 i1 => absurd i1 (by omega))) (fun q z => ?_)
        obtain ⟨z1, z2, z3, z4, z5⟩ := z
        exact ⟨(a2.tr a5).tr z1, z3, hb, Or.inr (Or.inr (Or.inl ⟨g, z2.trans (st_eq h5), z4, z5⟩))⟩
      · have hr : r = 0 := hr
        subst hr
        refine p_it1 (show (0 : Int) = 0 from rfl) (p_pF (ji := 8) rfl (fun M5 h5 => p_ret ?_))
        exact ⟨a2.st h5 (by decide), (st_ne h5 (by omega)).trans i9, hb, Or.inr (Or.inr (Or.inr ⟨c, h, g, st_eq h5⟩))⟩
  · refine p_pF (ji := 8) rfl (fun M5 h5 => p_ret ?_)
    exact ⟨a2.st h5 (by decide), (st_ne h5 (by omega)).trans i9, hb, Or.inl ⟨by omega, st_eq h5⟩⟩
theorem q_advance {p0 : Int} (ce : CE E M) (h10 : mG M 65 10 = p0) (hp : 0 ≤ p0 ∧ p0 ≤ E.n) : pw (mX2_advance 65 M) (fun q => AF M q.2 ∧ CTok E (E.sk p0) q.2) := by
  have key : ∀ (fu : Nat) (p : Int) (M1 : Mem), AF M M1 → mG M1 65 10 = p → p0 ≤ p → p ≤ E.n → (∀ i, p0 ≤ i → i < p → E.blk i = true) → pw (mX2_advance_0 fu 65 M1) (fun q => AF M q.2 ∧ CTok E (E.sk p0) q.2) := by
    intro fu
    induction fu with
    | zero => intro p M1 a1 i10 i0 i1 hl; exact p_none
    | succ fu ih =>
      intro p M1 a1 i10 i0 i1 hl
      have c1 := a1.ce ce
      have e2 := ce.2.2.1
      show pw (bX2_advance_0 (mX2_advance_0 fu) 65 M1) _
      unfold bX2_advance_0
      have stop : E.blk p = false → pw (mX2_advance_52 65 M1) (fun q => AF M q.2 ∧ CTok E (E.sk p0) q.2) := fun z => by
        have d : E.sk p0 = p := ru_eq 400 p0 p i0 (by omega) hl z
        rw [d]
        exact p_mono (q_adv52 ⟨by omega, i1⟩ c1 i10) (fun q z => ⟨a1.tr z.1, z.2⟩)
      have go : E.blk p = true → pw (mX2_advance_39 (mX2_advance_0 fu) 65 M1) (fun q => AF M q.2 ∧ CTok E (E.sk p0) q.2) := fun z => by
        unfold mX2_advance_39
        have lt := RE.blkT z
        refine p_gFc (ji := 10) rfl i10 (p_pF (ji := 10) rfl (fun M2 h2 => ?_))
        have a2 : AF M M2 := a1.st h2 (by decide)
        rw [wI_id (x := p + 1) (by omega) (by omega)] at h2
        refine ih (p + 1) M2 a2 (st_eq h2) (by omega) (by omega) (fun i j0 j1 => ?_)
        by_cases w : i = p
        · rw [w]; exact z
        · exact hl i j0 (by omega)
      refine p_gFc (ji := 10) rfl i10 (p_gFc (ji := 2) rfl c1.2.1 ?_)
      refine p_if (fun c => stop (decide_eq_false (by omega))) (fun c => ?_)
      refine p_gFc (ji := 1) rfl c1.1.2.1 (p_gFc (ji := 10) rfl i10 (p_aGc (c1.2.2.2.1 p (by omega) (by omega)) ?_))
      refine p_if (fun c2 => go (decide_eq_true ⟨by omega, Or.inl c2⟩)) (fun c2 => ?_)
      refine p_gFc (ji := 1) rfl c1.1.2.1 (p_gFc (ji := 10) rfl i10 (p_aGc (c1.2.2.2.1 p (by omega) (by omega)) ?_))
      exact p_if (fun c3 => go (decide_eq_true ⟨by omega, Or.inr c3⟩)) (fun c3 => stop (decide_eq_false (by omega)))
  unfold mX2_advance
  exact key _ p0 M AF.rf h10 (Int.le_refl _) hp.2 (fun i i0 i1 => absurd i1 (by omega))
end
