section
/-! ===== the class's least ones ===== -/
/-- all ways are laid out -/
def LAID (S : SH) (n W : Nat) (A : Nat → Nat) (M : Mem) : Prop := (mG M 24 5 = (n : Int) ∧ mG M 24 4 = (W : Int) ∧ W ≤ 216) ∧ (∀ y : Nat, y < W → A y < 216 ∧ isA S (A y) = true ∧ ∀ p : Nat, p < n → mG M 26 ((12 * y + p : Nat) : Int) = ((2 ^ (n - 1 - (tpp S (frO (A y)) (p : Int)).toNat) : Nat) : Int)) ∧ ∀ a : Nat, a < 216 → isA S a = true → ∃ y, y < W ∧ ∀ w, imN S n (frO a) w = imN S n (frO (A y)) w
section
variable {S : SH} {M : Mem} {n W : Nat} {A : Nat → Nat}
theorem LAID.kp {M' : Mem} (h : LAID S n W A M) (g : ∀ c j : Int, (c = 24 ∧ (j = 4 ∨ j = 5)) ∨ c = 26 → mG M' c j = mG M c j) : LAID S n W A M' :=
  ⟨⟨(g 24 5 (by decide)).trans h.1.1, (g 24 4 (by decide)).trans h.1.2.1, h.1.2.2⟩, fun y hy => ⟨(h.2.1 y hy).1, (h.2.1 y hy).2.1, fun p hp => (g 26 _ (Or.inr rfl)).trans ((h.2.1 y hy).2.2 p hp)⟩, h.2.2⟩
theorem LAID.im (h : LAID S n W A M) (ok : S.ok) (hn : S.nf = (n : Int)) {w x : Nat} (hw : w < 2 ^ n) : IM S n w x ↔ ∃ y, y < W ∧ x = imN S n (frO (A y)) w := by
  constructor
  · intro k
    obtain ⟨a, a1, a2, a3⟩ := im_fr ok hn k
    obtain ⟨y, y1, y2⟩ := h.2.2 a a1 a2
    exact ⟨y, y1, a3.trans (y2 w)⟩
  · rintro ⟨y, y1, y2⟩
    obtain ⟨b1, b2, _⟩ := h.2.1 y y1
    rw [y2]
    exact IMf.im (frO_ren ok b1 b2) hw (imN_f ok hn (frO_ren ok b1 b2) w)
theorem q_renumbered {y w : Nat} (ok : S.ok) (hn : S.nf = (n : Int)) (n12 : n ≤ 12) (k2 : K2 M) (h : LAID S n W A M) (hy : y < W) (hw : w < 2 ^ n) : pw (mX1_renumbered 24 (y : Int) (w : Int) M) (fun q => q.2 = M ∧ q.1 = ((imN S n (frO (A y)) w : Nat) : Int)) := by
  obtain ⟨⟨h5, h4, w216⟩, hm, _⟩ := h
  obtain ⟨a1, a2, a3⟩ := hm y hy
  have p12 : 2 ^ n ≤ 2 ^ 12 := Nat.pow_le_pow_right (n := 2) (by decide) n12
  obtain ⟨g, hg⟩ : ∃ g, g = gim S n (frO (A y)) w := ⟨_, rfl⟩
  have gl : ∀ p, p < n → g p < 2 ^ n := fun p hp => by
    rw [hg]
    unfold gim
    by_cases e : w.testBit (n - 1 - p) = true
    · rw [if_pos e]
      exact Nat.pow_lt_pow_right (by decide) (by omega)
    · rw [if_neg e]
      exact Nat.two_pow_pos n
  have lt : ∀ k, k ≤ n → orN g k < 2 ^ n := by
    intro k
    induction k with
    | zero => intro _; exact Nat.two_pow_pos n
    | succ k ih => intro hk; exact Nat.or_lt_two_pow (ih (by omega)) (gl k (by omega))
  have loop : ∀ (fu p : Nat), p ≤ n → pw (mX1_renumbered_5 fu 24 (y : Int) (w : Int) ((orN g p : Nat) : Int) (p : Int) M) (fun q => q.2 = M ∧ q.1 = ((orN g n : Nat) : Int)) := by
    intro fu
    induction fu with
    | zero => intro p _; exact p_none
    | succ fu ih =>
      intro p hp
      show pw (bX1_renumbered_5 (mX1_renumbered_5 fu) 24 (y : Int) (w : Int) _ (p : Int) M) _
      unfold bX1_renumbered_5
      refine p_gFc (ji := 5) rfl h5 (p_if (fun c => p_ret ⟨rfl, ?_⟩) (fun c => ?_))
      · show ((orN g p : Nat) : Int) = _
        rw [show p = n by omega]
      have p1 : p < n := by omega
      have lp := lt p hp
      have gp := gl p p1
      have nxt : ∀ v : Nat, v = orN g p ||| g p → pw (mX1_renumbered_45 (mX1_renumbered_5 fu) 24 (y : Int) (w : Int) (v : Int) (p : Int) M) (fun q => q.2 = M ∧ q.1 = ((orN g n : Nat) : Int)) := fun v hv => by
        unfold mX1_renumbered_45
        rw [wI_s (p := p) (by omega), hv]
        exact ih (p + 1) (by omega)
      refine p_gFc (ji := 5) rfl h5 ?_
      rw [wI_id (x := (n : Int) - 1) (by omega) (by omega), wI_id (x := (n : Int) - 1 - (p : Int)) (by omega) (by omega), show (n : Int) - 1 - (p : Int) = ((n - 1 - p : Nat) : Int) by omega]
      refine p_if (fun c2 => nxt _ ?_) (fun c2 => ?_)
      · have tb := (ibit (x := w) (k := n - 1 - p) (by omega) (by omega)).mp c2
        rw [hg]
        unfold gim
        rw [tb, if_neg (by decide), Nat.or_zero]
      · have tb : w.testBit (n - 1 - p) = true := by
          cases e : w.testBit (n - 1 - p) with
          | true => rfl
          | false => exact absurd ((ibit (x := w) (k := n - 1 - p) (by omega) (by omega)).mpr e) c2
        have eg : g p = 2 ^ (n - 1 - (tpp S (frO (A y)) (p : Int)).toNat) := by
          rw [hg]
          unfold gim
          rw [if_pos tb]
        rw [wI_id (x := (y : Int) * 12) (by omega) (by omega), wI_id (x := (y : Int) * 12 + (p : Int)) (by omega) (by omega), show (y : Int) * 12 + (p : Int) = ((12 * y + p : Nat) : Int) by omega]
        refine p_gFc (ji := 1) rfl k2.c24_1 (p_aGc (a3 p p1) ?_)
        rw [← eg, ior_nn (by omega) (by omega)]
        exact nxt _ rfl
  unfold mX1_renumbered
  have := loop FU 0 (Nat.zero_le _)
  rw [hg] at this
  exact this
/-- the least of all that a world is by other numbers -/
theorem q_least10 {w : Nat} (ok : S.ok) (hn : S.nf = (n : Int)) (n12 : n ≤ 12) (k2 : K2 M) (h : LAID S n W A M) (hw : w < 2 ^ n) : pw (mX1_leastOf_10 FU 24 (w : Int) (w : Int) 0 M) (fun q => q.2 = M ∧ ∃ m : Nat, q.1 = (m : Int) ∧ ISL S n w m) := by
  have loop : ∀ (fu y x : Nat), y ≤ W → IM S n w x → (∀ z, z < y → x ≤ imN S n (frO (A z)) w) → pw (mX1_leastOf_10 fu 24 (w : Int) (x : Int) (y : Int) M) (fun q => q.2 = M ∧ ∃ m : Nat, q.1 = (m : Int) ∧ ISL S n w m) := by
    intro fu
    induction fu with
    | zero => intro y x _ _ _; exact p_none
    | succ fu ih =>
      intro y x hy im hz
      show pw (bX1_leastOf_10 (mX1_leastOf_10 fu) 24 (w : Int) (x : Int) (y : Int) M) _
      have w216 := h.1.2.2
      unfold bX1_leastOf_10
      refine p_gFc (ji := 4) rfl h.1.2.1 (p_if (fun c => p_ret ⟨rfl, x, rfl, im, fun u hu => ?_⟩) (fun c => ?_))
      · obtain ⟨z, z1, z2⟩ := (h.im ok hn hw).mp hu
        rw [z2]
        exact hz z (by omega)
      have y1 : y < W := by omega
      refine p_gK (p_call (q_renumbered ok hn n12 k2 h y1 hw) (fun v m2 yy => ?_))
      obtain ⟨e1, e2⟩ := yy
      replace e1 : m2 = M := e1
      replace e2 : v = ((imN S n (frO (A y)) w : Nat) : Int) := e2
      subst e1; subst e2
      refine p_some (fun b hb => ?_)
      rw [wI_s (p := y) (by omega)]
      by_cases c2 : imN S n (frO (A y)) w < x
      · have eb : b = ((imN S n (frO (A y)) w : Nat) : Int) := by
          rw [hb]
          exact if_pos (by show ((imN S n (frO (A y)) w : Nat) : Int) < (x : Int); omega)
        rw [eb]
        refine ih (y + 1) _ (by omega) ((h.im ok hn hw).mpr ⟨y, y1, rfl⟩) (fun z hz2 => ?_)
        by_cases e : z = y
        · rw [e]; exact Nat.le_refl _
        · have := hz z (by omega)
          omega
      · have eb : b = (x : Int) := by
          rw [hb]
          exact if_neg (by show ¬ ((imN S n (frO (A y)) w : Nat) : Int) < (x : Int); omega)
        rw [eb]
        refine ih (y + 1) x (by omega) im (fun z hz2 => ?_)
        by_cases e : z = y
        · rw [e]; omega
        · exact hz z (by omega)
  exact loop FU 0 w (Nat.zero_le _) (IM.rf hw) (fun z hz => absurd hz (by omega))
/-- what has been seen -/
def SEEN (S : SH) (n w u : Nat) : Prop := ∃ v, v < w ∧ isF S n v = true ∧ IM S n v u
theorem seen_f (ok : S.ok) {w : Nat} (hw : w < 2 ^ n) : SEEN S n w w ↔ isF S n w = false := by
  rw [isF_f]
  constructor
  · rintro ⟨v, v1, v2, v3⟩ h
    have := h.2 v (v3.symm ok)
    omega
  · intro h
    obtain ⟨m, hm⟩ := ISL.ex (S := S) hw
    have le := hm.2 w (IM.rf hw)
    have ne : ¬ m = w := fun e => h (by rw [e] at hm; exact hm)
    exact ⟨m, by omega, isF_t.mpr (hm.self ok), hm.1.symm ok⟩
theorem seen_s {w u : Nat} : SEEN S n (w + 1) u ↔ SEEN S n w u ∨ (isF S n w = true ∧ IM S n w u) := by
  constructor
  · rintro ⟨v, v1, v2, v3⟩
    by_cases e : v = w
    · rw [e] at v2 v3; exact Or.inr ⟨v2, v3⟩
    · exact Or.inl ⟨v, by omega, v2, v3⟩
  · rintro (⟨v, v1, v2, v3⟩ | ⟨h1, h2⟩)
    · exact ⟨v, by omega, v2, v3⟩
    · exact ⟨w, by omega, h1, h2⟩
/-- the set at l is P -/
def WP (l : Int) (n : Nat) (P : Nat → Prop) (M : Mem) : Prop := ∃ f : Nat → Bool, WS l (n : Int) f M ∧ ∀ u, u < 2 ^ n → (f u = true ↔ P u)
theorem WP.ext {l : Int} {P Q : Nat → Prop} (h : WP l n P M) (e : ∀ u, u < 2 ^ n → (P u ↔ Q u)) : WP l n Q M := by
  obtain ⟨f, f1, f2⟩ := h
  exact ⟨f, f1, fun u hu => (f2 u hu).trans (e u hu)⟩
theorem WP.kp {l : Int} {P : Nat → Prop} {M' : Mem} (h : WP l n P M) (g : ∀ c j : Int, c = l ∨ c = l + 1 → mG M' c j = mG M c j) : WP l n P M' := by
  obtain ⟨f, f1, f2⟩ := h
  exact ⟨f, f1.kp (fun j => g l j (Or.inl rfl)) (fun j => g (l + 1) j (Or.inr rfl)), f2⟩
theorem q_addP {l : Int} {P : Nat → Prop} {w : Nat} (n12 : n ≤ 12) (h : WP l n P M) (wl : w < 2 ^ n) : pw (mX7_add l (w : Int) M) (fun q => WP l n (fun u => P u ∨ u = w) q.2 ∧ FX (l + 1) M q.2) := by
  obtain ⟨f, f1, f2⟩ := h
  refine p_mono (q_add (w := w) ⟨by omega, by omega⟩ f1 (by rw [Int.toNat_natCast]; exact wl)) (fun q y => ⟨⟨_, y.1, fun u hu => ?_⟩, y.2⟩)
  rw [Bool.or_eq_true, decide_eq_true_iff, f2 u hu]
theorem q_mark (ok : S.ok) (hn : S.nf = (n : Int)) (n12 : n ≤ 12) (k2 : K2 M) (h : LAID S n W A M) : pw (mX1_markLeastOnes 24 M) (fun q => WP 27 n (fun u => isF S n u = true) q.2 ∧ ∀ c j : Int, ¬ c = 28 → ¬ c = 30 → ¬ (c = 27 ∧ (j = 1 ∨ j = 2)) → ¬ (c = 29 ∧ (j = 1 ∨ j = 2)) → mG q.2 c j = mG M c j) := by
  have p12 : 2 ^ n ≤ 2 ^ 12 := Nat.pow_le_pow_right (n := 2) (by decide) n12
  have w216 := h.1.2.2
  obtain ⟨FR, hFR⟩ : ∃ FR : Mem → Prop, FR = fun m => ∀ c j : Int, ¬ c = 28 → ¬ c = 30 → ¬ (c = 27 ∧ (j = 1 ∨ j = 2)) → ¬ (c = 29 ∧ (j = 1 ∨ j = 2)) → mG m c j = mG M c j := ⟨_, rfl⟩
  obtain ⟨Q, hQ⟩ : ∃ Q : Int × Mem → Prop, Q = fun q => WP 27 n (fun u => isF S n u = true) q.2 ∧ FR q.2 := ⟨_, rfl⟩
  have kf : ∀ m, FR m → K2 m ∧ LAID S n W A m := fun m f => by
    rw [hFR] at f
    refine ⟨k2.kp (fun x hx => f _ _ (by have c := cst_out x hx; omega) (by have c := cst_out x hx; omega) (by have c := cst_out x hx; omega) (by have c := cst_out x hx; omega)), h.kp (fun c j hc => f c j (by omega) (by omega) (by omega) (by omega))⟩
  have main : pw (mX1_markLeastOnes 24 M) Q := by
    have l24 : ∀ (fu w : Nat) (m : Mem), w ≤ 2 ^ n → FR m → WP 27 n (fun u => u < w ∧ isF S n u = true) m → WP 29 n (SEEN S n w) m → pw (mX1_markLeastOnes_24 fu 24 (w : Int) m) Q := by
      intro fu
      induction fu with
      | zero => intro w m _ _ _ _; exact p_none
      | succ fu ih =>
        intro w m hw fr p1 p2
        show pw (bX1_markLeastOnes_24 (mX1_markLeastOnes_24 fu) 24 (w : Int) m) Q
        obtain ⟨km, lm⟩ := kf m fr
        obtain ⟨f2, s1, s2⟩ := id p2
        unfold bX1_markLeastOnes_24
        refine p_gFc (ji := 3) rfl km.c24_3 (p_gK (p_call (q_most (l := 29) ⟨by omega, by omega⟩ s1) (fun v m2 y => ?_)))
        obtain ⟨y1, y2⟩ := y
        replace y1 : m2 = m := y1
        replace y2 : v = ((2 ^ (n : Int).toNat : Nat) : Int) := y2
        rw [Int.toNat_natCast] at y2
        subst y1; subst y2
        refine p_if (fun c => p_ret ?_) (fun c => ?_)
        · rw [hQ]
          replace c : ((2 ^ n : Nat) : Int) ≤ (w : Int) := c
          exact ⟨p1.ext (fun u hu => ⟨fun z => z.2, fun z => ⟨by omega, z⟩⟩), fr⟩
        replace c : ¬ ((2 ^ n : Nat) : Int) ≤ (w : Int) := c
        have w1 : w < 2 ^ n := by omega
        refine p_gFc (ji := 3) rfl km.c24_3 (p_gK (p_call (q_has (l := 29) (w := w) ⟨by omega, by omega⟩ s1) (fun v m3 y => ?_)))
        obtain ⟨y1, y2⟩ := y
        replace y1 : m3 = m2 := y1
        replace y2 : v = b2i (decide (w < 2 ^ (n : Int).toNat) && f2 w) := y2
        rw [Int.toNat_natCast, decide_eq_true w1, Bool.true_and] at y2
        subst y1
        refine p_if (fun c2 => ?_) (fun c2 => ?_)
        · have nf := b2i_0.mp (y2.symm.trans c2)
          have hF : isF S n w = true := by
            cases e : isF S n w with
            | true => rfl
            | false =>
              have := (s2 w w1).mpr ((seen_f ok w1).mpr e)
              rw [nf] at this
              cases this
          refine p_gFc (ji := 2) rfl km.c24_2 (p_gK (p_call (q_addP (l := 27) n12 p1 w1) (fun _ m4 y => ?_)))
          obtain ⟨z1, z2⟩ := y
          replace z1 : WP 27 n (fun u => (u < w ∧ isF S n u = true) ∨ u = w) m4 := z1
          replace z2 : FX 28 m3 m4 := z2
          have fr4 : FR m4 := by
            rw [hFR] at fr ⊢
            exact fun c j a b d e => (z2 c j a).trans (fr c j a b d e)
          have q1 : WP 27 n (fun u => u < w + 1 ∧ isF S n u = true) m4 := z1.ext (fun u hu => by
            constructor
            · rintro (⟨a, b⟩ | e)
              · exact ⟨by omega, b⟩
              · rw [e]; exact ⟨by omega, hF⟩
            · rintro ⟨a, b⟩
              by_cases e : u = w
              · exact Or.inr e
              · exact Or.inl ⟨by omega, b⟩)
          have q2 : WP 29 n (SEEN S n w) m4 := p2.kp (fun c j hc => z2 c j (by omega))
          have l56 : ∀ (fu2 y : Nat) (m5 : Mem), y ≤ W → FR m5 → WP 27 n (fun u => u < w + 1 ∧ isF S n u = true) m5 → WP 29 n (fun u => SEEN S n w u ∨ ∃ z, z < y ∧ u = imN S n (frO (A z)) w) m5 → pw (mX1_markLeastOnes_56 (mX1_markLeastOnes_24 fu) fu2 24 (w : Int) (y : Int) m5) Q := by
            intro fu2
            induction fu2 with
            | zero => intro y m5 _ _ _ _; exact p_none
            | succ fu2 ih2 =>
              intro y m5 hy fr5 r1 r2
              show pw (bX1_markLeastOnes_56 (mX1_markLeastOnes_24 fu) (mX1_markLeastOnes_56 (mX1_markLeastOnes_24 fu) fu2) 24 (w : Int) (y : Int) m5) Q
              obtain ⟨k5, l5⟩ := kf m5 fr5
              unfold bX1_markLeastOnes_56
              refine p_gFc (ji := 4) rfl l5.1.2.1 (p_if (fun c3 => ?_) (fun c3 => ?_))
              · unfold mX1_markLeastOnes_83
                rw [wI_s (p := w) (by omega)]
                refine ih (w + 1) m5 (by omega) fr5 r1 (r2.ext (fun u hu => ?_))
                rw [seen_s, l5.im ok hn w1]
                constructor
                · rintro (a | ⟨z, z1, z2⟩)
                  · exact Or.inl a
                  · exact Or.inr ⟨hF, z, by omega, z2⟩
                · rintro (a | ⟨_, z, z1, z2⟩)
                  · exact Or.inl a
                  · exact Or.inr ⟨z, by omega, z2⟩
              · have y1 : y < W := by omega
                refine p_gFc (ji := 3) rfl k5.c24_3 (p_gK (p_call (q_renumbered ok hn n12 k5 l5 y1 w1) (fun v m6 yy => ?_)))
                obtain ⟨e1, e2⟩ := yy
                replace e1 : m6 = m5 := e1
                replace e2 : v = ((imN S n (frO (A y)) w : Nat) : Int) := e2
                subst e1; subst e2
                have xl : imN S n (frO (A y)) w < 2 ^ n := ((l5.im ok hn w1).mpr ⟨y, y1, rfl⟩).2.1
                refine p_gK (p_call (q_addP (l := 29) n12 r2 xl) (fun _ m7 yy => ?_))
                obtain ⟨x1, x2⟩ := yy
                replace x2 : FX 30 m6 m7 := x2
                rw [wI_s (p := y) (by omega)]
                refine ih2 (y + 1) m7 (by omega) ?_ (r1.kp (fun c j hc => x2 c j (by omega))) (WP.ext x1 (fun u hu => ?_))
                · rw [hFR] at fr5 ⊢
                  exact fun c j a b d e => (x2 c j b).trans (fr5 c j a b d e)
                · constructor
                  · rintro ((a | ⟨z, z1, z2⟩) | e)
                    · exact Or.inl a
                    · exact Or.inr ⟨z, by omega, z2⟩
                    · exact Or.inr ⟨y, by omega, e⟩
                  · rintro (a | ⟨z, z1, z2⟩)
                    · exact Or.inl (Or.inl a)
                    · by_cases e : z = y
                      · rw [e] at z2; exact Or.inr z2
                      · exact Or.inl (Or.inr ⟨z, by omega, z2⟩)
          exact l56 FU 0 m4 (Nat.zero_le _) fr4 q1 (q2.ext (fun u hu => ⟨fun a => Or.inl a, fun a => by
            rcases a with a | ⟨z, z1, _⟩
            · exact a
            · omega⟩))
        · have t2 : f2 w = true := by
            cases e : f2 w with
            | true => rfl
            | false => rw [e] at y2; exact absurd y2 c2
          have hF := (seen_f ok w1).mp ((s2 w w1).mp t2)
          unfold mX1_markLeastOnes_83
          rw [wI_s (p := w) (by omega)]
          refine ih (w + 1) m3 (by omega) fr (p1.ext (fun u hu => ?_)) (p2.ext (fun u hu => ?_))
          · constructor
            · exact fun z => ⟨by omega, z.2⟩
            · rintro ⟨a, b⟩
              refine ⟨?_, b⟩
              by_cases e : u = w
              · rw [e, hF] at b; cases b
              · omega
          · rw [seen_s, hF]
            exact ⟨fun a => Or.inl a, fun a => a.resolve_right (fun z => absurd z.1 (by decide))⟩
    unfold mX1_markLeastOnes
    refine p_gFc (ji := 2) rfl k2.c24_2 (p_gFc (ji := 5) rfl h.1.1 (p_gK (p_call (q_takeNone (l := 27) (k := (n : Int)) ⟨by omega, by omega⟩ k2.c27_0) (fun _ m1 y => ?_))))
    obtain ⟨y1, y2⟩ := y
    replace y1 : WS 27 (n : Int) (fun _ => false) m1 := y1
    replace y2 : FW 27 M m1 := y2
    have g1 : ∀ c j : Int, ¬ c = 28 → ¬ (c = 27 ∧ (j = 1 ∨ j = 2)) → mG m1 c j = mG M c j := fun c j a b => y2 c j a b
    have k1 := k2.fw y2 (by decide)
    refine p_gFc (ji := 3) rfl k1.c24_3 (p_gFc (ji := 5) rfl ((g1 24 5 (by decide) (by decide)).trans h.1.1) (p_gK (p_call (q_takeNone (l := 29) (k := (n : Int)) ⟨by omega, by omega⟩ k1.c29_0) (fun _ m2 y => ?_))))
    obtain ⟨y3, y4⟩ := y
    replace y3 : WS 29 (n : Int) (fun _ => false) m2 := y3
    replace y4 : FW 29 m1 m2 := y4
    have g2 : ∀ c j : Int, ¬ c = 30 → ¬ (c = 29 ∧ (j = 1 ∨ j = 2)) → mG m2 c j = mG m1 c j := fun c j a b => y4 c j a b
    refine l24 FU 0 m2 (Nat.zero_le _) ?_ ⟨_, y1.kp (fun j => g2 27 j (by decide) (by omega)) (fun j => g2 (27 + 1) j (by decide) (by omega)), fun u hu => ⟨(fun z => by cases z), fun z => absurd z.1 (by omega)⟩⟩ ⟨_, y3, fun u hu => ⟨(fun z => by cases z), fun z => by obtain ⟨v, v1, _⟩ := z; omega⟩⟩
    rw [hFR]
    exact fun c j a b d e => (g2 c j b e).trans (g1 c j a d)
  rw [hQ, hFR] at main
  exact main
end
end
section
/-! ===== the class lays all ways out ===== -/
theorem cst_24 : ∀ x, x ∈ cstL → x.1 = 24 → x.2.1 ≤ 3 := by decide +kernel
def GOOD (S : SH) (n W : Nat) (A : Nat → Nat) (M : Mem) : Prop := ∀ y : Nat, y < W → A y < 216 ∧ isA S (A y) = true ∧ ∀ p : Nat, p < n → mG M 26 ((12 * y + p : Nat) : Int) = ((2 ^ (n - 1 - (tpp S (frO (A y)) (p : Int)).toNat) : Nat) : Int)
def LO3 (S : SH) (n N0 N1 N2 t : Nat) (M : Mem) : Prop := ∃ (W : Nat) (A : Nat → Nat), mG M 24 4 = (W : Int) ∧ W ≤ t ∧ GOOD S n W A M ∧ ∀ x0 x1 x2 : Nat, x0 < N0 → x1 < N1 → x2 < N2 → 36 * x0 + 6 * x1 + x2 < t → ∃ y, y < W ∧ A y = ac x0 x1 x2
def FLO (M M' : Mem) : Prop := ∀ c j : Int, ¬ (c = 24 ∧ 4 ≤ j ∧ j ≤ 6) → ¬ c = 25 → ¬ c = 26 → mG M' c j = mG M c j
def NUM (S : SH) (k : Int) (N : Nat) : Prop := N = nOr (S.sz k) ∨ (N = 1 ∧ ∀ r : Int, 0 ≤ r → r < S.nr → ¬ S.k1 r = k ∧ ¬ S.k2 r = k)
section
variable {S : SH} {M : Mem} {n N0 N1 N2 : Nat}
theorem NUM.b {k : Int} {N : Nat} (h : NUM S k N) : 1 ≤ N ∧ N ≤ nOr (S.sz k) := by
  have := nO_b (S.sz k)
  rcases h with h | ⟨h, _⟩ <;> omega
theorem NUM.ch {k : Int} {N b : Nat} (ok : S.ok) (hk : 0 ≤ k ∧ k < 3) (h : NUM S k N) (hb : b < 6) (hi : isOb b (S.sz k).toNat = true) : ∃ x, x < N ∧ x < 6 ∧ ∀ r : Int, 0 ≤ r → r < S.nr → S.k1 r = k ∨ S.k2 r = k → cmO x = b := by
  have z := ok.1 k hk.1 hk.2
  rcases h with h | ⟨h, hu⟩
  · refine ⟨cmO b, ?_, (cm_cm b hb).1, fun _ _ _ _ => (cm_cm b hb).2⟩
    have e := (isO_n (S.sz k).toNat (by omega) (by omega) b hb).1
    rw [hi, show (((S.sz k).toNat : Nat) : Int) = S.sz k by omega] at e
    rw [h]
    exact of_decide_eq_true e.symm
  · refine ⟨0, by omega, by decide, fun r r0 r1 w => ?_⟩
    obtain ⟨a, b⟩ := hu r r0 r1
    rcases w with w | w
    · exact absurd w a
    · exact absurd w b
theorem LO3.go {t : Nat} {M' : Mem} (h : LO3 S n N0 N1 N2 t M) (g4 : mG M' 24 4 = mG M 24 4) (g : ∀ j, mG M' 26 j = mG M 26 j) : LO3 S n N0 N1 N2 t M' := by
  obtain ⟨W, A, h1, h2, h3, h4⟩ := h
  exact ⟨W, A, g4.trans h1, h2, fun y hy => ⟨(h3 y hy).1, (h3 y hy).2.1, fun p hp => (g _).trans ((h3 y hy).2.2 p hp)⟩, h4⟩
theorem LO3.up {t t' : Nat} (h : LO3 S n N0 N1 N2 t M) (ht : t ≤ t') (e : ∀ x0 x1 x2 : Nat, x0 < N0 → x1 < N1 → x2 < N2 → 36 * x0 + 6 * x1 + x2 < t' → 36 * x0 + 6 * x1 + x2 < t) : LO3 S n N0 N1 N2 t' M := by
  obtain ⟨W, A, h1, h2, h3, h4⟩ := h
  exact ⟨W, A, h1, by omega, h3, fun x0 x1 x2 a b c d => h4 x0 x1 x2 a b c (e x0 x1 x2 a b c d)⟩
theorem q_layOut61 (ok : S.ok) (hn : S.nf = (n : Int)) (n12 : n ≤ 12) (k2 : K2 M) (sh : SHC S 4 M) (u0 : NUM S 0 N0) (u1 : NUM S 1 N1) (u2 : NUM S 2 N2) : ∀ (fu o0 : Nat) (m : Mem), o0 ≤ N0 → FLO M m → mG m 25 0 = (o0 : Int) → LO3 S n N0 N1 N2 (36 * o0) m → pw (mX1_layOut_61 fu 24 4 (N0 : Int) (N1 : Int) (N2 : Int) m) (fun q => FLO M q.2 ∧ mG q.2 24 5 = mG m 24 5 ∧ mG q.2 24 6 = mG m 24 6 ∧ LO3 S n N0 N1 N2 (36 * N0) q.2) := by
  have b0 := u0.b
  have b1 := u1.b
  have b2 := u2.b
  have c0 := nO_b (S.sz 0)
  have c1 := nO_b (S.sz 1)
  have c2 := nO_b (S.sz 2)
  have kk : ∀ m, FLO M m → K2 m ∧ SHC S 4 m := fun m f => ⟨k2.kp (fun x hx => f _ _ (by have c := cst_out x hx; have := cst_24 x hx; omega) (by have c := cst_out x hx; omega) (by have c := cst_out x hx; omega)), sh.kp (fun c j c0 c1 => f c j (by omega) (by omega) (by omega))⟩
  intro fu
  induction fu with
  | zero => intro o0 m _ _ _ _; exact p_none
  | succ fu ih =>
    intro o0 m h0 fr e0 lo
    show pw (bX1_layOut_61 (mX1_layOut_61 fu) 24 4 (N0 : Int) (N1 : Int) (N2 : Int) m) _
    obtain ⟨Q, hQ⟩ : ∃ Q : Int × Mem → Prop, Q = fun q => FLO M q.2 ∧ mG q.2 24 5 = mG m 24 5 ∧ mG q.2 24 6 = mG m 24 6 ∧ LO3 S n N0 N1 N2 (36 * N0) q.2 := ⟨_, rfl⟩
    rw [← hQ]
    obtain ⟨km, sm⟩ := kk m fr
    unfold bX1_layOut_61
    refine p_gFc (ji := 0) rfl km.c24_0 (p_aGc e0 (p_if (fun c => p_ret ?_) (fun c => ?_)))
    · rw [hQ]
      rw [show o0 = N0 by omega] at lo
      exact ⟨fr, rfl, rfl, lo⟩
    have o0l : o0 < N0 := by omega
    have l78 : ∀ (fu2 o1 : Nat) (m1 : Mem), o1 ≤ N1 → FLO M m1 → (mG m1 24 5 = mG m 24 5 ∧ mG m1 24 6 = mG m 24 6) → (mG m1 25 0 = (o0 : Int) ∧ mG m1 25 1 = (o1 : Int)) → LO3 S n N0 N1 N2 (36 * o0 + 6 * o1) m1 → pw (mX1_layOut_78 (mX1_layOut_61 fu) fu2 24 4 (N0 : Int) (N1 : Int) (N2 : Int) m1) Q := by
      intro fu2
      induction fu2 with
      | zero => intro o1 m1 _ _ _ _ _; exact p_none
      | succ fu2 ih2 =>
        intro o1 m1 h1 fr1 e56 e1 lo1
        show pw (bX1_layOut_78 (mX1_layOut_61 fu) (mX1_layOut_78 (mX1_layOut_61 fu) fu2) 24 4 (N0 : Int) (N1 : Int) (N2 : Int) m1) Q
        obtain ⟨k1, s1⟩ := kk m1 fr1
        unfold bX1_layOut_78
        refine p_gFc (ji := 0) rfl k1.c24_0 (p_aGc e1.2 (p_if (fun d => ?_) (fun d => ?_)))
        · refine p_gFc (ji := 0) rfl k1.c24_0 (p_aGc e1.1 (p_aS (fun m2 h2 => ?_)))
          rw [wI_s (p := o0) (by omega)] at h2
          have g2 : ∀ c j : Int, ¬ c = 25 → mG m2 c j = mG m1 c j := fun c j x => st_ne h2 (fun w => x w.1)
          have i := ih (o0 + 1) m2 (by omega) (fun c j x y z => (g2 c j y).trans (fr1 c j x y z)) (st_eq h2) ((lo1.up (t' := 36 * (o0 + 1)) (by omega) (fun x0 x1 x2 a b c e => by omega)).go (g2 24 4 (by decide)) (fun j => g2 26 j (by decide)))
          refine p_mono i (fun q y => ?_)
          rw [hQ]
          exact ⟨y.1, y.2.1.trans ((g2 24 5 (by decide)).trans e56.1), y.2.2.1.trans ((g2 24 6 (by decide)).trans e56.2), y.2.2.2⟩
        have o1l : o1 < N1 := by omega
        have l95 : ∀ (fu3 o2 : Nat) (m3 : Mem), o2 ≤ N2 → FLO M m3 → (mG m3 24 5 = mG m 24 5 ∧ mG m3 24 6 = mG m 24 6) → ORC o0 o1 o2 m3 → LO3 S n N0 N1 N2 (36 * o0 + 6 * o1 + o2) m3 → pw (mX1_layOut_95 (mX1_layOut_61 fu) (mX1_layOut_78 (mX1_layOut_61 fu) fu2) fu3 24 4 (N0 : Int) (N1 : Int) (N2 : Int) m3) Q := by
          intro fu3
          induction fu3 with
          | zero => intro o2 m3 _ _ _ _ _; exact p_none
          | succ fu3 ih3 =>
            intro o2 m3 h2 fr3 e3 oc lo3
            show pw (bX1_layOut_95 (mX1_layOut_61 fu) (mX1_layOut_78 (mX1_layOut_61 fu) fu2) (mX1_layOut_95 (mX1_layOut_61 fu) (mX1_layOut_78 (mX1_layOut_61 fu) fu2) fu3) 24 4 (N0 : Int) (N1 : Int) (N2 : Int) m3) Q
            obtain ⟨k3, s3⟩ := kk m3 fr3
            unfold bX1_layOut_95
            refine p_gFc (ji := 0) rfl k3.c24_0 (p_aGc oc.2.2 (p_if (fun d2 => ?_) (fun d2 => ?_)))
            · refine p_gFc (ji := 0) rfl k3.c24_0 (p_aGc oc.2.1 (p_aS (fun m4 h4 => ?_)))
              rw [wI_s (p := o1) (by omega)] at h4
              have g4 : ∀ c j : Int, ¬ c = 25 → mG m4 c j = mG m3 c j := fun c j x => st_ne h4 (fun w => x w.1)
              exact ih2 (o1 + 1) m4 (by omega) (fun c j x y z => (g4 c j y).trans (fr3 c j x y z)) ⟨(g4 24 5 (by decide)).trans e3.1, (g4 24 6 (by decide)).trans e3.2⟩ ⟨(st_ne h4 (fun w => absurd w.2 (by decide))).trans oc.1, st_eq h4⟩ ((lo3.up (t' := 36 * o0 + 6 * (o1 + 1)) (by omega) (fun x0 x1 x2 a b c e => by omega)).go (g4 24 4 (by decide)) (fun j => g4 26 j (by decide)))
            have o2l : o2 < N2 := by omega
            obtain ⟨W, A, w1, w2, w3, w4⟩ := lo3
            have w216 : W < 216 := by omega
            refine p_gK (p_call (q_addWay ok hn n12 k3 s3 oc (by omega) (by omega) (by omega) w1 w216) (fun _ m4 y => ?_))
            obtain ⟨y1, y2, y3⟩ := y
            replace y1 : mG m4 24 4 = ((W + 1 : Nat) : Int) := y1
            replace y2 : ∀ p : Nat, p < n → mG m4 26 ((12 * W + p : Nat) : Int) = ((2 ^ (n - 1 - (tpp S (frO (ac o0 o1 o2)) (p : Int)).toNat) : Nat) : Int) := y2
            replace y3 : ∀ c j : Int, ¬ (c = 24 ∧ j = 4) → ¬ (c = 26 ∧ 12 * (W : Int) ≤ j ∧ j < 12 * (W : Int) + 12) → mG m4 c j = mG m3 c j := y3
            have a4 : mG m4 24 0 = 25 := (y3 24 0 (by decide) (by omega)).trans k3.c24_0
            have f0 : mG m4 25 0 = (o0 : Int) := (y3 25 0 (by decide) (by omega)).trans oc.1
            have f1 : mG m4 25 1 = (o1 : Int) := (y3 25 1 (by decide) (by omega)).trans oc.2.1
            have f2 : mG m4 25 2 = (o2 : Int) := (y3 25 2 (by decide) (by omega)).trans oc.2.2
            refine p_gFc (ji := 0) rfl a4 (p_aGc f2 (p_aS (fun m5 h5 => ?_)))
            rw [wI_s (p := o2) (by omega)] at h5
            have g5 : ∀ c j : Int, ¬ c = 25 → mG m5 c j = mG m4 c j := fun c j x => st_ne h5 (fun w => x w.1)
            refine ih3 (o2 + 1) m5 (by omega) (fun c j x y z => (g5 c j y).trans ((y3 c j (fun w => x ⟨w.1, by omega, by omega⟩) (fun w => z w.1)).trans (fr3 c j x y z))) ⟨(g5 24 5 (by decide)).trans ((y3 24 5 (by decide) (by omega)).trans e3.1), (g5 24 6 (by decide)).trans ((y3 24 6 (by decide) (by omega)).trans e3.2)⟩ ⟨(st_ne h5 (fun w => absurd w.2 (by decide))).trans f0, (st_ne h5 (fun w => absurd w.2 (by decide))).trans f1, st_eq h5⟩ ?_
            refine ⟨W + 1, fun y => if y = W then ac o0 o1 o2 else A y, (g5 24 4 (by decide)).trans y1, by omega, fun y hy => ?_, fun x0 x1 x2 a b c e => ?_⟩
            · show (if y = W then ac o0 o1 o2 else A y) < 216 ∧ isA S (if y = W then ac o0 o1 o2 else A y) = true ∧ ∀ p : Nat, p < n → mG m5 26 ((12 * y + p : Nat) : Int) = ((2 ^ (n - 1 - (tpp S (frO (if y = W then ac o0 o1 o2 else A y)) (p : Int)).toNat) : Nat) : Int)
              by_cases ey : y = W
              · rw [if_pos ey, ey]
                exact ⟨(ac_d (by omega) (by omega) (by omega)).1, isA_ac ok (by omega) (by omega) (by omega), fun p hp => (g5 26 _ (by decide)).trans (y2 p hp)⟩
              · rw [if_neg ey]
                obtain ⟨z1, z2, z3⟩ := w3 y (by omega)
                exact ⟨z1, z2, fun p hp => (g5 26 _ (by decide)).trans ((y3 26 _ (by omega) (by omega)).trans (z3 p hp))⟩
            · by_cases z : 36 * x0 + 6 * x1 + x2 < 36 * o0 + 6 * o1 + o2
              · obtain ⟨y, q1, q2⟩ := w4 x0 x1 x2 a b c z
                refine ⟨y, by omega, ?_⟩
                show (if y = W then ac o0 o1 o2 else A y) = _
                rw [if_neg (by omega)]
                exact q2
              · refine ⟨W, by omega, ?_⟩
                show (if W = W then ac o0 o1 o2 else A W) = _
                rw [if_pos rfl, show x0 = o0 by omega, show x1 = o1 by omega, show x2 = o2 by omega]
        refine p_gFc (ji := 0) rfl k1.c24_0 (p_aS (fun m3 h3 => ?_))
        have g3 : ∀ c j : Int, ¬ c = 25 → mG m3 c j = mG m1 c j := fun c j x => st_ne h3 (fun w => x w.1)
        exact l95 FU 0 m3 (by omega) (fun c j x y z => (g3 c j y).trans (fr1 c j x y z)) ⟨(g3 24 5 (by decide)).trans e56.1, (g3 24 6 (by decide)).trans e56.2⟩ ⟨(st_ne h3 (fun w => absurd w.2 (by decide))).trans e1.1, (st_ne h3 (fun w => absurd w.2 (by decide))).trans e1.2, st_eq h3⟩ (lo1.go (g3 24 4 (by decide)) (fun j => g3 26 j (by decide)))
    refine p_gFc (ji := 0) rfl km.c24_0 (p_aS (fun m1 h1 => ?_))
    have g1 : ∀ c j : Int, ¬ c = 25 → mG m1 c j = mG m c j := fun c j x => st_ne h1 (fun w => x w.1)
    exact l78 FU 0 m1 (by omega) (fun c j x y z => (g1 c j y).trans (fr c j x y z)) ⟨g1 24 5 (by decide), g1 24 6 (by decide)⟩ ⟨(st_ne h1 (fun w => absurd w.2 (by decide))).trans e0, st_eq h1⟩ (lo.go (g1 24 4 (by decide)) (fun j => g1 26 j (by decide)))
theorem LO3.laid (ok : S.ok) (hn : S.nf = (n : Int)) (u0 : NUM S 0 N0) (u1 : NUM S 1 N1) (u2 : NUM S 2 N2) (h : LO3 S n N0 N1 N2 (36 * N0) M) (h5 : mG M 24 5 = (n : Int)) : ∃ W A, LAID S n W A M := by
  have b0 := u0.b
  have c0 := nO_b (S.sz 0)
  obtain ⟨W, A, h1, h2, h3, h4⟩ := h
  refine ⟨W, A, ⟨h5, h1, by omega⟩, h3, fun a ha hA => ?_⟩
  have hA' := hA
  unfold isA at hA'
  obtain ⟨p1, p2⟩ := Bool.and_eq_true_iff.mp hA'
  obtain ⟨p0, p1⟩ := Bool.and_eq_true_iff.mp p1
  obtain ⟨x0, q0, r0, s0⟩ := u0.ch ok (by decide) (show a / 36 < 6 by omega) p0
  obtain ⟨x1, q1, r1, s1⟩ := u1.ch ok (by decide) (show a / 6 % 6 < 6 by omega) p1
  obtain ⟨x2, q2, r2, s2⟩ := u2.ch ok (by decide) (show a % 6 < 6 by omega) p2
  obtain ⟨y, y1, y2⟩ := h4 x0 x1 x2 q0 q1 q2 (by omega)
  obtain ⟨_, d0, d1, d2⟩ := ac_d r0 r1 r2
  refine ⟨y, y1, fun w => ?_⟩
  obtain ⟨z1, z2, _⟩ := h3 y y1
  have hr := frO_ren ok ha hA
  have hr' := frO_ren ok z1 z2
  have same : ∀ k : Int, 0 ≤ k → k < 3 → ∀ r : Int, 0 ≤ r → r < S.nr → S.k1 r = k ∨ S.k2 r = k → ∀ i : Int, frO a k i = frO (A y) k i := fun k k0 k1 r t0 t1 hk i => by
    rw [y2]
    unfold frO
    rw [d0, d1, d2]
    obtain e | e | e : k = 0 ∨ k = 1 ∨ k = 2 := by omega
    · subst e; rw [if_pos rfl, if_pos rfl, s0 r t0 t1 hk]
    · subst e; rw [if_neg (by decide), if_pos rfl, if_neg (by decide), if_pos rfl, s1 r t0 t1 hk]
    · subst e; rw [if_neg (by decide), if_neg (by decide), if_neg (by decide), if_neg (by decide), s2 r t0 t1 hk]
  refine IMf.uniq ok hn hr' (IMf.congr ok (f := frO a) (fun r t0 t1 => ?_) (imN_f ok hn hr w)) (imN_f ok hn hr' w)
  obtain ⟨k1, k2⟩ := ok.2.2 r t0 t1
  exact ⟨fun i _ _ => same (S.k1 r) k1.1 (by omega) r t0 t1 (Or.inl rfl) i, fun z i _ _ => same (S.k2 r) (by omega) (by omega) r t0 t1 (Or.inr rfl) i⟩
end
end
section
/-! ===== what OtherNumbers holds is right ===== -/
def CB (S : SH) (M : Mem) : Prop := (¬ mG M 24 6 = 0 → ∃ (n W : Nat) (A : Nat → Nat), S.nf = (n : Int) ∧ n ≤ 12 ∧ LAID S n W A M) ∧ (¬ mG M 24 7 = 0 → ¬ mG M 24 6 = 0 ∧ ∃ n : Nat, S.nf = (n : Int) ∧ WP 27 n (fun u => isF S n u = true) M)
/-- what changes while the least ones are found -/
def FOT (M M' : Mem) : Prop := ∀ c j : Int, ¬ (c = 24 ∧ 4 ≤ j ∧ j ≤ 7) → ¬ c = 25 → ¬ c = 26 → ¬ c = 28 → ¬ c = 30 → ¬ (c = 27 ∧ (j = 1 ∨ j = 2)) → ¬ (c = 29 ∧ (j = 1 ∨ j = 2)) → mG M' c j = mG M c j
theorem FOT.tr {M M' M'' : Mem} (h : FOT M M') (k : FOT M' M'') : FOT M M'' := fun c j a b d e f g i => (k c j a b d e f g i).trans (h c j a b d e f g i)
section
variable {S : SH} {M : Mem} {n : Nat}
theorem CB.kp {M' : Mem} (h : CB S M) (g : ∀ c j : Int, (24 ≤ c ∧ c ≤ 28) → mG M' c j = mG M c j) : CB S M' := by
  refine ⟨fun x => ?_, fun x => ?_⟩
  · rw [g 24 6 (by decide)] at x
    obtain ⟨n, W, A, h1, h2, h3⟩ := h.1 x
    exact ⟨n, W, A, h1, h2, h3.kp (fun c j hc => g c j (by omega))⟩
  · rw [g 24 7 (by decide)] at x
    obtain ⟨h1, n, h2, h3⟩ := h.2 x
    exact ⟨by rw [g 24 6 (by decide)]; exact h1, n, h2, h3.kp (fun c j hc => g c j (by omega))⟩
theorem CB.z {S : SH} {M : Mem} (h6 : mG M 24 6 = 0) (h7 : mG M 24 7 = 0) : CB S M := ⟨fun x => absurd h6 x, fun x => absurd h7 x⟩
theorem q_layOut (ok : S.ok) (hn : S.nf = (n : Int)) (n12 : n ≤ 12) (k2 : K2 M) (sh : SHC S 4 M) (cb : CB S M) : pw (mX1_layOut 24 4 M) (fun q => (∃ W A, LAID S n W A q.2) ∧ ¬ mG q.2 24 6 = 0 ∧ FLO M q.2 ∧ CB S q.2) := by
  unfold mX1_layOut
  refine p_gF (ji := 6) rfl (fun v hv => p_if (fun c => ?_) (fun c => p_ret ?_))
  · have e6 : mG M 24 6 = 0 := hv.trans c
    have e7 : mG M 24 7 = 0 := by
      apply Classical.byContradiction
      intro x
      exact (cb.2 x).1 e6
    have s8 := sh.1.2.2.2.2.2.2.2
    rw [hn] at s8
    refine p_gFc (ji := 7) rfl s8 (p_it1 (by omega) (p_pZ (ji := 6) rfl (fun m1 h1 => ?_)))
    have g1 : ∀ c j : Int, ¬ (c = 24 ∧ j = 6) → mG m1 c j = mG M c j := fun c j x => st_ne h1 x
    refine p_gFc (ji := 7) rfl ((g1 4 7 (by decide)).trans s8) (p_pF (ji := 5) rfl (fun m2 h2 => p_pF (ji := 4) rfl (fun m3 h3 => ?_)))
    have g3 : ∀ c j : Int, ¬ (c = 24 ∧ 4 ≤ j ∧ j ≤ 6) → mG m3 c j = mG M c j := fun c j x => (st_ne h3 (fun w => x (by omega))).trans ((st_ne h2 (fun w => x (by omega))).trans (g1 c j (fun w => x (by omega))))
    have f5 : mG m3 24 5 = (n : Int) := (st_ne h3 (fun w => absurd w.2 (by decide))).trans (st_eq h2)
    have f6 : mG m3 24 6 = 1 := (st_ne h3 (fun w => absurd w.2 (by decide))).trans ((st_ne h2 (fun w => absurd w.2 (by decide))).trans (st_eq h1))
    have f4 : mG m3 24 4 = 0 := st_eq h3
    have k3 : K2 m3 := k2.kp (fun x hx => g3 _ _ (by have := cst_24 x hx; omega))
    have s3 : SHC S 4 m3 := sh.kp (fun c j c0 c1 => g3 c j (by omega))
    refine p_call (q_ordersOf ok s3 (k := 0) (by decide)) (fun v0 m4 y => ?_)
    obtain ⟨y1, N0, y2, u0⟩ := y
    replace y1 : m4 = m3 := y1
    replace y2 : v0 = (N0 : Int) := y2
    subst y1; subst y2
    refine p_call (q_ordersOf ok s3 (k := 1) (by decide)) (fun v1 m5 y => ?_)
    obtain ⟨y1, N1, y2, u1⟩ := y
    replace y1 : m5 = m4 := y1
    replace y2 : v1 = (N1 : Int) := y2
    subst y1; subst y2
    refine p_call (q_ordersOf ok s3 (k := 2) (by decide)) (fun v2 m6 y => ?_)
    obtain ⟨y1, N2, y2, u2⟩ := y
    replace y1 : m6 = m5 := y1
    replace y2 : v2 = (N2 : Int) := y2
    subst y1; subst y2
    refine p_gFc (ji := 0) rfl k3.c24_0 (p_aS (fun m7 h7 => ?_))
    have g7 : ∀ c j : Int, ¬ c = 25 → mG m7 c j = mG m6 c j := fun c j x => st_ne h7 (fun w => x w.1)
    have lo : LO3 S n N0 N1 N2 (36 * 0) m7 := ⟨0, fun _ => 0, (g7 24 4 (by decide)).trans f4, by omega, fun y hy => absurd hy (by omega), fun x0 x1 x2 _ _ _ e => absurd e (by omega)⟩
    refine p_mono (q_layOut61 ok hn n12 k2 sh u0 u1 u2 FU 0 m7 (Nat.zero_le _) (fun c j x y z => (g7 c j y).trans (g3 c j x)) (st_eq h7) lo) (fun q y => ?_)
    obtain ⟨a1, a2, a3, a4⟩ := y
    have q5 : mG q.2 24 5 = (n : Int) := a2.trans ((g7 24 5 (by decide)).trans f5)
    have q6 : mG q.2 24 6 = 1 := a3.trans ((g7 24 6 (by decide)).trans f6)
    have la := a4.laid ok hn u0 u1 u2 q5
    obtain ⟨W, A, la⟩ := la
    refine ⟨⟨W, A, la⟩, by omega, a1, fun _ => ⟨n, W, A, hn, n12, la⟩, fun x => absurd ((a1 24 7 (by decide) (by decide) (by decide)).trans e7) x⟩
  · have e6 : ¬ mG M 24 6 = 0 := fun z => c (hv.symm.trans z)
    obtain ⟨n', W, A, h1, h2, h3⟩ := cb.1 e6
    rw [hn] at h1
    have en : n' = n := by omega
    subst en
    exact ⟨⟨W, A, h3⟩, e6, fun _ _ _ _ _ => rfl, cb⟩
theorem q_leastOnes (ok : S.ok) (hn : S.nf = (n : Int)) (n12 : n ≤ 12) (k2 : K2 M) (sh : SHC S 4 M) (cb : CB S M) : pw (mX1_leastOnes 24 4 M) (fun q => q.1 = 27 ∧ WP 27 n (fun u => isF S n u = true) q.2 ∧ CB S q.2 ∧ FOT M q.2) := by
  unfold mX1_leastOnes
  refine p_gK (p_call (q_layOut ok hn n12 k2 sh cb) (fun _ m1 y => ?_))
  obtain ⟨⟨W, A, la⟩, h6, fl, cb1⟩ := y
  replace la : LAID S n W A m1 := la
  replace h6 : ¬ mG m1 24 6 = 0 := h6
  replace fl : FLO M m1 := fl
  replace cb1 : CB S m1 := cb1
  have k1 : K2 m1 := k2.kp (fun x hx => fl _ _ (by have := cst_24 x hx; omega) (by have c := cst_out x hx; omega) (by have c := cst_out x hx; omega))
  have f1 : FOT M m1 := fun c j a b d e f g i => fl c j (fun w => a ⟨w.1, by omega, by omega⟩) b d
  refine p_gF (ji := 7) rfl (fun v hv => p_if (fun c => ?_) (fun c => ?_))
  · refine p_gK (p_call (q_mark ok hn n12 k1 la) (fun _ m2 y => ?_))
    obtain ⟨wp, g⟩ := y
    replace wp : WP 27 n (fun u => isF S n u = true) m2 := wp
    replace g : ∀ c j : Int, ¬ c = 28 → ¬ c = 30 → ¬ (c = 27 ∧ (j = 1 ∨ j = 2)) → ¬ (c = 29 ∧ (j = 1 ∨ j = 2)) → mG m2 c j = mG m1 c j := g
    refine p_pZ (ji := 7) rfl (fun m3 h3 => ?_)
    have g3 : ∀ c j : Int, ¬ (c = 24 ∧ j = 7) → mG m3 c j = mG m2 c j := fun c j x => st_ne h3 x
    have gg : ∀ c j : Int, ¬ (c = 24 ∧ j = 7) → ¬ c = 28 → ¬ c = 30 → ¬ (c = 27 ∧ (j = 1 ∨ j = 2)) → ¬ (c = 29 ∧ (j = 1 ∨ j = 2)) → mG m3 c j = mG m1 c j := fun c j x a b d e => (g3 c j x).trans (g c j a b d e)
    have w3 : WP 27 n (fun u => isF S n u = true) m3 := wp.kp (fun c j hc => g3 c j (by omega))
    unfold mX1_leastOnes_21
    refine p_gFc (ji := 2) rfl ((gg 24 2 (by decide) (by decide) (by decide) (by decide) (by decide)).trans k1.c24_2) (p_ret ⟨rfl, w3, ⟨fun _ => ⟨n, W, A, hn, n12, la.kp (fun c j hc => gg c j (by omega) (by omega) (by omega) (by omega) (by omega))⟩, fun _ => ⟨by rw [gg 24 6 (by decide) (by decide) (by decide) (by decide) (by decide)]; exact h6, n, hn, w3⟩⟩, fun c j a b d e f i k => (gg c j (fun w => a ⟨w.1, by omega, by omega⟩) e f i k).trans (f1 c j a b d e f i k)⟩)
  · obtain ⟨_, n', h1, h2⟩ := cb1.2 (fun z => c (hv.symm.trans z))
    rw [hn] at h1
    have en : n' = n := by omega
    subst en
    unfold mX1_leastOnes_21
    exact p_gFc (ji := 2) rfl k1.c24_2 (p_ret ⟨rfl, h2, cb1, f1⟩)
/-- the forms among the worlds -/
theorem q_pickForms {f : Nat → Bool} (ok : S.ok) (hn : S.nf = (n : Int)) (n12 : n ≤ 12) (k2 : K2 M) (sh : SHC S 4 M) (cb : CB S M) (ws : WS 34 (n : Int) f M) (hf : ∀ w, ¬ w < 2 ^ n → f w = false) : pw (mX4_pickForms 2 M) (fun q => WS 36 (n : Int) (fun w => f w && isF S n w) q.2 ∧ CB S q.2 ∧ ∀ c j : Int, ¬ (24 ≤ c ∧ c ≤ 30) → ¬ c = 37 → ¬ (c = 36 ∧ (j = 1 ∨ j = 2)) → mG q.2 c j = mG M c j) := by
  have ub := uw_b (n := (n : Int)) ⟨by omega, by omega⟩
  unfold mX4_pickForms
  refine p_gFc (ji := 7) rfl k2.c2_7 (p_gFc (ji := 6) rfl k2.c2_6 (p_gK (p_call (q_copy (l := 36) (l1 := 34) ⟨by omega, by omega⟩ k2.c36_0 ws ⟨by decide, by decide, by decide⟩) (fun _ m1 y => ?_))))
  obtain ⟨w1, f1⟩ := y
  replace w1 : WS 36 (n : Int) f m1 := w1
  replace f1 : FW 36 M m1 := f1
  have g1 : ∀ c j : Int, ¬ c = 37 → ¬ (c = 36 ∧ (j = 1 ∨ j = 2)) → mG m1 c j = mG M c j := fun c j a b => f1 c j a b
  have k1 := k2.fw f1 (by decide)
  refine p_gFc (ji := 7) rfl k1.c2_7 (p_gFc (ji := 2) rfl k1.c2_2 (p_gFc (ji := 0) rfl k1.c2_0 (p_gFc (ji := 0) rfl k1.c3_0 (p_gK (p_call (q_leastOnes ok hn n12 k1 (sh.kp (fun c j c0 c1 => g1 c j (by omega) (by omega))) (cb.kp (fun c j hc => g1 c j (by omega) (by omega)))) (fun v m2 y => ?_))))))
  obtain ⟨e, ⟨h, h1, h2⟩, cb2, f2⟩ := y
  replace e : v = 27 := e
  replace h1 : WS 27 (n : Int) h m2 := h1
  replace cb2 : CB S m2 := cb2
  replace f2 : FOT m1 m2 := f2
  subst e
  have g2 : ∀ c j : Int, ¬ (24 ≤ c ∧ c ≤ 30) → mG m2 c j = mG m1 c j := fun c j a => f2 c j (by omega) (by omega) (by omega) (by omega) (by omega) (by omega) (by omega)
  refine p_gK (p_call (q_keepOnly (l := 36) (l1 := 27) ⟨by omega, by omega⟩ (w1.kp (fun j => g2 36 j (by decide)) (fun j => g2 (36 + 1) j (by decide))) h1 ⟨by decide, by decide⟩) (fun _ m3 y => p_ret ?_))
  obtain ⟨w3, f3⟩ := y
  replace f3 : FX 37 m2 m3 := f3
  refine ⟨WS.ext w3 (fun w _ => ?_), cb2.kp (fun c j hc => f3 c j (by omega)), fun c j a b d => (f3 c j b).trans ((g2 c j a).trans (g1 c j b d))⟩
  show (f w && h w) = (f w && isF S n w)
  by_cases c : w < 2 ^ n
  · have := h2 w c
    cases e1 : h w with
    | true => rw [this.mp e1]
    | false =>
      cases e2 : isF S n w with
      | true => rw [this.mpr e2] at e1; cases e1
      | false => rfl
  · rw [hf w c]; rfl
end
end
section
/-! ===== forms alike ===== -/
def JB (M : Mem) : Prop := J3 M ∧ CB (shp M) M
section
variable {M : Mem}
theorem CB.fl {S : SH} {m : Mem} (h : CB S M) (k : FLK M m) : CB S m := h.kp (fun c j hc => k c j (nq_0 (by omega)))
/-- the forms are picked, behind a look-up -/
theorem q_picked {n : Nat} {P : Nat → List Row} {vw : Nat} {F : Int → Int} {m : Mem} (ok : (shp M).ok) (hn : (shp M).nf = (n : Int)) (n12 : n ≤ 12) (k2 : K2 M) (sh : SHC (shp M) 4 M) (cb : CB (shp M) M) (lk : LK (shp M) P vw F M m) : pw (mX4_pickForms 2 m) (fun q => WS 36 (n : Int) (fun w => WDw (shp M) P vw F w && isF (shp M) n w) q.2 ∧ CB (shp M) q.2 ∧ (∀ c j : Int, ¬ (24 ≤ c ∧ c ≤ 30) → ¬ c = 37 → ¬ (c = 36 ∧ (j = 1 ∨ j = 2)) → mG q.2 c j = mG m c j)) := by
  obtain ⟨_, w34, _, _, fl⟩ := id lk
  rw [hn] at w34
  exact q_pickForms ok hn n12 (k2.fl fl) (sh.fl fl) (cb.fl fl) w34 (fun w hw => wd_out hn hw)
theorem q_forms8 {n : Nat} {P : Nat → List Row} {vw : Nat} {F : Int → Int} (ok : (shp M).ok) (hn : (shp M).nf = (n : Int)) (k2 : K2 M) (sh : SHC (shp M) 4 M) (cb : CB (shp M) M) (h1 : mG M 1 0 = 2) (hl : pw (mX4_lookUp 2 M) (fun q => (12 < n ∧ q.1 = 0 ∧ q.2 = M) ∨ (n ≤ 12 ∧ q.1 = 1 ∧ LK (shp M) P vw F M q.2))) : pw (mX8_forms 1 M) (fun q => (CB (shp q.2) q.2 ∧ ∀ c j : Int, 65 ≤ c → mG q.2 c j = mG M c j) ∧ ((12 < n ∧ q.1 = -1) ∨ (n ≤ 12 ∧ q.1 = ((ctn (fun w => WDw (shp M) P vw F w && isF (shp M) n w) (2 ^ n) : Nat) : Int)))) := by
  have nf := ok.nf
  obtain ⟨Q, hQ⟩ : ∃ Q : Int × Mem → Prop, Q = fun q => (CB (shp q.2) q.2 ∧ ∀ c j : Int, 65 ≤ c → mG q.2 c j = mG M c j) ∧ ((12 < n ∧ q.1 = -1) ∨ (n ≤ 12 ∧ q.1 = ((ctn (fun w => WDw (shp M) P vw F w && isF (shp M) n w) (2 ^ n) : Nat) : Int))) := ⟨_, rfl⟩
  rw [← hQ]
  unfold mX8_forms
  refine p_gFc (ji := 0) rfl h1 (p_gK (p_call (P := Q) ?_ (fun v m y => p_ret y)))
  unfold mX4_countForms
  refine p_gK (p_call hl (fun v m y => ?_))
  rcases y with ⟨a, b, c⟩ | ⟨a, b, c⟩
  · replace c : m = M := c
    subst c
    refine p_it1 b (p_ret ?_)
    rw [hQ]
    exact ⟨⟨cb, fun _ _ _ => rfl⟩, Or.inl ⟨a, rfl⟩⟩
  · replace b : v = 1 := b
    have lk : LK (shp M) P vw F M m := c
    have fl := lk.2.2.2.2
    refine p_it0 (show ¬ v = 0 by omega) (p_gK (p_call (q_picked ok hn a k2 sh cb lk) (fun _ m2 y => ?_)))
    obtain ⟨w36, cb2, g2⟩ := y
    replace w36 : WS 36 (n : Int) (fun w => WDw (shp M) P vw F w && isF (shp M) n w) m2 := w36
    replace cb2 : CB (shp M) m2 := cb2
    replace g2 : ∀ c j : Int, ¬ (24 ≤ c ∧ c ≤ 30) → ¬ c = 37 → ¬ (c = 36 ∧ (j = 1 ∨ j = 2)) → mG m2 c j = mG m c j := g2
    have c27 : mG m2 2 7 = 36 := (g2 2 7 (by decide) (by decide) (by decide)).trans (k2.fl fl).c2_7
    refine p_gFc (ji := 7) rfl c27 (p_gK (p_call (q_count (l := 36) ⟨by omega, by omega⟩ w36) (fun r m3 y => p_ret ?_)))
    obtain ⟨y1, y2⟩ := y
    replace y1 : m3 = m2 := y1
    replace y2 : r = ((ctn (fun w => WDw (shp M) P vw F w && isF (shp M) n w) (64 * uw (n : Int)) : Nat) : Int) := y2
    subst y1
    rw [ctn_uw a (fun w hw => by rw [wd_out hn hw]; rfl)] at y2
    have es : shp m3 = shp M := shp_go (fun b j x => (g2 b j (by omega) (by omega) (by omega)).trans (fl b j (nq_0 (by omega))))
    rw [hQ]
    exact ⟨⟨by rw [es]; exact cb2, fun c j c0 => (g2 c j (by omega) (by omega) (by omega)).trans (fl c j (nq_0 (by omega)))⟩, Or.inr ⟨a, y2⟩⟩
theorem cb_forms (h : JB M) : pw (mX8_forms 1 M) (fun q => CB (shp q.2) q.2) := by
  obtain ⟨P, n, ok, hn, k2, sh, tp, rf, ve, vlt, h1, hl⟩ := look h.1
  exact p_mono (q_forms8 ok hn k2 sh h.2 h1.1 hl) (fun q y => y.1.1)
theorem eq_forms (h : JB M) : pw (mX8_forms 1 M) (fun q1 => pw (mX9_forms 126 q1.2) (fun q2 => EQ q1 q2)) := by
  obtain ⟨P, n, ok, hn, k2, sh, tp, rf, ve, vlt, h1, hl⟩ := look h.1
  refine p_mono (q_forms8 ok hn k2 sh h.2 h1.1 hl) (fun q1 y => ?_)
  obtain ⟨⟨_, g⟩, y⟩ := y
  obtain ⟨rf2, e1, e2, e3⟩ := rf.f9 (M' := q1.2) (fun c j c0 _ => g c j (by omega))
  obtain ⟨K, hK⟩ := Int.eq_ofNat_of_zero_le rf.2.2.2.1.1
  have h8 := rf.2.2.2.1
  rw [hK, Int.toNat_natCast] at vlt
  refine p_mono (v_forms ok hn rf2 (e3.trans hK)) (fun q2 z => ?_)
  rw [e1, e2, ve] at z
  show q1.1 = q2.1
  rcases y with ⟨a, b⟩ | ⟨a, b⟩
  · rcases z with ⟨c, d⟩ | ⟨c, d⟩
    · rw [b, d]
    · omega
  · rcases z with ⟨c, d⟩ | ⟨c, d⟩
    · omega
    · rw [b, d, ctn_congr _ (fun w hw => by rw [wd_eq hn vlt (by omega) hw])]
/-! what the other calls leave alone -/
def NBC (b j : Int) : Prop := b ≤ 169 ∧ ¬ (24 ≤ b ∧ b ≤ 28) ∧ ¬ (b = 4 ∧ j = 6) ∧ ¬ (5 ≤ b ∧ b ≤ 7)
theorem CB.go {n : Nat} {M' : Mem} (iM : I n M) (cb : CB (shp M) M) (g : ∀ b j : Int, (24 ≤ b ∧ b ≤ 28) ∨ (b = 4 ∧ j = 6) ∨ (5 ≤ b ∧ b ≤ 7) → mG M' b j = mG M b j) : CB (shp M') M' := by
  rw [shp_go (fun b j x => g b j (by omega))]
  exact cb.kp (fun c j hc => g c j (Or.inl hc))
theorem CB.f9 {n : Nat} {M' : Mem} (iM : I n M) (cb : CB (shp M) M) (g : ∀ b j : Int, b ≤ (n : Int) → ¬ (126 ≤ b ∧ b ≤ 169) → mG M' b j = mG M b j) : CB (shp M') M' := by
  have hn : (169 : Int) ≤ (n : Int) := by have := iM.2.2.2.2.1; omega
  exact cb.go iM (fun b j hb => g b j (by omega) (by omega))
theorem cb_of {x : Option (Int × Mem)} {W : Int → Int → Prop} {P : Int × Mem → Prop} (h : JB M) (hx : wp x (fun q => I (mN M) q.2 ∧ Keep (mN M) W M q.2 ∧ P q)) (d : ∀ b j, W b j → NBC b j) : pw x (fun q => CB (shp q.2) q.2) :=
  p_mono (p_wp hx) (fun q y => by
    have iM := h.1.1.1.1
    have hn : (169 : Int) ≤ ((mN M : Nat) : Int) := by have := iM.2.2.2.2.1; omega
    exact h.2.go iM (fun b j hb => y.2.1.2.2 b j (by omega) (fun z => by
      have := d b j z
      unfold NBC at this
      omega)))
theorem q_forgetO : pw (mX4_forget 2 M) (fun q => mG M 2 2 = 24 → mG q.2 24 6 = 0 ∧ mG q.2 24 7 = 0) := by
  unfold mX4_forget
  refine p_pF (ji := 4) rfl (fun m1 h1 => p_pF (ji := 10) rfl (fun m2 h2 => p_gF (ji := 2) rfl (fun a ha => p_gK ?_)))
  unfold mX1_forget
  refine p_bindg (fun Q1 hQ1 => p_pZ (ji := 6) rfl (fun m3 h3 => p_pZ (ji := 7) rfl (fun m4 h4 => p_ret (hQ1 _ (p_ret (fun e => ?_))))))
  have ea : a = 24 := ha.symm.trans ((st_ne h2 (fun w => absurd w.2 (by decide))).trans ((st_ne h1 (fun w => absurd w.2 (by decide))).trans e))
  subst ea
  show mG m4 24 6 = 0 ∧ mG m4 24 7 = 0
  exact ⟨(st_ne h4 (fun w => absurd w.2 (by decide))).trans (st_eq h3), st_eq h4⟩
end
end
section
/-! ===== what OtherNumbers holds is kept ===== -/
section
variable {M : Mem} {n : Nat}
theorem o_size {a b : Int} (r1 : (-2147483648) ≤ a ∧ a ≤ 2147483647) (r2 : (-2147483648) ≤ b ∧ b ≤ 2147483647) (iM : I n M) : pw (mX8_size 1 a b M) (fun q => q.1 = 0 ∨ (mG q.2 24 6 = 0 ∧ mG q.2 24 7 = 0)) := by
  unfold mX8_size
  refine p_gFc (ji := 1) rfl (rd_VS_1 iM (a := 1) rfl) (p_gFc (ji := 0) rfl (K2.of iM).c3_0 (p_gK (p_call (p_wp (s_X3_resize (l0 := 4) (Or.inl rfl) r1 r2 iM)) (fun v m y => p_if (fun _ => p_ret (Or.inl rfl)) (fun _ => ?_)))))
  have i1 := y.1
  refine p_gFc (ji := 1) rfl (rd_VS_1 i1 (a := 1) rfl) (p_gK (p_call (p_wp (s_X6_clearWorlds i1)) (fun v m2 y => ?_)))
  have k2 := (K2.of y.1).c2_2
  exact p_gFc (ji := 0) rfl (rd_VS_0 y.1 (a := 1) rfl) (p_gK (p_call q_forgetO (fun v m3 y => p_ret (Or.inr (y k2)))))
theorem o_relation {a b : Int} (r1 : (-2147483648) ≤ a ∧ a ≤ 2147483647) (r2 : (-2147483648) ≤ b ∧ b ≤ 2147483647) (iM : I n M) : pw (mX8_relation 1 a b M) (fun q => q.1 = -1 ∨ (mG q.2 24 6 = 0 ∧ mG q.2 24 7 = 0)) := by
  unfold mX8_relation
  refine p_gFc (ji := 1) rfl (rd_VS_1 iM (a := 1) rfl) (p_gFc (ji := 0) rfl (K2.of iM).c3_0 (p_gK (p_call (p_wp (s_X3_addRelation (l0 := 4) (Or.inl rfl) r1 r2 iM)) (fun v m y => ?_))))
  have i1 := y.1
  unfold mX8_relation_32
  refine p_if (fun c => p_ret (Or.inl c)) (fun _ => ?_)
  refine p_gFc (ji := 1) rfl (rd_VS_1 i1 (a := 1) rfl) (p_gK (p_call (p_wp (s_X6_clearWorlds i1)) (fun v2 m2 y => ?_)))
  have k2 := (K2.of y.1).c2_2
  exact p_gFc (ji := 0) rfl (rd_VS_0 y.1 (a := 1) rfl) (p_gK (p_call q_forgetO (fun v m3 y => p_ret (Or.inr (y k2)))))
theorem o_again {a : Int} (iM : I n M) : pw (mX8_again 1 a M) (fun q => q.1 = 0 ∨ (mG q.2 24 6 = 0 ∧ mG q.2 24 7 = 0)) := by
  unfold mX8_again
  refine p_if (fun _ => p_ret (Or.inl rfl)) (fun c1 => p_if (fun _ => p_ret (Or.inl rfl)) (fun c2 => p_gF (ji := 4) rfl (fun _ _ => p_aG (fun _ _ => p_if (fun _ => p_ret (Or.inl rfl)) (fun _ => ?_)))))
  refine p_gFc (ji := 1) rfl (rd_VS_1 iM (a := 1) rfl) (p_gFc (ji := 3) rfl (rd_VS_3 iM (a := 1) rfl) (p_aGc (rd_Vimages iM (a := 73) (i := a) rfl (by omega) (by omega)) (p_gK (p_call (p_wp (s_X6_copy (l0 := 3) (l1 := 75 + 17 * a) (Or.inl rfl) (by unfold isTold; omega) iM)) (fun v m y => ?_)))))
  have k2 := (K2.of y.1).c2_2
  exact p_gFc (ji := 0) rfl (rd_VS_0 y.1 (a := 1) rfl) (p_gK (p_call q_forgetO (fun v m3 y => p_ret (Or.inr (y k2)))))
theorem cb_size {a b : Int} (r1 : (-2147483648) ≤ a ∧ a ≤ 2147483647) (r2 : (-2147483648) ≤ b ∧ b ≤ 2147483647) (h : JB M) : pw (mX8_size 1 a b M) (fun q => CB (shp q.2) q.2) :=
  p_mono (p_and (pl_size h.1.1.1.1) (o_size r1 r2 h.1.1.1.1)) (fun q y => by
    rcases y.1 with ⟨_, _, z⟩ | ⟨z, _⟩
    · rw [z]; exact h.2
    · rcases y.2 with w | w
      · omega
      · exact CB.z w.1 w.2)
theorem cb_relation {a b : Int} (r1 : (-2147483648) ≤ a ∧ a ≤ 2147483647) (r2 : (-2147483648) ≤ b ∧ b ≤ 2147483647) (h : JB M) : pw (mX8_relation 1 a b M) (fun q => CB (shp q.2) q.2) :=
  p_mono (p_and (pl_relation h.1.1.1.1) (o_relation r1 r2 h.1.1.1.1)) (fun q y => by
    have r6 := rd_Shape_6 h.1.1.1.1 (a := 4) rfl
    rcases y.1 with ⟨_, _, z⟩ | ⟨z, _⟩
    · rw [z]; exact h.2
    · rcases y.2 with w | w
      · omega
      · exact CB.z w.1 w.2)
theorem cb_again {a : Int} (h : JB M) : pw (mX8_again 1 a M) (fun q => CB (shp q.2) q.2) :=
  p_mono (p_and (pl_again h.1.1.1.1) (o_again h.1.1.1.1)) (fun q y => by
    rcases y.1 with ⟨_, _, z⟩ | ⟨z, _⟩
    · rw [z]; exact h.2
    · rcases y.2 with w | w
      · omega
      · exact CB.z w.1 w.2)
theorem cb_story (h : JB M) : pw (mX8_story 1 M) (fun q => CB (shp q.2) q.2) := by
  have iM := h.1.1.1.1
  have hn : (169 : Int) ≤ ((mN M : Nat) : Int) := by have := iM.2.2.2.2.1; omega
  refine p_mono (p2_story iM) (fun q y => ?_)
  rcases y with ⟨_, _, g⟩ | ⟨_, _, _, g⟩ | ⟨lt, _, ps, _, _, _, _, _, e11, g⟩
  · exact h.2.go iM (fun b j hb => g b j (by unfold CR; omega))
  · exact h.2.go iM (fun b j hb => g b j (by omega) (by unfold CR; omega))
  · exact h.2.go iM (fun b j hb => g b j (by omega) (by unfold CR; omega) (by omega) (by omega))
theorem cb_guess (h : JB M) : pw (mX8_guess 1 M) (fun q => CB (shp q.2) q.2) := by
  have iM := h.1.1.1.1
  have hn : (169 : Int) ≤ ((mN M : Nat) : Int) := by have := iM.2.2.2.2.1; omega
  refine p_mono (p_wp (s_X8_guess iM)) (fun q y => ?_)
  obtain ⟨⟨n, hn', i2, k2, _⟩, _⟩ := y
  exact h.2.go iM (fun b j hb => k2.2.2 b j (by omega) (fun z => by unfold W_X8_guess at z; omega))
theorem cb_image {a : Int} (h : JB M) : pw (mX8_image 1 a M) (fun q => CB (shp q.2) q.2) := by
  refine p_mono (pl_image h.1.1.1.1) (fun q y => ?_)
  rcases y with ⟨_, _, z⟩ | ⟨_, c, M1, ⟨_, _, _, _, g⟩, e⟩
  · rw [z]; exact h.2
  · exact h.2.go h.1.1.1.1 (fun b j hb => (st_ne e (fun w => by omega)).trans (g b j (fun w => by omega)))
theorem cb_becomes {v : Int} (iM : I n M) (cb : CB (shp M) M) : pw (mX8_becomes 1 v M) (fun q => CB (shp q.2) q.2) := by
  have h1 : mG M 1 1 = 3 := rd_VS_1 iM (a := 1) rfl
  unfold mX8_becomes
  refine p_if (fun c => p_ret cb) (fun c => p_gFc (ji := 1) rfl h1 (p_pF (ji := 1) rfl (fun m2 h2 => p_ret ?_)))
  exact cb.go iM (fun b j hb => st_ne h2 (fun w => by omega))
end
theorem init_JB {M : Mem} (r : RepL 197 169 M) : JB M := by
  have t := TR.of r (X := 0) (lo := 1) (hi := 169)
  exact ⟨init_J3 r, CB.z (t.v (show tvo 0 [] 24 6 = some 0 by decide) ⟨by decide, by decide⟩) (t.v (show tvo 0 [] 24 7 = some 0 by decide) ⟨by decide, by decide⟩)⟩
end
section
/-! ===== what OtherNumbers holds is kept, where it is used ===== -/
section
variable {M : Mem} {n : Nat}
theorem rn_same {y w : Int} : ∀ (fu : Nat) (a p : Int), pw (mX1_renumbered_5 fu 24 y w a p M) (fun q => q.2 = M) := by
  intro fu
  induction fu with
  | zero => intro a p; exact p_none
  | succ fu ih =>
    intro a p
    show pw (bX1_renumbered_5 (mX1_renumbered_5 fu) 24 y w a p M) _
    unfold bX1_renumbered_5 mX1_renumbered_45
    exact p_gF (ji := 5) rfl (fun _ _ => p_if (fun _ => p_ret rfl) (fun _ => p_gF (ji := 5) rfl (fun _ _ => p_if (fun _ => ih _ _) (fun _ => p_gF (ji := 1) rfl (fun _ _ => p_aG (fun _ _ => ih _ _))))))
theorem lo_same {w : Int} : ∀ (fu : Nat) (l y : Int), pw (mX1_leastOf_10 fu 24 w l y M) (fun q => q.2 = M) := by
  intro fu
  induction fu with
  | zero => intro l y; exact p_none
  | succ fu ih =>
    intro l y
    show pw (bX1_leastOf_10 (mX1_leastOf_10 fu) 24 w l y M) _
    unfold bX1_leastOf_10 mX1_renumbered
    refine p_gF (ji := 4) rfl (fun _ _ => p_if (fun _ => p_ret rfl) (fun _ => p_gK (p_call (rn_same FU 0 0) (fun v m e => ?_))))
    replace e : m = M := e
    subst e
    exact p_some (fun _ _ => ih _ _)
theorem bc_same {x : Int} : pw (mJ6_bitCount_0f7a4 x M) (fun q => q.2 = M) := by
  unfold mJ6_bitCount_0f7a4
  exact p_some (fun _ _ => p_some (fun _ _ => p_some (fun _ _ => p_some (fun _ _ => p_some (fun _ _ => p_ret rfl)))))
theorem fa_same {w z : Int} : ∀ (fu : Nat) (l y : Int), pw (mX1_fewestApart_12 fu 24 w z l y M) (fun q => q.2 = M) := by
  intro fu
  induction fu with
  | zero => intro l y; exact p_none
  | succ fu ih =>
    intro l y
    show pw (bX1_fewestApart_12 (mX1_fewestApart_12 fu) 24 w z l y M) _
    unfold bX1_fewestApart_12 mX1_renumbered
    refine p_gF (ji := 4) rfl (fun _ _ => p_if (fun _ => p_ret rfl) (fun _ => p_gK (p_call (rn_same FU 0 0) (fun v m e => ?_))))
    replace e : m = M := e
    subst e
    refine p_call bc_same (fun v2 m2 e2 => ?_)
    replace e2 : m2 = m := e2
    subst e2
    exact p_some (fun _ _ => ih _ _)
theorem FLO.shp {m : Mem} (h : FLO M m) : shp m = shp M := shp_go (fun b j x => h b j (by omega) (by omega) (by omega))
theorem cb_leastRow (h : JB M) : pw (mX4_leastRow 2 M) (fun q => CB (shp q.2) q.2) := by
  obtain ⟨P, n, ok, hn, k2, sh, tp, rf, ve, vlt, h1, hl⟩ := look h.1
  unfold mX4_leastRow
  refine p_gK (p_call (q_canTell k2 sh) (fun v m y => ?_))
  obtain ⟨y1, y2⟩ := y
  replace y1 : m = M := y1
  subst y1
  rcases y2 with ⟨_, e⟩ | ⟨n12, e⟩
  · exact p_it1 e (p_ret h.2)
  replace e : v = 1 := e
  refine p_it0 (show ¬ v = 0 by omega) (p_gFc (ji := 2) rfl k2.c2_2 (p_gFc (ji := 0) rfl k2.c2_0 (p_gFc (ji := 0) rfl k2.c3_0 (p_gFc (ji := 0) rfl k2.c2_0 (p_gF (ji := 1) rfl (fun w _ => p_gK (p_call (P := fun q => CB (shp q.2) q.2) ?_ (fun v m y => p_ret y))))))))
  unfold mX1_leastOf
  refine p_gK (p_call (q_layOut ok hn (by omega) k2 sh h.2) (fun _ m1 y => ?_))
  obtain ⟨_, _, fl, cb1⟩ := y
  replace fl : FLO m m1 := fl
  replace cb1 : CB (shp m) m1 := cb1
  refine p_mono (lo_same FU _ 0) (fun q z => ?_)
  rw [z, fl.shp]
  exact cb1
theorem cb_name (h : JB M) : pw (mX8_name 1 M) (fun q => CB (shp q.2) q.2) := by
  have iM := h.1.1.1.1
  unfold mX8_name
  refine p_gFc (ji := 0) rfl (rd_VS_0 iM (a := 1) rfl) (p_gK (p_call (p_and (cb_leastRow h) (p_wp (s_X4_leastRow iM))) (fun v m y => ?_)))
  obtain ⟨cb, i1, _⟩ := y
  replace cb : CB (shp m) m := cb
  replace i1 : I (mN M) m := i1
  refine p_gF (ji := 1) rfl (fun a _ => p_gF (ji := 1) rfl (fun w _ => p_if (fun _ => p_ret cb) (fun _ => p_gK (p_call (cb_becomes i1 cb) (fun r m2 z => p_if (fun _ => p_ret z) (fun _ => p_ret z))))))
theorem cb_apart {l : Int} (h : JB M) : pw (mX8_apart 1 l M) (fun q => CB (shp q.2) q.2) := by
  obtain ⟨P, n, ok, hn, k2, sh, tp, rf, ve, vlt, h1, hl⟩ := look h.1
  unfold mX8_apart
  refine p_if (fun _ => p_ret h.2) (fun _ => p_if (fun _ => p_ret h.2) (fun _ => p_gF (ji := 1) rfl (fun _ _ => p_gF (ji := 3) rfl (fun _ _ => p_aG (fun _ _ => p_if (fun _ => p_ret h.2) (fun _ => ?_))))))
  refine p_gFc (ji := 0) rfl h1.1 (p_gF (ji := 1) rfl (fun _ _ => p_gF (ji := 2) rfl (fun _ _ => p_aG (fun k _ => p_gK (p_call (P := fun q => CB (shp q.2) q.2) ?_ (fun v m y => p_ret y))))))
  unfold mX4_fewestApart
  refine p_gK (p_call (q_canTell k2 sh) (fun v m y => ?_))
  obtain ⟨y1, y2⟩ := y
  replace y1 : m = M := y1
  subst y1
  rcases y2 with ⟨_, e⟩ | ⟨n12, e⟩
  · exact p_it1 e (p_ret h.2)
  replace e : v = 1 := e
  refine p_it0 (show ¬ v = 0 by omega) (p_gFc (ji := 2) rfl k2.c2_2 (p_gFc (ji := 0) rfl k2.c2_0 (p_gFc (ji := 0) rfl k2.c3_0 (p_gFc (ji := 0) rfl k2.c2_0 (p_gF (ji := 1) rfl (fun w _ => p_gK (p_call (P := fun q => CB (shp q.2) q.2) ?_ (fun v m y => p_ret y))))))))
  unfold mX1_fewestApart
  refine p_gK (p_call (q_layOut ok hn (by omega) k2 sh h.2) (fun _ m1 y => ?_))
  obtain ⟨_, _, fl, cb1⟩ := y
  replace fl : FLO m m1 := fl
  replace cb1 : CB (shp m) m1 := cb1
  refine p_mono (fa_same FU _ 0) (fun q z => ?_)
  rw [z, fl.shp]
  exact cb1
theorem cb_nthForm {k : Int} (r1 : (-2147483648) ≤ k ∧ k ≤ 2147483647) (h : JB M) : pw (mX4_nthForm 2 k M) (fun q => CB (shp q.2) q.2) := by
  obtain ⟨P, n, ok, hn, k2, sh, tp, rf, ve, vlt, h1, hl⟩ := look h.1
  unfold mX4_nthForm
  refine p_gK (p_call hl (fun v m y => ?_))
  rcases y with ⟨a, b, c⟩ | ⟨a, b, c⟩
  · replace c : m = M := c
    subst c
    exact p_it1 b (p_ret h.2)
  replace b : v = 1 := b
  have lk : LK (shp M) P (vwb M) (knR (shp M) M) M m := c
  have fl := lk.2.2.2.2
  refine p_it0 (show ¬ v = 0 by omega) (p_gK (p_call (q_picked ok hn a k2 sh h.2 lk) (fun _ m2 y => ?_)))
  obtain ⟨w36, cb2, g2⟩ := y
  replace w36 : WS 36 (n : Int) (fun w => WDw (shp M) P (vwb M) (knR (shp M) M) w && isF (shp M) n w) m2 := w36
  replace cb2 : CB (shp M) m2 := cb2
  replace g2 : ∀ c j : Int, ¬ (24 ≤ c ∧ c ≤ 30) → ¬ c = 37 → ¬ (c = 36 ∧ (j = 1 ∨ j = 2)) → mG m2 c j = mG m c j := g2
  have c27 : mG m2 2 7 = 36 := (g2 2 7 (by decide) (by decide) (by decide)).trans (k2.fl fl).c2_7
  refine p_gFc (ji := 7) rfl c27 (p_gK (p_call (q_nth (l := 36) r1 ⟨by omega, by omega⟩ w36) (fun r m3 y => p_ret ?_)))
  obtain ⟨y1, _⟩ := y
  replace y1 : m3 = m2 := y1
  subst y1
  have es : shp m3 = shp M := shp_go (fun b j x => (g2 b j (by omega) (by omega) (by omega)).trans (fl b j (nq_0 (by omega))))
  show CB (shp m3) m3
  rw [es]
  exact cb2
theorem cb_form {k : Int} (r1 : (-2147483648) ≤ k ∧ k ≤ 2147483647) (h : JB M) : pw (mX8_form 1 k M) (fun q => CB (shp q.2) q.2) := by
  have iM := h.1.1.1.1
  unfold mX8_form
  refine p_gFc (ji := 0) rfl (rd_VS_0 iM (a := 1) rfl) (p_gK (p_call (p_and (cb_nthForm r1 h) (p_wp (s_X4_nthForm r1 iM))) (fun v m y => ?_)))
  obtain ⟨cb, i1, _⟩ := y
  replace cb : CB (shp m) m := cb
  replace i1 : I (mN M) m := i1
  exact p_gK (p_call (cb_becomes i1 cb) (fun v m y => p_zR (fun _ => p_ret y)))
end
end
