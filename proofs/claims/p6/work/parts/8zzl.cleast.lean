/-! ===== the class's least ones ===== -/
/-- all ways are laid out -/
def LAID (S : SH) (n W : Nat) (A : Nat → Nat) (M : Mem) : Prop := (mG M 24 5 = (n : Int) ∧ mG M 24 4 = (W : Int) ∧ W ≤ 216) ∧ (∀ y : Nat, y < W → A y < 216 ∧ isA S (A y) = true ∧ ∀ p : Nat, p < n → mG M 26 ((12 * y + p : Nat) : Int) = ((2 ^ (n - 1 - (tpp S (frO (A y)) (p : Int)).toNat) : Nat) : Int)) ∧ ∀ a : Nat, a < 216 → isA S a = true → ∃ y, y < W ∧ ∀ w, imN S n (frO a) w = imN S n (frO (A y)) w
section
variable {S : SH} {M : Mem} {n W : Nat} {A : Nat → Nat}
theorem LAID.kp {M' : Mem} (h : LAID S n W A M) (g : ∀ c j : Int, (c = 24 ∧ (j = 4 ∨ j = 5)) ∨ c = 26 → mG M' c j = mG M c j) : LAID S n W A M' :=
  ⟨⟨(g 24 5 (by decide)).trans h.1.1, (g 24 4 (by decide)).trans h.1.2.1, h.1.2.2⟩, fun y hy => ⟨(h.2.1 y hy).1, (h.2.1 y hy).2.1, fun p hp => (g 26 _ (Or.inr rfl)).trans ((h.2.1 y hy).2.2 p hp)⟩, h.2.2⟩
theorem LAID.im (h : LAID S n W A M) (ok : S.ok) (hn : S.nf = (n : Int)) {w x : Nat} (hw : w < 2 ^ n) : IM S n w x ↔ ∃ y, y < W ∧ x = imN S n (frO (A y)) w := by
  constructor
  · intro k
    obtain ⟨a, a1, a2, a3⟩ := im_fr ok hn k
    obtain ⟨y, y1, y2⟩ := h.2.2 a a1 a2
    exact ⟨y, y1, a3.trans (y2 w)⟩
  · rintro ⟨y, y1, y2⟩
    obtain ⟨b1, b2, _⟩ := h.2.1 y y1
    rw [y2]
    exact IMf.im (frO_ren ok b1 b2) hw (imN_f ok hn (frO_ren ok b1 b2) w)
theorem q_renumbered {y w : Nat} (ok : S.ok) (hn : S.nf = (n : Int)) (n12 : n ≤ 12) (k2 : K2 M) (h : LAID S n W A M) (hy : y < W) (hw : w < 2 ^ n) : pw (mX1_renumbered 24 (y : Int) (w : Int) M) (fun q => q.2 = M ∧ q.1 = ((imN S n (frO (A y)) w : Nat) : Int)) := by
  obtain ⟨⟨h5, h4, w216⟩, hm, _⟩ := h
  obtain ⟨a1, a2, a3⟩ := hm y hy
  have p12 : 2 ^ n ≤ 2 ^ 12 := Nat.pow_le_pow_right (n := 2) (by decide) n12
  obtain ⟨g, hg⟩ : ∃ g, g = gim S n (frO (A y)) w := ⟨_, rfl⟩
  have gl : ∀ p, p < n → g p < 2 ^ n := fun p hp => by
    rw [hg]
    unfold gim
    by_cases e : w.testBit (n - 1 - p) = true
    · rw [if_pos e]
      exact Nat.pow_lt_pow_right (by decide) (by omega)
    · rw [if_neg e]
      exact Nat.two_pow_pos n
  have lt : ∀ k, k ≤ n → orN g k < 2 ^ n := by
    intro k
    induction k with
    | zero => intro _; exact Nat.two_pow_pos n
    | succ k ih => intro hk; exact Nat.or_lt_two_pow (ih (by omega)) (gl k (by omega))
  have loop : ∀ (fu p : Nat), p ≤ n → pw (mX1_renumbered_5 fu 24 (y : Int) (w : Int) ((orN g p : Nat) : Int) (p : Int) M) (fun q => q.2 = M ∧ q.1 = ((orN g n : Nat) : Int)) := by
    intro fu
    induction fu with
    | zero => intro p _; exact p_none
    | succ fu ih =>
      intro p hp
      show pw (bX1_renumbered_5 (mX1_renumbered_5 fu) 24 (y : Int) (w : Int) _ (p : Int) M) _
      unfold bX1_renumbered_5
      refine p_gFc (ji := 5) rfl h5 (p_if (fun c => p_ret ⟨rfl, ?_⟩) (fun c => ?_))
      · show ((orN g p : Nat) : Int) = _
        rw [show p = n by omega]
      have p1 : p < n := by omega
      have lp := lt p hp
      have gp := gl p p1
      have nxt : ∀ v : Nat, v = orN g p ||| g p → pw (mX1_renumbered_45 (mX1_renumbered_5 fu) 24 (y : Int) (w : Int) (v : Int) (p : Int) M) (fun q => q.2 = M ∧ q.1 = ((orN g n : Nat) : Int)) := fun v hv => by
        unfold mX1_renumbered_45
        rw [wI_s (p := p) (by omega), hv]
        exact ih (p + 1) (by omega)
      refine p_gFc (ji := 5) rfl h5 ?_
      rw [wI_id (x := (n : Int) - 1) (by omega) (by omega), wI_id (x := (n : Int) - 1 - (p : Int)) (by omega) (by omega), show (n : Int) - 1 - (p : Int) = ((n - 1 - p : Nat) : Int) by omega]
      refine p_if (fun c2 => nxt _ ?_) (fun c2 => ?_)
      · have tb := (ibit (x := w) (k := n - 1 - p) (by omega) (by omega)).mp c2
        rw [hg]
        unfold gim
        rw [tb, if_neg (by decide), Nat.or_zero]
      · have tb : w.testBit (n - 1 - p) = true := by
          cases e : w.testBit (n - 1 - p) with
          | true => rfl
          | false => exact absurd ((ibit (x := w) (k := n - 1 - p) (by omega) (by omega)).mpr e) c2
        have eg : g p = 2 ^ (n - 1 - (tpp S (frO (A y)) (p : Int)).toNat) := by
          rw [hg]
          unfold gim
          rw [if_pos tb]
        rw [wI_id (x := (y : Int) * 12) (by omega) (by omega), wI_id (x := (y : Int) * 12 + (p : Int)) (by omega) (by omega), show (y : Int) * 12 + (p : Int) = ((12 * y + p : Nat) : Int) by omega]
        refine p_gFc (ji := 1) rfl k2.c24_1 (p_aGc (a3 p p1) ?_)
        rw [← eg, ior_nn (by omega) (by omega)]
        exact nxt _ rfl
  unfold mX1_renumbered
  have := loop FU 0 (Nat.zero_le _)
  rw [hg] at this
  exact this
/-- the least of all that a world is by other numbers -/
theorem q_least10 {w : Nat} (ok : S.ok) (hn : S.nf = (n : Int)) (n12 : n ≤ 12) (k2 : K2 M) (h : LAID S n W A M) (hw : w < 2 ^ n) : pw (mX1_leastOf_10 FU 24 (w : Int) (w : Int) 0 M) (fun q => q.2 = M ∧ ∃ m : Nat, q.1 = (m : Int) ∧ ISL S n w m) := by
  have loop : ∀ (fu y x : Nat), y ≤ W → IM S n w x → (∀ z, z < y → x ≤ imN S n (frO (A z)) w) → pw (mX1_leastOf_10 fu 24 (w : Int) (x : Int) (y : Int) M) (fun q => q.2 = M ∧ ∃ m : Nat, q.1 = (m : Int) ∧ ISL S n w m) := by
    intro fu
    induction fu with
    | zero => intro y x _ _ _; exact p_none
    | succ fu ih =>
      intro y x hy im hz
      show pw (bX1_leastOf_10 (mX1_leastOf_10 fu) 24 (w : Int) (x : Int) (y : Int) M) _
      have w216 := h.1.2.2
      unfold bX1_leastOf_10
      refine p_gFc (ji := 4) rfl h.1.2.1 (p_if (fun c => p_ret ⟨rfl, x, rfl, im, fun u hu => ?_⟩) (fun c => ?_))
      · obtain ⟨z, z1, z2⟩ := (h.im ok hn hw).mp hu
        rw [z2]
        exact hz z (by omega)
      have y1 : y < W := by omega
      refine p_gK (p_call (q_renumbered ok hn n12 k2 h y1 hw) (fun v m2 yy => ?_))
      obtain ⟨e1, e2⟩ := yy
      replace e1 : m2 = M := e1
      replace e2 : v = ((imN S n (frO (A y)) w : Nat) : Int) := e2
      subst e1; subst e2
      refine p_some (fun b hb => ?_)
      rw [wI_s (p := y) (by omega)]
      by_cases c2 : imN S n (frO (A y)) w < x
      · have eb : b = ((imN S n (frO (A y)) w : Nat) : Int) := by
          rw [hb]
          exact if_pos (by show ((imN S n (frO (A y)) w : Nat) : Int) < (x : Int); omega)
        rw [eb]
        refine ih (y + 1) _ (by omega) ((h.im ok hn hw).mpr ⟨y, y1, rfl⟩) (fun z hz2 => ?_)
        by_cases e : z = y
        · rw [e]; exact Nat.le_refl _
        · have := hz z (by omega)
          omega
      · have eb : b = (x : Int) := by
          rw [hb]
          exact if_neg (by show ¬ ((imN S n (frO (A y)) w : Nat) : Int) < (x : Int); omega)
        rw [eb]
        refine ih (y + 1) x (by omega) im (fun z hz2 => ?_)
        by_cases e : z = y
        · rw [e]; omega
        · exact hz z (by omega)
  exact loop FU 0 w (Nat.zero_le _) (IM.rf hw) (fun z hz => absurd hz (by omega))
/-- what has been seen -/
def SEEN (S : SH) (n w u : Nat) : Prop := ∃ v, v < w ∧ isF S n v = true ∧ IM S n v u
theorem seen_f (ok : S.ok) {w : Nat} (hw : w < 2 ^ n) : SEEN S n w w ↔ isF S n w = false := by
  rw [isF_f]
  constructor
  · rintro ⟨v, v1, v2, v3⟩ h
    have := h.2 v (v3.symm ok)
    omega
  · intro h
    obtain ⟨m, hm⟩ := ISL.ex (S := S) hw
    have le := hm.2 w (IM.rf hw)
    have ne : ¬ m = w := fun e => h (by rw [e] at hm; exact hm)
    exact ⟨m, by omega, isF_t.mpr (hm.self ok), hm.1.symm ok⟩
theorem seen_s {w u : Nat} : SEEN S n (w + 1) u ↔ SEEN S n w u ∨ (isF S n w = true ∧ IM S n w u) := by
  constructor
  · rintro ⟨v, v1, v2, v3⟩
    by_cases e : v = w
    · rw [e] at v2 v3; exact Or.inr ⟨v2, v3⟩
    · exact Or.inl ⟨v, by omega, v2, v3⟩
  · rintro (⟨v, v1, v2, v3⟩ | ⟨h1, h2⟩)
    · exact ⟨v, by omega, v2, v3⟩
    · exact ⟨w, by omega, h1, h2⟩
/-- the set at l is P -/
def WP (l : Int) (n : Nat) (P : Nat → Prop) (M : Mem) : Prop := ∃ f : Nat → Bool, WS l (n : Int) f M ∧ ∀ u, u < 2 ^ n → (f u = true ↔ P u)
theorem WP.ext {l : Int} {P Q : Nat → Prop} (h : WP l n P M) (e : ∀ u, u < 2 ^ n → (P u ↔ Q u)) : WP l n Q M := by
  obtain ⟨f, f1, f2⟩ := h
  exact ⟨f, f1, fun u hu => (f2 u hu).trans (e u hu)⟩
theorem WP.kp {l : Int} {P : Nat → Prop} {M' : Mem} (h : WP l n P M) (g : ∀ c j : Int, c = l ∨ c = l + 1 → mG M' c j = mG M c j) : WP l n P M' := by
  obtain ⟨f, f1, f2⟩ := h
  exact ⟨f, f1.kp (fun j => g l j (Or.inl rfl)) (fun j => g (l + 1) j (Or.inr rfl)), f2⟩
theorem q_addP {l : Int} {P : Nat → Prop} {w : Nat} (n12 : n ≤ 12) (h : WP l n P M) (wl : w < 2 ^ n) : pw (mX7_add l (w : Int) M) (fun q => WP l n (fun u => P u ∨ u = w) q.2 ∧ FX (l + 1) M q.2) := by
  obtain ⟨f, f1, f2⟩ := h
  refine p_mono (q_add (w := w) ⟨by omega, by omega⟩ f1 (by rw [Int.toNat_natCast]; exact wl)) (fun q y => ⟨⟨_, y.1, fun u hu => ?_⟩, y.2⟩)
  rw [Bool.or_eq_true, decide_eq_true_iff, f2 u hu]
theorem q_mark (ok : S.ok) (hn : S.nf = (n : Int)) (n12 : n ≤ 12) (k2 : K2 M) (h : LAID S n W A M) : pw (mX1_markLeastOnes 24 M) (fun q => WP 27 n (fun u => isF S n u = true) q.2 ∧ ∀ c j : Int, ¬ c = 28 → ¬ c = 30 → ¬ (c = 27 ∧ (j = 1 ∨ j = 2)) → ¬ (c = 29 ∧ (j = 1 ∨ j = 2)) → mG q.2 c j = mG M c j) := by
  have p12 : 2 ^ n ≤ 2 ^ 12 := Nat.pow_le_pow_right (n := 2) (by decide) n12
  have w216 := h.1.2.2
  obtain ⟨FR, hFR⟩ : ∃ FR : Mem → Prop, FR = fun m => ∀ c j : Int, ¬ c = 28 → ¬ c = 30 → ¬ (c = 27 ∧ (j = 1 ∨ j = 2)) → ¬ (c = 29 ∧ (j = 1 ∨ j = 2)) → mG m c j = mG M c j := ⟨_, rfl⟩
  obtain ⟨Q, hQ⟩ : ∃ Q : Int × Mem → Prop, Q = fun q => WP 27 n (fun u => isF S n u = true) q.2 ∧ FR q.2 := ⟨_, rfl⟩
  have kf : ∀ m, FR m → K2 m ∧ LAID S n W A m := fun m f => by
    rw [hFR] at f
    refine ⟨k2.kp (fun x hx => f _ _ (by have c := cst_out x hx; omega) (by have c := cst_out x hx; omega) (by have c := cst_out x hx; omega) (by have c := cst_out x hx; omega)), h.kp (fun c j hc => f c j (by omega) (by omega) (by omega) (by omega))⟩
  have main : pw (mX1_markLeastOnes 24 M) Q := by
    have l24 : ∀ (fu w : Nat) (m : Mem), w ≤ 2 ^ n → FR m → WP 27 n (fun u => u < w ∧ isF S n u = true) m → WP 29 n (SEEN S n w) m → pw (mX1_markLeastOnes_24 fu 24 (w : Int) m) Q := by
      intro fu
      induction fu with
      | zero => intro w m _ _ _ _; exact p_none
      | succ fu ih =>
        intro w m hw fr p1 p2
        show pw (bX1_markLeastOnes_24 (mX1_markLeastOnes_24 fu) 24 (w : Int) m) Q
        obtain ⟨km, lm⟩ := kf m fr
        obtain ⟨f2, s1, s2⟩ := id p2
        unfold bX1_markLeastOnes_24
        refine p_gFc (ji := 3) rfl km.c24_3 (p_gK (p_call (q_most (l := 29) ⟨by omega, by omega⟩ s1) (fun v m2 y => ?_)))
        obtain ⟨y1, y2⟩ := y
        replace y1 : m2 = m := y1
        replace y2 : v = ((2 ^ (n : Int).toNat : Nat) : Int) := y2
        rw [Int.toNat_natCast] at y2
        subst y1; subst y2
        refine p_if (fun c => p_ret ?_) (fun c => ?_)
        · rw [hQ]
          replace c : ((2 ^ n : Nat) : Int) ≤ (w : Int) := c
          exact ⟨p1.ext (fun u hu => ⟨fun z => z.2, fun z => ⟨by omega, z⟩⟩), fr⟩
        replace c : ¬ ((2 ^ n : Nat) : Int) ≤ (w : Int) := c
        have w1 : w < 2 ^ n := by omega
        refine p_gFc (ji := 3) rfl km.c24_3 (p_gK (p_call (q_has (l := 29) (w := w) ⟨by omega, by omega⟩ s1) (fun v m3 y => ?_)))
        obtain ⟨y1, y2⟩ := y
        replace y1 : m3 = m2 := y1
        replace y2 : v = b2i (decide (w < 2 ^ (n : Int).toNat) && f2 w) := y2
        rw [Int.toNat_natCast, decide_eq_true w1, Bool.true_and] at y2
        subst y1
        refine p_if (fun c2 => ?_) (fun c2 => ?_)
        · have nf := b2i_0.mp (y2.symm.trans c2)
          have hF : isF S n w = true := by
            cases e : isF S n w with
            | true => rfl
            | false =>
              have := (s2 w w1).mpr ((seen_f ok w1).mpr e)
              rw [nf] at this
              cases this
          refine p_gFc (ji := 2) rfl km.c24_2 (p_gK (p_call (q_addP (l := 27) n12 p1 w1) (fun _ m4 y => ?_)))
          obtain ⟨z1, z2⟩ := y
          replace z1 : WP 27 n (fun u => (u < w ∧ isF S n u = true) ∨ u = w) m4 := z1
          replace z2 : FX 28 m3 m4 := z2
          have fr4 : FR m4 := by
            rw [hFR] at fr ⊢
            exact fun c j a b d e => (z2 c j a).trans (fr c j a b d e)
          have q1 : WP 27 n (fun u => u < w + 1 ∧ isF S n u = true) m4 := z1.ext (fun u hu => by
            constructor
            · rintro (⟨a, b⟩ | e)
              · exact ⟨by omega, b⟩
              · rw [e]; exact ⟨by omega, hF⟩
            · rintro ⟨a, b⟩
              by_cases e : u = w
              · exact Or.inr e
              · exact Or.inl ⟨by omega, b⟩)
          have q2 : WP 29 n (SEEN S n w) m4 := p2.kp (fun c j hc => z2 c j (by omega))
          have l56 : ∀ (fu2 y : Nat) (m5 : Mem), y ≤ W → FR m5 → WP 27 n (fun u => u < w + 1 ∧ isF S n u = true) m5 → WP 29 n (fun u => SEEN S n w u ∨ ∃ z, z < y ∧ u = imN S n (frO (A z)) w) m5 → pw (mX1_markLeastOnes_56 (mX1_markLeastOnes_24 fu) fu2 24 (w : Int) (y : Int) m5) Q := by
            intro fu2
            induction fu2 with
            | zero => intro y m5 _ _ _ _; exact p_none
            | succ fu2 ih2 =>
              intro y m5 hy fr5 r1 r2
              show pw (bX1_markLeastOnes_56 (mX1_markLeastOnes_24 fu) (mX1_markLeastOnes_56 (mX1_markLeastOnes_24 fu) fu2) 24 (w : Int) (y : Int) m5) Q
              obtain ⟨k5, l5⟩ := kf m5 fr5
              unfold bX1_markLeastOnes_56
              refine p_gFc (ji := 4) rfl l5.1.2.1 (p_if (fun c3 => ?_) (fun c3 => ?_))
              · unfold mX1_markLeastOnes_83
                rw [wI_s (p := w) (by omega)]
                refine ih (w + 1) m5 (by omega) fr5 r1 (r2.ext (fun u hu => ?_))
                rw [seen_s, l5.im ok hn w1]
                constructor
                · rintro (a | ⟨z, z1, z2⟩)
                  · exact Or.inl a
                  · exact Or.inr ⟨hF, z, by omega, z2⟩
                · rintro (a | ⟨_, z, z1, z2⟩)
                  · exact Or.inl a
                  · exact Or.inr ⟨z, by omega, z2⟩
              · have y1 : y < W := by omega
                refine p_gFc (ji := 3) rfl k5.c24_3 (p_gK (p_call (q_renumbered ok hn n12 k5 l5 y1 w1) (fun v m6 yy => ?_)))
                obtain ⟨e1, e2⟩ := yy
                replace e1 : m6 = m5 := e1
                replace e2 : v = ((imN S n (frO (A y)) w : Nat) : Int) := e2
                subst e1; subst e2
                have xl : imN S n (frO (A y)) w < 2 ^ n := ((l5.im ok hn w1).mpr ⟨y, y1, rfl⟩).2.1
                refine p_gK (p_call (q_addP (l := 29) n12 r2 xl) (fun _ m7 yy => ?_))
                obtain ⟨x1, x2⟩ := yy
                replace x2 : FX 30 m6 m7 := x2
                rw [wI_s (p := y) (by omega)]
                refine ih2 (y + 1) m7 (by omega) ?_ (r1.kp (fun c j hc => x2 c j (by omega))) (WP.ext x1 (fun u hu => ?_))
                · rw [hFR] at fr5 ⊢
                  exact fun c j a b d e => (x2 c j b).trans (fr5 c j a b d e)
                · constructor
                  · rintro ((a | ⟨z, z1, z2⟩) | e)
                    · exact Or.inl a
                    · exact Or.inr ⟨z, by omega, z2⟩
                    · exact Or.inr ⟨y, by omega, e⟩
                  · rintro (a | ⟨z, z1, z2⟩)
                    · exact Or.inl (Or.inl a)
                    · by_cases e : z = y
                      · rw [e] at z2; exact Or.inr z2
                      · exact Or.inl (Or.inr ⟨z, by omega, z2⟩)
          exact l56 FU 0 m4 (Nat.zero_le _) fr4 q1 (q2.ext (fun u hu => ⟨fun a => Or.inl a, fun a => by
            rcases a with a | ⟨z, z1, _⟩
            · exact a
            · omega⟩))
        · have t2 : f2 w = true := by
            cases e : f2 w with
            | true => rfl
            | false => rw [e] at y2; exact absurd y2 c2
          have hF := (seen_f ok w1).mp ((s2 w w1).mp t2)
          unfold mX1_markLeastOnes_83
          rw [wI_s (p := w) (by omega)]
          refine ih (w + 1) m3 (by omega) fr (p1.ext (fun u hu => ?_)) (p2.ext (fun u hu => ?_))
          · constructor
            · exact fun z => ⟨by omega, z.2⟩
            · rintro ⟨a, b⟩
              refine ⟨?_, b⟩
              by_cases e : u = w
              · rw [e, hF] at b; cases b
              · omega
          · rw [seen_s, hF]
            exact ⟨fun a => Or.inl a, fun a => a.resolve_right (fun z => absurd z.1 (by decide))⟩
    unfold mX1_markLeastOnes
    refine p_gFc (ji := 2) rfl k2.c24_2 (p_gFc (ji := 5) rfl h.1.1 (p_gK (p_call (q_takeNone (l := 27) (k := (n : Int)) ⟨by omega, by omega⟩ k2.c27_0) (fun _ m1 y => ?_))))
    obtain ⟨y1, y2⟩ := y
    replace y1 : WS 27 (n : Int) (fun _ => false) m1 := y1
    replace y2 : FW 27 M m1 := y2
    have g1 : ∀ c j : Int, ¬ c = 28 → ¬ (c = 27 ∧ (j = 1 ∨ j = 2)) → mG m1 c j = mG M c j := fun c j a b => y2 c j a b
    have k1 := k2.fw y2 (by decide)
    refine p_gFc (ji := 3) rfl k1.c24_3 (p_gFc (ji := 5) rfl ((g1 24 5 (by decide) (by decide)).trans h.1.1) (p_gK (p_call (q_takeNone (l := 29) (k := (n : Int)) ⟨by omega, by omega⟩ k1.c29_0) (fun _ m2 y => ?_))))
    obtain ⟨y3, y4⟩ := y
    replace y3 : WS 29 (n : Int) (fun _ => false) m2 := y3
    replace y4 : FW 29 m1 m2 := y4
    have g2 : ∀ c j : Int, ¬ c = 30 → ¬ (c = 29 ∧ (j = 1 ∨ j = 2)) → mG m2 c j = mG m1 c j := fun c j a b => y4 c j a b
    refine l24 FU 0 m2 (Nat.zero_le _) ?_ ⟨_, y1.kp (fun j => g2 27 j (by decide) (by omega)) (fun j => g2 (27 + 1) j (by decide) (by omega)), fun u hu => ⟨(fun z => by cases z), fun z => absurd z.1 (by omega)⟩⟩ ⟨_, y3, fun u hu => ⟨(fun z => by cases z), fun z => by obtain ⟨v, v1, _⟩ := z; omega⟩⟩
    rw [hFR]
    exact fun c j a b d e => (g2 c j b e).trans (g1 c j a d)
  rw [hQ, hFR] at main
  exact main
end
