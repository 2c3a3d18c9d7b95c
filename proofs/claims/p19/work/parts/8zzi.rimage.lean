section
/-! ===== the reference's least image ===== -/
section
variable {S : SH} {M : Mem} {n : Nat}
theorem v_imageOf {a w : Nat} (ok : S.ok) (hn : S.nf = (n : Int)) (n12 : n ≤ 12) (ha : a < 216) (hA : isA S a = true) (k9 : K9 M) (rs : RSH S M) (od : ORD a M) (lw : LW S (phw (n : Int) w) M) : pw (mX9_imageOf 126 M) (fun q => q.2 = M ∧ q.1 = ((imN S n (frO a) w : Nat) : Int)) := by
  have n4 := ok.2.1
  have hr := frO_ren ok ha hA
  obtain ⟨g, hg⟩ : ∃ g, g = gim S n (frO a) w := ⟨_, rfl⟩
  obtain ⟨Q, hQ⟩ : ∃ Q : Int × Mem → Prop, Q = fun q => q.2 = M ∧ q.1 = ((orN g n : Nat) : Int) := ⟨_, rfl⟩
  have main : pw (mX9_imageOf 126 M) Q := by
    have p12 : 2 ^ n ≤ 2 ^ 12 := Nat.pow_le_pow_right (n := 2) (by decide) n12
    have gl : ∀ p, p < n → g p < 2 ^ n := fun p hp => by
      rw [hg]
      unfold gim
      by_cases e : w.testBit (n - 1 - p) = true
      · rw [if_pos e]
        exact Nat.pow_lt_pow_right (by decide) (by omega)
      · rw [if_neg e]
        exact Nat.two_pow_pos n
    have lt : ∀ k, k ≤ n → orN g k < 2 ^ n := by
      intro k
      induction k with
      | zero => intro _; exact Nat.two_pow_pos n
      | succ k ih => intro hk; exact Nat.or_lt_two_pow (ih (by omega)) (gl k (by omega))
    have l9 : ∀ (fu r sr : Nat), (r : Int) ≤ S.nr → S.st r = (sr : Int) → pw (mX9_imageOf_9 fu 126 (n : Int) ((orN g sr : Nat) : Int) (r : Int) M) Q := by
      intro fu
      induction fu with
      | zero => intro r sr _ _; exact p_none
      | succ fu ih =>
        intro r sr hr2 hs
        show pw (bX9_imageOf_9 (mX9_imageOf_9 fu) 126 (n : Int) _ (r : Int) M) Q
        unfold bX9_imageOf_9
        refine p_gFc (ji := 8) rfl k9.c8 (p_aGc rs.2.1.1 (p_if (fun c => p_ret ?_) (fun c => ?_)))
        · have er : r = S.nr.toNat := by omega
          have : S.nf = S.st S.nr.toNat := rfl
          rw [← er, hs, hn] at this
          rw [hQ, show sr = n by omega]
          exact ⟨rfl, rfl⟩
        have r1 : (r : Int) < S.nr := by omega
        obtain ⟨e1, e2⟩ := rs.2.1.2 (r : Int) (by omega) r1
        obtain ⟨k1, k2⟩ := ok.2.2 (r : Int) (by omega) r1
        have z2 := zv_c ok (r := (r : Int)) (by omega) r1
        have z1 := ok.zv (k := S.k1 r) (by omega)
        have s9 := ok.st9 (r := (r : Int)) (by omega) r1
        rw [Int.toNat_natCast] at s9
        have st1 : S.st (r + 1) = S.st r + S.zv (S.k1 r) * S.zv (S.k2 r) := rfl
        have b0 := rs.2.2 r (by omega)
        have b1 := rs.2.2 (r + 1) (by omega)
        have mn := ok.mono (a := r + 1) (S.nr.toNat - (r + 1)) (by omega)
        rw [show r + 1 + (S.nr.toNat - (r + 1)) = S.nr.toNat by omega] at mn
        have nfd : S.nf = S.st S.nr.toNat := rfl
        rw [← nfd, hn] at mn
        refine p_gFc (ji := 10) rfl k9.c10 (p_aGc e2 (p_gK (p_call (v_sizeOf k9 rs.1 k2) (fun v m y => ?_))))
        obtain ⟨y1, y2⟩ := y
        replace y1 : m = M := y1
        replace y2 : v = S.zv (S.k2 r) := y2
        subst y1; subst y2
        have l34 : ∀ (fu2 k : Nat), (k : Int) ≤ S.zv (S.k1 r) * S.zv (S.k2 r) → pw (mX9_imageOf_34 (mX9_imageOf_9 fu) fu2 126 (n : Int) ((orN g (sr + k) : Nat) : Int) (r : Int) (S.zv (S.k2 r)) (k : Int) m) Q := by
          intro fu2
          induction fu2 with
          | zero => intro k _; exact p_none
          | succ fu2 ih2 =>
            intro k hk
            show pw (bX9_imageOf_34 (mX9_imageOf_9 fu) (mX9_imageOf_34 (mX9_imageOf_9 fu) fu2) 126 (n : Int) _ (r : Int) (S.zv (S.k2 r)) (k : Int) m) Q
            unfold bX9_imageOf_34
            rw [wI_s (p := r) (by omega)]
            refine p_gFc (ji := 27) rfl k9.c27 (p_aGc b1 (p_gFc (ji := 27) rfl k9.c27 (p_aGc b0 ?_)))
            rw [st1, hs, wI_id (x := (sr : Int) + S.zv (S.k1 r) * S.zv (S.k2 r) - (sr : Int)) (by omega) (by omega)]
            refine p_if (fun c2 => ?_) (fun c2 => ?_)
            · obtain ⟨z, hz⟩ := Int.eq_ofNat_of_zero_le (show 0 ≤ S.zv (S.k1 r) * S.zv (S.k2 r) by omega)
              rw [show k = z by omega]
              exact ih (r + 1) (sr + z) (by omega) (by rw [st1, hs, hz]; omega)
            have kl : (k : Int) < S.zv (S.k1 r) * S.zv (S.k2 r) := by omega
            obtain ⟨i, hi⟩ := Int.eq_ofNat_of_zero_le (show 0 ≤ (k : Int) / S.zv (S.k2 r) by
              generalize S.zv (S.k2 r) = z at *
              rcases z2 with z2 | z2 | z2 <;> subst z2 <;> omega)
            obtain ⟨j, hj⟩ := Int.eq_ofNat_of_zero_le (show 0 ≤ (k : Int) % S.zv (S.k2 r) by
              generalize S.zv (S.k2 r) = z at *
              rcases z2 with z2 | z2 | z2 <;> subst z2 <;> omega)
            have ij : (i : Int) < S.zv (S.k1 r) ∧ (j : Int) < S.zv (S.k2 r) ∧ S.zv (S.k2 r) * (i : Int) + (j : Int) = (k : Int) := by
              generalize S.zv (S.k2 r) = z at *
              rcases z2 with z2 | z2 | z2 <;> subst z2 <;> refine ⟨by omega, by omega, by omega⟩
            have cj : S.col r (j : Int) = (j : Int) := by
              unfold SH.col
              by_cases e : S.k2 r = -1
              · have z : S.zv (S.k2 r) = 1 := by unfold SH.zv; rw [if_pos e]
                rw [z] at ij
                rw [if_pos e]; omega
              · rw [if_neg e]
            have inn : S.inr r (i : Int) (j : Int) := ⟨⟨by omega, ij.1⟩, by rw [cj]; exact ⟨by omega, ij.2.1⟩⟩
            have ea : S.at' r (i : Int) (j : Int) = ((sr + k : Nat) : Int) := by
              unfold SH.at'
              rw [cj, Int.toNat_natCast, hs]
              omega
            have tp := tpp_at (f := frO a) ok (by omega) r1 inn
            rw [ea] at tp
            obtain ⟨c1, _, _⟩ := ren_in ok hr (by omega) r1 inn
            have pos := ok.pos (by omega) r1 c1
            rw [Int.toNat_natCast] at pos
            have hfi : 0 ≤ frO a (S.k1 r) (i : Int) ∧ frO a (S.k1 r) (i : Int) < S.zv (S.k1 r) := c1.1
            have eto : S.at' r (frO a (S.k1 r) i) (frO a (S.k2 r) j) = (sr : Int) + S.zv (S.k2 r) * frO a (S.k1 r) i + (if S.k2 r = -1 then 0 else frO a (S.k2 r) j) := by
              unfold SH.at' SH.col
              rw [Int.toNat_natCast, hs]
            have mb := mul_b (x := S.zv (S.k2 r)) (y := frO a (S.k1 r) i) (a := 3) (b := 3) (by omega) (by omega) (by omega) (by omega)
            have r2 : (if S.k2 r = -1 then (0 : Int) else frO a (S.k2 r) j) ≤ 3 ∧ 0 ≤ (if S.k2 r = -1 then (0 : Int) else frO a (S.k2 r) j) := by
              have h2 := c1.2
              unfold SH.col at h2
              omega
            obtain ⟨t, ht⟩ := Int.eq_ofNat_of_zero_le (show 0 ≤ S.at' r (frO a (S.k1 r) i) (frO a (S.k2 r) j) by omega)
            refine p_gFc (ji := 27) rfl k9.c27 (p_aGc (b0.trans hs) (p_gFc (ji := 9) rfl k9.c9 (p_aGc e1 (p_dQc ((idiv_e (by omega) (by omega) (by omega) (by omega)).trans hi) (p_gK (p_call (v_renamed (a := a) (i := i) ha (by omega) (by omega) k9 od) (fun v m2 y => ?_)))))))
            obtain ⟨y1, y2⟩ := y
            replace y1 : m2 = m := y1
            replace y2 : v = _ := y2
            subst y1
            rw [if_neg (by omega)] at y2
            subst y2
            refine p_gFc (ji := 10) rfl k9.c10 (p_aGc e2 (p_dMc ((irem_e (by omega) (by omega) (by omega) (by omega)).trans hj) (p_gK (p_call (v_renamed (a := a) (i := j) ha k2 (by omega) k9 od) (fun v m3 y => ?_)))))
            obtain ⟨y1, y2⟩ := y
            replace y1 : m3 = m2 := y1
            replace y2 : v = (if S.k2 r = -1 then 0 else frO a (S.k2 r) j) := y2
            subst y1; subst y2
            refine p_some (fun b95 hb => ?_)
            have eb : b95 = (t : Int) := by
              rw [hb]
              show wI (wI ((sr : Int) + wI (S.zv (S.k2 r) * frO a (S.k1 r) i)) + (if S.k2 r = -1 then 0 else frO a (S.k2 r) j)) = _
              rw [wI_id (x := S.zv (S.k2 r) * frO a (S.k1 r) i) (by omega) (by omega), wI_id (x := (sr : Int) + S.zv (S.k2 r) * frO a (S.k1 r) i) (by omega) (by omega), wI_id (by omega) (by omega)]
              omega
            subst eb
            have lwk := lw ((sr + k : Nat) : Int) (by omega) (by omega)
            refine p_gFc (ji := 28) rfl k9.c28 (p_gFc (ji := 27) rfl k9.c27 (p_aGc (b0.trans hs) ?_))
            rw [wI_id (x := (sr : Int) + (k : Int)) (by omega) (by omega), show (sr : Int) + (k : Int) = ((sr + k : Nat) : Int) by omega]
            have pb : phw (n : Int) w ((sr + k : Nat) : Int) = w.testBit (n - 1 - (sr + k)) := by
              unfold phw
              rw [show ((n : Int) - 1 - ((sr + k : Nat) : Int)).toNat = n - 1 - (sr + k) by omega]
            rw [pb] at lwk
            have ltk := lt (sr + k) (by omega)
            have nxt : ∀ v : Nat, v = g (sr + k) → pw (mX9_imageOf_127 (mX9_imageOf_9 fu) (mX9_imageOf_34 (mX9_imageOf_9 fu) fu2) 126 (n : Int) (r : Int) (S.zv (S.k2 r)) (k : Int) ((orN g (sr + k) : Nat) : Int) (v : Int) m3) Q := fun v hv => by
              have gk := gl (sr + k) (by omega)
              unfold mX9_imageOf_127
              rw [wI_s (p := k) (by omega), ior_nn (by omega) (by omega), hv, show orN g (sr + k) ||| g (sr + k) = orN g (sr + (k + 1)) from rfl]
              exact ih2 (k + 1) (by omega)
            refine p_aGc lwk (p_if (fun d => nxt 0 ?_) (fun d => ?_))
            · rw [hg]
              unfold gim
              rw [b2i_0.mp d, if_neg (by decide)]
            · have tb : w.testBit (n - 1 - (sr + k)) = true := by
                cases e : w.testBit (n - 1 - (sr + k)) with
                | true => rfl
                | false => rw [e] at d; exact absurd rfl d
              rw [wI_id (x := (n : Int) - 1) (by omega) (by omega), wI_id (x := (n : Int) - 1 - (t : Int)) (by omega) (by omega), show (n : Int) - 1 - (t : Int) = ((n - 1 - t : Nat) : Int) by omega, ishl1 (n - 1 - t) (by omega), show (2 : Int) ^ (n - 1 - t) = ((2 ^ (n - 1 - t) : Nat) : Int) by simp]
              refine nxt _ ?_
              rw [hg]
              unfold gim
              rw [if_pos tb, tp, ht, Int.toNat_natCast]
        have mb0 := mul_b (x := S.zv (S.k1 r)) (y := S.zv (S.k2 r)) (a := 3) (b := 3) (by omega) (by omega) (by omega) (by omega)
        exact l34 FU 0 (by omega)
    unfold mX9_imageOf
    refine p_gK (p_call (v_manyFacts ok k9 rs) (fun v m y => ?_))
    obtain ⟨y1, y2⟩ := y
    replace y1 : m = M := y1
    replace y2 : v = S.nf := y2
    subst y1
    rw [hn] at y2
    subst y2
    exact l9 FU 0 0 (by omega) rfl
  rw [hQ, hg] at main
  exact main
/-- renumberings are orders -/
theorem ren_fr (ok : S.ok) {σ τ : Int → Int → Int} (hr : ∀ k : Int, 0 ≤ k → k < 3 → REN (S.sz k) (σ k) (τ k)) : ∃ a, a < 216 ∧ isA S a = true ∧ ∀ k : Int, 0 ≤ k → k < 3 → ∀ i : Int, 0 ≤ i → i < S.sz k → frO a k i = σ k i := by
  have one : ∀ k : Int, 0 ≤ k → k < 3 → ∃ o, o < 6 ∧ isOb o (S.sz k).toNat = true ∧ ∀ i : Int, 0 ≤ i → i < S.sz k → pr o i = σ k i := fun k k0 k1 => by
    have z := ok.1 k k0 k1
    have e : S.sz k = (((S.sz k).toNat : Nat) : Int) := by omega
    have h := hr k k0 k1
    rw [e] at h
    obtain ⟨o, o1, o2, o3⟩ := ren_pr (by omega) (by omega) h
    exact ⟨o, o1, o2, fun i i0 i1 => o3 i i0 (by omega)⟩
  obtain ⟨a, a1, a2, a3⟩ := one 0 (by decide) (by decide)
  obtain ⟨b, b1, b2, b3⟩ := one 1 (by decide) (by decide)
  obtain ⟨c, c1, c2, c3⟩ := one 2 (by decide) (by decide)
  have q1 : (36 * a + 6 * b + c) / 36 = a := by omega
  have q2 : (36 * a + 6 * b + c) / 6 % 6 = b := by omega
  have q3 : (36 * a + 6 * b + c) % 6 = c := by omega
  refine ⟨36 * a + 6 * b + c, by omega, ?_, fun k k0 k1 i i0 i1 => ?_⟩
  · unfold isA
    rw [q1, q2, q3, a2, b2, c2]; rfl
  · unfold frO
    rw [q1, q2, q3]
    obtain e | e | e : k = 0 ∨ k = 1 ∨ k = 2 := by omega
    · subst e; rw [if_pos rfl]; exact a3 i i0 i1
    · subst e; rw [if_neg (by decide), if_pos rfl]; exact b3 i i0 i1
    · subst e; rw [if_neg (by decide), if_neg (by decide)]; exact c3 i i0 i1
/-- all that a world is by other numbers, the reference's orders make -/
theorem im_fr (ok : S.ok) (hn : S.nf = (n : Int)) {w x : Nat} (h : IM S n w x) : ∃ a, a < 216 ∧ isA S a = true ∧ x = imN S n (frO a) w := by
  obtain ⟨h0, h1, σ, τ, hr, hf⟩ := h
  obtain ⟨a, a1, a2, a3⟩ := ren_fr ok hr
  have hr' := frO_ren ok a1 a2
  refine ⟨a, a1, a2, IMf.uniq ok hn hr' (IMf.congr ok (f := σ) (fun r r0 r1 => ?_) ⟨h1, hf⟩) (imN_f ok hn hr' w)⟩
  obtain ⟨k1, k2⟩ := ok.2.2 r r0 r1
  exact ⟨fun i i0 i1 => (a3 (S.k1 r) k1.1 (by omega) i i0 i1).symm, fun z i i0 i1 => (a3 (S.k2 r) (by omega) (by omega) i i0 i1).symm⟩
theorem isA_0 (ok : S.ok) : isA S 0 = true := by
  have one : ∀ k : Int, 0 ≤ k → k < 3 → isOb 0 (S.sz k).toNat = true := fun k k0 k1 => by
    have z := ok.1 k k0 k1
    obtain e | e | e : (S.sz k).toNat = 1 ∨ (S.sz k).toNat = 2 ∨ (S.sz k).toNat = 3 := by omega
    all_goals rw [e]; decide +kernel
  show (isOb 0 (S.sz 0).toNat && isOb 0 (S.sz 1).toNat && isOb 0 (S.sz 2).toNat) = true
  rw [one 0 (by decide) (by decide), one 1 (by decide) (by decide), one 2 (by decide) (by decide)]
  rfl
theorem v_leastImage {w : Nat} (ok : S.ok) (hn : S.nf = (n : Int)) (n12 : n ≤ 12) (hw : w < 2 ^ n) (k9 : K9 M) (rs : RSH S M) (lw : LW S (phw (n : Int) w) M) : pw (mX9_leastImage 126 M) (fun q => (∀ c j : Int, ¬ c = 162 → mG q.2 c j = mG M c j) ∧ ∃ m : Nat, q.1 = (m : Int) ∧ ISL S n w m) := by
  obtain ⟨Q, hQ⟩ : ∃ Q : Int × Mem → Prop, Q = fun q => (∀ c j : Int, ¬ c = 162 → mG q.2 c j = mG M c j) ∧ ∃ m : Nat, q.1 = (m : Int) ∧ ISL S n w m := ⟨_, rfl⟩
  rw [← hQ]
  have p12 : 2 ^ n ≤ 2 ^ 12 := Nat.pow_le_pow_right (n := 2) (by decide) n12
  have loop : ∀ (fu a : Nat) (l : Int) (m : Mem), a ≤ 216 → (∀ c j : Int, ¬ c = 162 → mG m c j = mG M c j) → ((l = -1 ∧ a = 0) ∨ ∃ x : Nat, l = (x : Int) ∧ IM S n w x ∧ ∀ b, b < a → isA S b = true → x ≤ imN S n (frO b) w) → pw (mX9_leastImage_4 fu 126 l (a : Int) m) Q := by
    intro fu
    induction fu with
    | zero => intro a l m _ _ _; exact p_none
    | succ fu ih =>
      intro a l m ha g hl
      show pw (bX9_leastImage_4 (mX9_leastImage_4 fu) 126 l (a : Int) m) Q
      unfold bX9_leastImage_4
      refine p_if (fun c => p_ret ?_) (fun c => ?_)
      · rw [hQ]
        rcases hl with ⟨_, e⟩ | ⟨x, e, h1, h2⟩
        · omega
        · refine ⟨g, x, e, h1, fun y hy => ?_⟩
          obtain ⟨b, b1, b2, b3⟩ := im_fr ok hn hy
          rw [b3]
          exact h2 b (by omega) b2
      have a1 : a < 216 := by omega
      have km : K9 m := k9.kp (fun j _ => g 126 j (by decide))
      have rm : RSH S m := rs.kp (fun c j hc => g c j (by omega))
      refine p_gK (p_call (v_takeOrders ok a1 km rm) (fun v m2 y => ?_))
      obtain ⟨y1, y2, y3⟩ := y
      replace y1 : ORD a m2 := y1
      replace y2 : ∀ c j : Int, ¬ c = 162 → mG m2 c j = mG m c j := y2
      replace y3 : v = b2i (isA S a) := y3
      have g2 : ∀ c j : Int, ¬ c = 162 → mG m2 c j = mG M c j := fun c j x => (y2 c j x).trans (g c j x)
      have go : ∀ (l' : Int) (m3 : Mem), m3 = m2 → (∃ x : Nat, l' = (x : Int) ∧ IM S n w x ∧ ∀ b, b < a + 1 → isA S b = true → x ≤ imN S n (frO b) w) → pw (mX9_leastImage_40 (mX9_leastImage_4 fu) 126 l' (a : Int) m3) Q := fun l' m3 e h => by
        unfold mX9_leastImage_40
        rw [wI_s (p := a) (by omega), e]
        exact ih (a + 1) l' m2 (by omega) g2 (Or.inr h)
      refine p_if (fun c2 => ?_) (fun c2 => ?_)
      · have nA := b2i_0.mp (y3.symm.trans c2)
        rcases hl with ⟨_, e⟩ | ⟨x, e, h1, h2⟩
        · rw [e, isA_0 ok] at nA; cases nA
        · refine go l m2 rfl ⟨x, e, h1, fun b hb hb2 => ?_⟩
          by_cases z : b = a
          · rw [z, nA] at hb2; cases hb2
          · exact h2 b (by omega) hb2
      have hA : isA S a = true := by
        cases e : isA S a with
        | true => rfl
        | false => rw [e] at y3; exact absurd y3 c2
      have k2 : K9 m2 := k9.kp (fun j _ => g2 126 j (by decide))
      have im : IM S n w (imN S n (frO a) w) := IMf.im (frO_ren ok a1 hA) hw (imN_f ok hn (frO_ren ok a1 hA) w)
      refine p_gK (p_call (v_imageOf ok hn n12 a1 hA k2 (rs.kp (fun c j hc => g2 c j (by omega))) y1 (fun f f0 f1 => (g2 154 f (by decide)).trans (lw f f0 f1))) (fun v m3 y => ?_))
      obtain ⟨y4, y5⟩ := y
      replace y4 : m3 = m2 := y4
      replace y5 : v = ((imN S n (frO a) w : Nat) : Int) := y5
      subst y5
      have take : (∀ x : Nat, l = (x : Int) → imN S n (frO a) w < x) → pw (mX9_leastImage_34 (mX9_leastImage_4 fu) 126 (a : Int) ((imN S n (frO a) w : Nat) : Int) m3) Q := fun h => by
        unfold mX9_leastImage_34 mX9_leastImage_39
        refine go _ m3 y4 ⟨_, rfl, im, fun b hb hb2 => ?_⟩
        by_cases z : b = a
        · rw [z]; exact Nat.le_refl _
        · rcases hl with ⟨_, e⟩ | ⟨x, e, h1, h2⟩
          · omega
          · have := h x e
            have := h2 b (by omega) hb2
            omega
      refine p_if (fun c3 => take (fun x e => by omega)) (fun c3 => p_if (fun c4 => ?_) (fun c4 => take (fun x e => by
        have c4 : ¬ l ≤ ((imN S n (frO a) w : Nat) : Int) := c4
        omega)))
      replace c4 : l ≤ ((imN S n (frO a) w : Nat) : Int) := c4
      rcases hl with ⟨e, _⟩ | ⟨x, e, h1, h2⟩
      · exact absurd e c3
      · unfold mX9_leastImage_39
        refine go l m3 y4 ⟨x, e, h1, fun b hb hb2 => ?_⟩
        by_cases z : b = a
        · rw [z]; omega
        · exact h2 b (by omega) hb2
  exact loop FU 0 (-1) M (by omega) (fun _ _ _ => rfl) (Or.inl ⟨rfl, rfl⟩)
end
end
section
/-! ===== the reference's forms ===== -/
noncomputable def isF (S : SH) (n w : Nat) : Bool := @decide (ISL S n w w) (Classical.propDecidable _)
theorem isF_t {S : SH} {n w : Nat} : isF S n w = true ↔ ISL S n w w := by
  unfold isF
  exact @decide_eq_true_iff _ (Classical.propDecidable _)
theorem isF_f {S : SH} {n w : Nat} : isF S n w = false ↔ ¬ ISL S n w w := by
  unfold isF
  exact @decide_eq_false_iff_not _ (Classical.propDecidable _)
/-- what changes while a form is looked for -/
def FIF (M M' : Mem) : Prop := ∀ c j : Int, ¬ (c = 126 ∧ j = 46) → ¬ c = 154 → ¬ c = 160 → ¬ c = 161 → ¬ c = 162 → mG M' c j = mG M c j
theorem FIF.tr {M M' M'' : Mem} (h : FIF M M') (k : FIF M' M'') : FIF M M'' := fun c j x y z w u => (k c j x y z w u).trans (h c j x y z w u)
section
variable {S : SH} {P : Nat → List Row} {M : Mem}
theorem RWd.ff {K : Int} {vw n : Nat} {F : Int → Int} {M' : Mem} (h : RWd S P K vw F n M) (k : FIF M M') : RWd S P K vw F n M' := h.go (fun c j hc => k c j (by omega) (by omega) (by omega) (by omega) (by omega))
theorem v_isForm {n w K vw : Nat} {F : Int → Int} (ok : S.ok) (hn : S.nf = (n : Int)) (n12 : n ≤ 12) (hw : w < 2 ^ n) (hF : ∀ p, F p = -1 ∨ F p = 0 ∨ F p = 1) (hK : K ≤ 8) (hv : vw < 256) (h : RWd S P (K : Int) vw F n M) : pw (mX9_isForm 126 (w : Int) M) (fun q => FIF M q.2 ∧ q.1 = b2i (WDr S P K vw F n w && isF S n w) ∧ (q.1 = 1 → LW S (phw S.nf w) q.2)) := by
  unfold mX9_isForm
  refine p_gK (p_call (v_isWorld ok hn n12 hw hF hK hv h) (fun v m y => ?_))
  obtain ⟨y1, y2, y3⟩ := y
  replace y1 : FI M m := y1
  replace y2 : v = b2i (WDr S P K vw F n w) := y2
  replace y3 : v = 1 → LW S (phw S.nf w) m := y3
  have f1 : FIF M m := fun c j x y z u _ => y1 c j x y z u
  refine p_if (fun c => p_ret ⟨f1, ?_, fun e => absurd e (by show ¬ (0 : Int) = 1; decide)⟩) (fun c => ?_)
  · show (0 : Int) = _
    rw [b2i_0.mp (y2.symm.trans c)]; rfl
  have wt : WDr S P K vw F n w = true := by
    cases e : WDr S P K vw F n w with
    | true => rfl
    | false => rw [e] at y2; exact absurd y2 c
  have lw := y3 (by rw [y2, wt]; rfl)
  have r1 := h.fi y1
  rw [hn] at lw
  refine p_gK (p_call (v_leastImage ok hn n12 hw r1.1.1 r1.1.2 lw) (fun v2 m2 y => ?_))
  obtain ⟨g, l, e, il⟩ := y
  replace g : ∀ c j : Int, ¬ c = 162 → mG m2 c j = mG m c j := g
  replace e : v2 = (l : Int) := e
  have f2 : FIF M m2 := f1.tr (fun c j _ _ _ _ u => g c j u)
  have lw2 : LW S (phw S.nf w) m2 := fun f f0 f1 => by
    rw [hn]
    exact (g 154 f (by decide)).trans (lw f f0 f1)
  refine p_if (fun c2 => p_ret ⟨f2, ?_, fun _ => lw2⟩) (fun c2 => p_ret ⟨f2, ?_, fun e => absurd e (by show ¬ (0 : Int) = 1; decide)⟩)
  · replace c2 : v2 = (w : Int) := c2
    have el : l = w := by omega
    subst el
    show (1 : Int) = _
    rw [wt, isF_t.mpr il]; rfl
  · replace c2 : ¬ v2 = (w : Int) := c2
    show (0 : Int) = _
    rw [wt, isF_f.mpr (fun h2 => c2 (by rw [e, il.uniq h2]))]; rfl
theorem v_forms {n K : Nat} (ok : S.ok) (hn : S.nf = (n : Int)) (rf : RFB S P M) (hK : mG M 138 0 = (K : Int)) : pw (mX9_forms 126 M) (fun q => (12 < n ∧ q.1 = -1) ∨ (n ≤ 12 ∧ q.1 = ((ctn (fun w => WDr S P K (tvb M) (knR S M) n w && isF S n w) (2 ^ n) : Nat) : Int))) := by
  have h8 := rf.2.2.2.1
  have K8 : K ≤ 8 := by omega
  have vl := tvb_lt hK
  have p8 : 2 ^ K ≤ 2 ^ 8 := Nat.pow_le_pow_right (n := 2) (by decide) K8
  have hF : ∀ p, knR S M p = -1 ∨ knR S M p = 0 ∨ knR S M p = 1 := fun p => knf_rg _ _ _ _ _ _
  obtain ⟨G, hG⟩ : ∃ G : Nat → Bool, G = fun w => WDr S P K (tvb M) (knR S M) n w && isF S n w := ⟨_, rfl⟩
  rw [← hG]
  unfold mX9_forms
  refine p_pF (ji := 0) rfl (fun m1 h1 => ?_)
  have g1 : ∀ c j : Int, ¬ c = 126 → mG m1 c j = mG M c j := fun c j x => st_ne h1 (fun w => x w.1)
  have k1 : K9 m1 := rf.1.kp (fun j hj => st_ne h1 (fun w => by omega))
  refine p_gK (p_call (v_can ok rf k1 (fun c j x _ _ => g1 c j x)) (fun v m2 y => ?_))
  obtain ⟨rb, y⟩ := y
  rcases y with ⟨z1, z2⟩ | ⟨z1, z2⟩
  · exact p_it1 z2 (p_ret (Or.inl ⟨by omega, rfl⟩))
  replace z2 : v = 1 := z2
  have n12 : n ≤ 12 := by omega
  have p12 : 2 ^ n ≤ 2 ^ 12 := Nat.pow_le_pow_right (n := 2) (by decide) n12
  refine p_it0 (show ¬ v = 0 by omega) (p_gK (p_call (v_prep ok hn n12 h8 rb) (fun v m3 y => ?_)))
  obtain ⟨rw', _⟩ := y
  rw [hK] at rw'
  replace rw' : RWd S P (K : Int) (tvb M) (knR S M) n m3 := rw'
  have loop : ∀ (fu w : Nat) (m : Mem), w ≤ 2 ^ n → RWd S P (K : Int) (tvb M) (knR S M) n m → pw (mX9_forms_22 fu 126 ((ctn G w : Nat) : Int) (w : Int) m) (fun q => (12 < n ∧ q.1 = -1) ∨ (n ≤ 12 ∧ q.1 = ((ctn G (2 ^ n) : Nat) : Int))) := by
    intro fu
    induction fu with
    | zero => intro w m _ _; exact p_none
    | succ fu ih =>
      intro w m hw rw'
      show pw (bX9_forms_22 (mX9_forms_22 fu) 126 _ (w : Int) m) _
      unfold bX9_forms_22
      refine p_gK (p_call (v_manyFacts ok rw'.1.1 rw'.1.2) (fun v m4 y => ?_))
      obtain ⟨y6, y7⟩ := y
      replace y6 : m4 = m := y6
      replace y7 : v = S.nf := y7
      subst y6
      rw [hn] at y7
      subst y7
      rw [ishl1 n (by omega), show (2 : Int) ^ n = ((2 ^ n : Nat) : Int) by simp]
      refine p_if (fun c => p_ret (Or.inr ⟨n12, ?_⟩)) (fun c => ?_)
      · show ((ctn G w : Nat) : Int) = _
        rw [show w = 2 ^ n by omega]
      have cl := ctn_le G w
      refine p_gK (p_call (v_isForm (w := w) ok hn n12 (by omega) hF K8 (by omega) rw') (fun v m5 y => ?_))
      obtain ⟨y8, y9, _⟩ := y
      replace y8 : FIF m4 m5 := y8
      replace y9 : v = b2i (WDr S P K (tvb M) (knR S M) n w && isF S n w) := y9
      have y9' : v = b2i (G w) := by rw [hG]; exact y9
      have go : ∀ x : Int, x = b2i (G w) → pw (mX9_forms_46 (mX9_forms_22 fu) 126 (w : Int) ((ctn G w : Nat) : Int) x m5) (fun q => (12 < n ∧ q.1 = -1) ∨ (n ≤ 12 ∧ q.1 = ((ctn G (2 ^ n) : Nat) : Int))) := fun x hx => by
        unfold mX9_forms_46
        have bb := b2i_b (G w)
        rw [wI_s (p := w) (by omega), wI_id (x := ((ctn G w : Nat) : Int) + x) (by omega) (by omega), hx, b2i_n, ← Int.natCast_add, ← ctn_s]
        exact ih (w + 1) m5 (by omega) (rw'.ff y8)
      refine p_if (fun c2 => go 0 ?_) (fun c2 => go 1 ?_)
      · replace c2 : v = 0 := c2
        omega
      · replace c2 : ¬ v = 0 := c2
        have := b2i_b (G w)
        omega
  exact loop FU 0 m3 (Nat.zero_le _) rw'
end
end
section
/-! ===== the class's orders, and where they move places ===== -/
theorem ordN_n : ∀ s : Nat, s < 4 → 0 < s → ordN.getD s 0 = ((nOr (s : Int) : Nat) : Int) := by decide +kernel
theorem nO_b (s : Int) : 1 ≤ nOr s ∧ nOr s ≤ 6 := by
  unfold nOr
  by_cases a : s = 1
  · rw [if_pos a]; decide
  · rw [if_neg a]
    by_cases b : s = 2
    · rw [if_pos b]; decide
    · rw [if_neg b]; decide
theorem cm_cm : ∀ o : Nat, o < 6 → cmO o < 6 ∧ cmO (cmO o) = o := by decide +kernel
theorem pc_l : ∀ o : Nat, o < 6 → ∀ i : Nat, i < 3 → ordL.getD (3 * o + i) 0 = pr (cmO o) (i : Int) := by decide +kernel
def ac (x0 x1 x2 : Nat) : Nat := 36 * cmO x0 + 6 * cmO x1 + cmO x2
theorem ac_d {x0 x1 x2 : Nat} (h0 : x0 < 6) (h1 : x1 < 6) (h2 : x2 < 6) : ac x0 x1 x2 < 216 ∧ ac x0 x1 x2 / 36 = cmO x0 ∧ ac x0 x1 x2 / 6 % 6 = cmO x1 ∧ ac x0 x1 x2 % 6 = cmO x2 := by
  have a := (cm_cm x0 h0).1
  have b := (cm_cm x1 h1).1
  have c := (cm_cm x2 h2).1
  unfold ac
  refine ⟨by omega, by omega, by omega, by omega⟩
theorem at_18 {o i : Nat} (ho : o < 6) (hi : i < 3) : ¬ ((3 * o + i : Nat) : Int) < 0 ∧ ¬ 18 ≤ ((3 * o + i : Nat) : Int) := by omega
/-- the class's orders at hand -/
def ORC (x0 x1 x2 : Nat) (M : Mem) : Prop := mG M 25 0 = (x0 : Int) ∧ mG M 25 1 = (x1 : Int) ∧ mG M 25 2 = (x2 : Int)
section
variable {S : SH} {M : Mem} {n : Nat}
theorem isA_ac {x0 x1 x2 : Nat} (ok : S.ok) (h0 : x0 < nOr (S.sz 0)) (h1 : x1 < nOr (S.sz 1)) (h2 : x2 < nOr (S.sz 2)) : isA S (ac x0 x1 x2) = true := by
  have b0 := nO_b (S.sz 0)
  have b1 := nO_b (S.sz 1)
  have b2 := nO_b (S.sz 2)
  obtain ⟨_, d0, d1, d2⟩ := ac_d (x0 := x0) (x1 := x1) (x2 := x2) (by omega) (by omega) (by omega)
  have one : ∀ (k : Int) (x : Nat), 0 ≤ k → k < 3 → x < nOr (S.sz k) → isOb (cmO x) (S.sz k).toNat = true := fun k x k0 k1 h => by
    have z := ok.1 k k0 k1
    have bb := nO_b (S.sz k)
    rw [(isO_n (S.sz k).toNat (by omega) (by omega) x (by omega)).2.2, show (((S.sz k).toNat : Nat) : Int) = S.sz k by omega]
    exact decide_eq_true h
  unfold isA
  rw [d0, d1, d2, one 0 x0 (by decide) (by decide) h0, one 1 x1 (by decide) (by decide) h1, one 2 x2 (by decide) (by decide) h2]
  rfl
theorem q_ordered {x0 x1 x2 i : Nat} {k : Int} (k2 : K2 M) (oc : ORC x0 x1 x2 M) (h0 : x0 < 6) (h1 : x1 < 6) (h2 : x2 < 6) (hk : 0 ≤ k ∧ k ≤ 2) (hi : i < 3) : pw (mX1_ordered 24 k (i : Int) M) (fun q => q.2 = M ∧ q.1 = frO (ac x0 x1 x2) k (i : Int)) := by
  obtain ⟨_, d0, d1, d2⟩ := ac_d h0 h1 h2
  have go : ∀ o : Nat, o < 6 → mG M 25 k = (o : Int) → frO (ac x0 x1 x2) k (i : Int) = pr (cmO o) (i : Int) → pw (mX1_ordered 24 k (i : Int) M) (fun q => q.2 = M ∧ q.1 = frO (ac x0 x1 x2) k (i : Int)) := fun o ho e e2 => by
    unfold mX1_ordered
    refine p_gFc (ji := 0) rfl k2.c24_0 (p_aGc e (p_some (fun b hb => ?_)))
    have eb : b = ((3 * o + i : Nat) : Int) := by
      rw [hb, wI_id (x := (o : Int) * 3) (by omega) (by omega), wI_id (by omega) (by omega)]
      omega
    subst eb
    refine p_it0 (at_18 ho hi).1 (p_it0 (at_18 ho hi).2 (p_tGc (r := pr (cmO o) (i : Int)) ?_ (p_ret ⟨rfl, ?_⟩)))
    · rw [Int.toNat_natCast]
      exact pc_l o ho i hi
    · exact e2.symm
  obtain z | z | z : k = 0 ∨ k = 1 ∨ k = 2 := by omega
  · subst z
    refine go x0 h0 oc.1 ?_
    unfold frO; rw [if_pos rfl, d0]
  · subst z
    refine go x1 h1 oc.2.1 ?_
    unfold frO; rw [if_neg (by decide), if_pos rfl, d1]
  · subst z
    refine go x2 h2 oc.2.2 ?_
    unfold frO; rw [if_neg (by decide), if_neg (by decide), d2]
theorem q_ordersOf {k : Int} (ok : S.ok) (sh : SHC S 4 M) (hk : 0 ≤ k ∧ k ≤ 2) : pw (mX1_ordersOf 4 k M) (fun q => q.2 = M ∧ ∃ v : Nat, q.1 = (v : Int) ∧ (v = nOr (S.sz k) ∨ (v = 1 ∧ ∀ r : Int, 0 ≤ r → r < S.nr → ¬ S.k1 r = k ∧ ¬ S.k2 r = k))) := by
  have z := ok.1 k hk.1 (by omega)
  have n4 := ok.2.1
  have last : pw (mX1_ordersOf_30 4 k M) (fun q => q.2 = M ∧ ∃ v : Nat, q.1 = (v : Int) ∧ (v = nOr (S.sz k) ∨ (v = 1 ∧ ∀ r : Int, 0 ≤ r → r < S.nr → ¬ S.k1 r = k ∧ ¬ S.k2 r = k))) := by
    unfold mX1_ordersOf_30
    refine p_gFc (ji := 0) rfl sh.1.1 (p_aGc (sh.2.1 k hk.1 (by omega)) (p_tGc (r := ((nOr (S.sz k) : Nat) : Int)) ?_ (p_ret ⟨rfl, _, rfl, Or.inl rfl⟩)))
    have := ordN_n (S.sz k).toNat (by omega) (by omega)
    rw [show (((S.sz k).toNat : Nat) : Int) = S.sz k by omega] at this
    exact this
  have loop : ∀ (fu r : Nat), (r : Int) ≤ S.nr → (∀ x : Int, 0 ≤ x → x < (r : Int) → ¬ S.k1 x = k ∧ ¬ S.k2 x = k) → pw (mX1_ordersOf_2 fu 4 k (r : Int) M) (fun q => q.2 = M ∧ ∃ v : Nat, q.1 = (v : Int) ∧ (v = nOr (S.sz k) ∨ (v = 1 ∧ ∀ r : Int, 0 ≤ r → r < S.nr → ¬ S.k1 r = k ∧ ¬ S.k2 r = k))) := by
    intro fu
    induction fu with
    | zero => intro r _ _; exact p_none
    | succ fu ih =>
      intro r hr hx
      have n4 := ok.2.1
      show pw (bX1_ordersOf_2 (mX1_ordersOf_2 fu) 4 k (r : Int) M) _
      unfold bX1_ordersOf_2
      refine p_gFc (ji := 6) rfl sh.1.2.2.2.2.2.2.1 (p_if (fun c => p_ret ⟨rfl, 1, rfl, Or.inr ⟨rfl, fun x x0 x1 => hx x x0 (by omega)⟩⟩) (fun c => ?_))
      obtain ⟨e1, e2, _⟩ := sh.2.2 (r : Int) (by omega) (by omega)
      refine p_gFc (ji := 1) rfl sh.1.2.1 (p_aGc e1 (p_if (fun _ => last) (fun d1 => p_gFc (ji := 2) rfl sh.1.2.2.1 (p_aGc e2 (p_if (fun _ => last) (fun d2 => ?_))))))
      rw [wI_s (p := r) (by omega)]
      refine ih (r + 1) (by omega) (fun x x0 x1 => ?_)
      by_cases e : x = (r : Int)
      · rw [e]; exact ⟨d1, d2⟩
      · exact hx x x0 (by omega)
  exact loop FU 0 (by omega) (fun x x0 x1 => by omega)
/-- a way is added -/
theorem q_addWay {x0 x1 x2 W : Nat} (ok : S.ok) (hn : S.nf = (n : Int)) (n12 : n ≤ 12) (k2 : K2 M) (sh : SHC S 4 M) (oc : ORC x0 x1 x2 M) (h0 : x0 < nOr (S.sz 0)) (h1 : x1 < nOr (S.sz 1)) (h2 : x2 < nOr (S.sz 2)) (hW : mG M 24 4 = (W : Int)) (w216 : W < 216) : pw (mX1_addWay 24 4 M) (fun q => mG q.2 24 4 = ((W + 1 : Nat) : Int) ∧ (∀ p : Nat, p < n → mG q.2 26 ((12 * W + p : Nat) : Int) = ((2 ^ (n - 1 - (tpp S (frO (ac x0 x1 x2)) (p : Int)).toNat) : Nat) : Int)) ∧ ∀ c j : Int, ¬ (c = 24 ∧ j = 4) → ¬ (c = 26 ∧ 12 * (W : Int) ≤ j ∧ j < 12 * (W : Int) + 12) → mG q.2 c j = mG M c j) := by
  have n4 := ok.2.1
  have b0 := nO_b (S.sz 0)
  have b1 := nO_b (S.sz 1)
  have b2 := nO_b (S.sz 2)
  have hA := isA_ac ok h0 h1 h2
  obtain ⟨al, _⟩ := ac_d (x0 := x0) (x1 := x1) (x2 := x2) (by omega) (by omega) (by omega)
  obtain ⟨a, ha⟩ : ∃ a, a = ac x0 x1 x2 := ⟨_, rfl⟩
  have hr := frO_ren ok al hA
  rw [← ha] at hr al hA ⊢
  obtain ⟨Q, hQ⟩ : ∃ Q : Int × Mem → Prop, Q = fun q => mG q.2 24 4 = ((W + 1 : Nat) : Int) ∧ (∀ p : Nat, p < n → mG q.2 26 ((12 * W + p : Nat) : Int) = ((2 ^ (n - 1 - (tpp S (frO a) (p : Int)).toNat) : Nat) : Int)) ∧ ∀ c j : Int, ¬ (c = 24 ∧ j = 4) → ¬ (c = 26 ∧ 12 * (W : Int) ≤ j ∧ j < 12 * (W : Int) + 12) → mG q.2 c j = mG M c j := ⟨_, rfl⟩
  rw [← hQ]
  -- what stands when p places are done
  obtain ⟨PD, hPD⟩ : ∃ PD : Nat → Mem → Prop, PD = fun p m => (∀ c j : Int, ¬ (c = 26 ∧ 12 * (W : Int) ≤ j ∧ j < 12 * (W : Int) + 12) → mG m c j = mG M c j) ∧ ∀ x : Nat, x < p → mG m 26 ((12 * W + x : Nat) : Int) = ((2 ^ (n - 1 - (tpp S (frO a) (x : Int)).toNat) : Nat) : Int) := ⟨_, rfl⟩
  have kp : ∀ p m, PD p m → K2 m ∧ SHC S 4 m ∧ ORC x0 x1 x2 m ∧ mG m 24 4 = (W : Int) := fun p m h => by
    rw [hPD] at h
    have g := h.1
    exact ⟨k2.kp (fun x hx => g _ _ (by have c := cst_out x hx; omega)), sh.kp (fun c j c0 c1 => g c j (by omega)), ⟨(g 25 0 (by omega)).trans oc.1, (g 25 1 (by omega)).trans oc.2.1, (g 25 2 (by omega)).trans oc.2.2⟩, (g 24 4 (by omega)).trans hW⟩
  have l4 : ∀ (fu r sr : Nat) (m : Mem), (r : Int) ≤ S.nr → S.st r = (sr : Int) → PD sr m → pw (mX1_addWay_4 fu 24 4 (sr : Int) (r : Int) m) Q := by
    intro fu
    induction fu with
    | zero => intro r sr m _ _ _; exact p_none
    | succ fu ih =>
      intro r sr m hr2 hs pd
      show pw (bX1_addWay_4 (mX1_addWay_4 fu) 24 4 (sr : Int) (r : Int) m) Q
      obtain ⟨km, sm, _, wm⟩ := kp sr m pd
      unfold bX1_addWay_4
      refine p_gFc (ji := 6) rfl sm.1.2.2.2.2.2.2.1 (p_if (fun c => ?_) (fun c => ?_))
      · refine p_gFc (ji := 4) rfl wm (p_pF (ji := 4) rfl (fun m2 hm2 => p_ret ?_))
        rw [wI_s (p := W) (by omega), if_neg (by omega)] at hm2
        rw [hPD] at pd
        have er : r = S.nr.toNat := by omega
        have nfd : S.nf = S.st S.nr.toNat := rfl
        rw [← er, hs, hn] at nfd
        rw [hQ]
        refine ⟨st_eq hm2, fun p hp => ?_, fun c j u v => (st_ne hm2 u).trans (pd.1 c j v)⟩
        exact (st_ne hm2 (fun w => absurd w.1 (by decide))).trans (pd.2 p (by omega))
      have r1 : (r : Int) < S.nr := by omega
      obtain ⟨k1, k2'⟩ := ok.2.2 (r : Int) (by omega) r1
      have z2 := zv_c ok (r := (r : Int)) (by omega) r1
      have z1 := ok.zv (k := S.k1 r) (by omega)
      have s9 := ok.st9 (r := (r : Int)) (by omega) r1
      rw [Int.toNat_natCast] at s9
      have st1 : S.st (r + 1) = S.st r + S.zv (S.k1 r) * S.zv (S.k2 r) := rfl
      have mn := ok.mono (a := r + 1) (S.nr.toNat - (r + 1)) (by omega)
      rw [show r + 1 + (S.nr.toNat - (r + 1)) = S.nr.toNat by omega] at mn
      have nfd : S.nf = S.st S.nr.toNat := rfl
      rw [← nfd, hn, st1, hs] at mn
      have zz : (S.zv (S.k2 r)).toNat = S.zv (S.k2 r) := by omega
      obtain ⟨z, hz⟩ := Int.eq_ofNat_of_zero_le (show 0 ≤ S.zv (S.k2 r) by omega)
      obtain ⟨h, hh⟩ := Int.eq_ofNat_of_zero_le (show 0 ≤ S.zv (S.k1 r) by omega)
      rw [hz, hh] at mn
      rw [hz] at z2
      have hz3 : z = 1 ∨ z = 2 ∨ z = 3 := by omega
      have hh3 : 1 ≤ h ∧ h ≤ 3 := by omega
      obtain ⟨_, e2, e3, e4, e5⟩ := sm.2.2 (r : Int) (by omega) r1
      rw [Int.toNat_natCast, hs] at e3
      have cells : ∀ p m', PD p m' → mG m' (4 + 2) (r : Int) = S.k1 r ∧ mG m' (4 + 4) (r : Int) = (sr : Int) ∧ mG m' (4 + 5) (r : Int) = (h : Int) ∧ mG m' (4 + 6) (r : Int) = (z : Int) := fun p m' h' => by
        obtain ⟨_, s', _, _⟩ := kp p m' h'
        obtain ⟨a1, a2, a3, a4, a5⟩ := s'.2.2 (r : Int) (by omega) r1
        rw [Int.toNat_natCast, hs] at a3
        exact ⟨a1, a3, a4.trans hh, a5.trans hz⟩
      refine p_gFc (ji := 2) rfl sm.1.2.2.1 (p_aGc e2 ?_)
      have l23 : ∀ (fu2 i : Nat) (m2 : Mem), i ≤ h → PD (sr + i * z) m2 → pw (mX1_addWay_23 (mX1_addWay_4 fu) fu2 24 4 ((sr + i * z : Nat) : Int) (r : Int) (S.k2 r) (i : Int) m2) Q := by
        intro fu2
        induction fu2 with
        | zero => intro i m2 _ _; exact p_none
        | succ fu2 ih2 =>
          intro i m2 hi pd2
          show pw (bX1_addWay_23 (mX1_addWay_4 fu) (mX1_addWay_23 (mX1_addWay_4 fu) fu2) 24 4 _ (r : Int) (S.k2 r) (i : Int) m2) Q
          obtain ⟨km2, sm2, oc2, wm2⟩ := kp _ m2 pd2
          obtain ⟨a1, a3, a4, a5⟩ := cells _ m2 pd2
          unfold bX1_addWay_23
          refine p_gFc (ji := 4) rfl sm2.1.2.2.2.2.1 (p_aGc a4 (p_if (fun c2 => ?_) (fun c2 => ?_)))
          · rw [wI_s (p := r) (by omega)]
            have ei : i = h := by omega
            rw [ei] at pd2 ⊢
            refine ih (r + 1) (sr + h * z) m2 (by omega) ?_ pd2
            rw [st1, hs, hh, hz]
            exact (by rw [Int.natCast_add, Int.natCast_mul])
          have ih3 : i < h := by omega
          refine p_gFc (ji := 1) rfl sm2.1.2.1 (p_aGc a1 (p_gK (p_call (q_ordered (i := i) km2 oc2 (by omega) (by omega) (by omega) (by omega) (by omega)) (fun v m3 y => ?_))))
          obtain ⟨y1, y2⟩ := y
          replace y1 : m3 = m2 := y1
          replace y2 : v = frO (ac x0 x1 x2) (S.k1 r) (i : Int) := y2
          rw [← ha] at y2
          subst y1; subst y2
          have fi := (ren_in ok hr (r := (r : Int)) (i := (i : Int)) (j := 0) (by omega) r1 ⟨⟨by omega, by omega⟩, by unfold SH.col; split <;> omega⟩).1.1
          rw [hh] at fi
          obtain ⟨u, hu⟩ := Int.eq_ofNat_of_zero_le fi.1
          rw [hu] at fi ⊢
          have uz : (u : Int) * (z : Int) = ((u * z : Nat) : Int) := (Int.natCast_mul u z).symm
          refine p_gFc (ji := 5) rfl sm2.1.2.2.2.2.2.1 (p_aGc a5 ?_)
          rw [uz, wI_id (x := ((u * z : Nat) : Int)) (by omega) (by rcases hz3 with e | e | e <;> subst e <;> omega)]
          have l58 : ∀ (fu3 j : Nat) (m4 : Mem), j ≤ z → PD (sr + i * z + j) m4 → pw (mX1_addWay_58 (mX1_addWay_4 fu) (mX1_addWay_23 (mX1_addWay_4 fu) fu2) fu3 24 4 ((sr + i * z + j : Nat) : Int) (r : Int) (S.k2 r) (i : Int) ((u * z : Nat) : Int) (j : Int) m4) Q := by
            intro fu3
            induction fu3 with
            | zero => intro j m4 _ _; exact p_none
            | succ fu3 ih4 =>
              intro j m4 hj pd4
              show pw (bX1_addWay_58 (mX1_addWay_4 fu) (mX1_addWay_23 (mX1_addWay_4 fu) fu2) (mX1_addWay_58 (mX1_addWay_4 fu) (mX1_addWay_23 (mX1_addWay_4 fu) fu2) fu3) 24 4 _ (r : Int) (S.k2 r) (i : Int) _ (j : Int) m4) Q
              obtain ⟨km4, sm4, oc4, wm4⟩ := kp _ m4 pd4
              obtain ⟨a1, a3, a4, a5⟩ := cells _ m4 pd4
              unfold bX1_addWay_58
              refine p_gFc (ji := 5) rfl sm4.1.2.2.2.2.2.1 (p_aGc a5 (p_if (fun c3 => ?_) (fun c3 => ?_)))
              · have ej : j = z := by omega
                rw [ej] at pd4 ⊢
                rw [wI_s (p := i) (by omega), show sr + i * z + z = sr + (i + 1) * z by rw [Nat.add_mul, Nat.one_mul, Nat.add_assoc]]
                rw [show sr + i * z + z = sr + (i + 1) * z by rw [Nat.add_mul, Nat.one_mul, Nat.add_assoc]] at pd4
                exact ih2 (i + 1) m4 (by omega) pd4
              have jz : j < z := by omega
              have cj : S.col r (j : Int) = (j : Int) := by
                unfold SH.col
                by_cases e : S.k2 r = -1
                · have z1' : S.zv (S.k2 r) = 1 := by unfold SH.zv; rw [if_pos e]
                  rw [if_pos e]; omega
                · rw [if_neg e]
              have inn : S.inr r (i : Int) (j : Int) := ⟨⟨by omega, by omega⟩, by rw [cj]; exact ⟨by omega, by omega⟩⟩
              have ea : S.at' r (i : Int) (j : Int) = ((sr + i * z + j : Nat) : Int) := by
                unfold SH.at'
                rw [cj, Int.toNat_natCast, hs, hz]
                rcases hz3 with e | e | e <;> subst e <;> omega
              have pn : sr + i * z + j < n := by
                rcases hz3 with e | e | e <;> subst e <;> omega
              have tp := tpp_at (f := frO a) ok (by omega) r1 inn
              rw [ea] at tp
              obtain ⟨c1, _, _⟩ := ren_in ok hr (by omega) r1 inn
              have pos := ok.pos (by omega) r1 c1
              rw [Int.toNat_natCast, hs] at pos
              obtain ⟨t, ht⟩ := Int.eq_ofNat_of_zero_le (show 0 ≤ S.at' r (frO a (S.k1 r) i) (frO a (S.k2 r) j) by omega)
              rw [ht] at tp pos
              have go : ∀ v : Int, v = (if S.k2 r = -1 then 0 else frO a (S.k2 r) j) → pw (mX1_addWay_96 (mX1_addWay_4 fu) (mX1_addWay_23 (mX1_addWay_4 fu) fu2) (mX1_addWay_58 (mX1_addWay_4 fu) (mX1_addWay_23 (mX1_addWay_4 fu) fu2) fu3) 24 4 ((sr + i * z + j : Nat) : Int) (r : Int) (S.k2 r) (i : Int) ((u * z : Nat) : Int) (j : Int) (wI ((sr : Int) + ((u * z : Nat) : Int))) v m4) Q := fun v hv => by
                have et : (sr : Int) + ((u * z : Nat) : Int) + v = (t : Int) := by
                  rw [← ht, hv]
                  unfold SH.at' SH.col
                  rw [Int.toNat_natCast, hs, hz, hu, Int.natCast_mul, Int.mul_comm (u : Int) (z : Int)]
                have uzl : u * z ≤ 9 := by rcases hz3 with e | e | e <;> subst e <;> omega
                unfold mX1_addWay_96 mX1_addWay_137
                refine p_gFc (ji := 4) rfl wm4 (p_it0 (by omega) (p_it0 (by omega) (p_gFc (ji := 1) rfl km4.c24_1 (p_gFc (ji := 4) rfl wm4 (p_gK ?_)))))
                rw [wI_id (x := (sr : Int) + ((u * z : Nat) : Int)) (by omega) (by omega), et, wI_id (x := (t : Int)) (by omega) (by omega)]
                refine p_call (q_bit (p := (t : Int)) sm4 ok ⟨by omega, by omega⟩) (fun b m5 y => ?_)
                obtain ⟨y1, y2⟩ := y
                replace y1 : m5 = m4 := y1
                replace y2 : b = S.nf - 1 - (t : Int) := y2
                subst y1
                rw [hn, show (n : Int) - 1 - (t : Int) = ((n - 1 - t : Nat) : Int) by omega] at y2
                subst y2
                refine p_aS (fun m6 h6 => ?_)
                rw [ishl1 (n - 1 - t) (by omega), show (2 : Int) ^ (n - 1 - t) = ((2 ^ (n - 1 - t) : Nat) : Int) by simp, wI_id (x := (W : Int) * 12) (by omega) (by omega), wI_id (x := (W : Int) * 12 + ((sr + i * z + j : Nat) : Int)) (by omega) (by omega), show (W : Int) * 12 + ((sr + i * z + j : Nat) : Int) = ((12 * W + (sr + i * z + j) : Nat) : Int) by omega] at h6
                rw [wI_s (p := sr + i * z + j) (by omega), wI_s (p := j) (by omega)]
                refine ih4 (j + 1) m6 (by omega) ?_
                rw [hPD] at pd4 ⊢
                refine ⟨fun c j' x => (st_ne h6 (fun w => x ⟨w.1, by omega, by omega⟩)).trans (pd4.1 c j' x), fun x hx => ?_⟩
                by_cases e : x = sr + i * z + j
                · rw [e, st_eq h6, tp, Int.toNat_natCast]
                · rw [st_ne h6 (fun w => e (by have := w.2; omega))]
                  exact pd4.2 x (by omega)
              refine p_gFc (ji := 3) rfl sm4.1.2.2.2.1 (p_aGc a3 (p_if (fun c4 => go 0 ?_) (fun c4 => p_gK (p_call (q_ordered (i := j) km4 oc4 (by omega) (by omega) (by omega) (by omega) (by omega)) (fun v m5 y => ?_)))))
              · rw [if_pos c4]
              · obtain ⟨y1, y2⟩ := y
                replace y1 : m5 = m4 := y1
                replace y2 : v = frO (ac x0 x1 x2) (S.k2 r) (j : Int) := y2
                rw [← ha] at y2
                subst y1
                exact go v (by rw [if_neg c4]; exact y2)
          exact l58 FU 0 m3 (by omega) pd2
      have := l23 FU 0 m (by omega) (by rw [Nat.zero_mul, Nat.add_zero]; exact pd)
      rw [Nat.zero_mul, Nat.add_zero] at this
      exact this
  unfold mX1_addWay
  refine l4 FU 0 0 M (by omega) rfl ?_
  rw [hPD]
  exact ⟨fun _ _ _ => rfl, fun x hx => absurd hx (by omega)⟩
end
end
