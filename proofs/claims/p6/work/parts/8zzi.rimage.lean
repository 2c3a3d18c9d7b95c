/-! ===== the reference's least image ===== -/
section
variable {S : SH} {M : Mem} {n : Nat}
theorem v_imageOf {a w : Nat} (ok : S.ok) (hn : S.nf = (n : Int)) (n12 : n ≤ 12) (ha : a < 216) (hA : isA S a = true) (k9 : K9 M) (rs : RSH S M) (od : ORD a M) (lw : LW S (phw (n : Int) w) M) : pw (mX9_imageOf 126 M) (fun q => q.2 = M ∧ q.1 = ((imN S n (frO a) w : Nat) : Int)) := by
  have n4 := ok.2.1
  have hr := frO_ren ok ha hA
  obtain ⟨g, hg⟩ : ∃ g, g = gim S n (frO a) w := ⟨_, rfl⟩
  obtain ⟨Q, hQ⟩ : ∃ Q : Int × Mem → Prop, Q = fun q => q.2 = M ∧ q.1 = ((orN g n : Nat) : Int) := ⟨_, rfl⟩
  have main : pw (mX9_imageOf 126 M) Q := by
    have p12 : 2 ^ n ≤ 2 ^ 12 := Nat.pow_le_pow_right (n := 2) (by decide) n12
    have gl : ∀ p, p < n → g p < 2 ^ n := fun p hp => by
      rw [hg]
      unfold gim
      by_cases e : w.testBit (n - 1 - p) = true
      · rw [if_pos e]
        exact Nat.pow_lt_pow_right (by decide) (by omega)
      · rw [if_neg e]
        exact Nat.two_pow_pos n
    have lt : ∀ k, k ≤ n → orN g k < 2 ^ n := by
      intro k
      induction k with
      | zero => intro _; exact Nat.two_pow_pos n
      | succ k ih => intro hk; exact Nat.or_lt_two_pow (ih (by omega)) (gl k (by omega))
    have l9 : ∀ (fu r sr : Nat), (r : Int) ≤ S.nr → S.st r = (sr : Int) → pw (mX9_imageOf_9 fu 126 (n : Int) ((orN g sr : Nat) : Int) (r : Int) M) Q := by
      intro fu
      induction fu with
      | zero => intro r sr _ _; exact p_none
      | succ fu ih =>
        intro r sr hr2 hs
        show pw (bX9_imageOf_9 (mX9_imageOf_9 fu) 126 (n : Int) _ (r : Int) M) Q
        unfold bX9_imageOf_9
        refine p_gFc (ji := 8) rfl k9.c8 (p_aGc rs.2.1.1 (p_if (fun c => p_ret ?_) (fun c => ?_)))
        · have er : r = S.nr.toNat := by omega
          have : S.nf = S.st S.nr.toNat := rfl
          rw [← er, hs, hn] at this
          rw [hQ, show sr = n by omega]
          exact ⟨rfl, rfl⟩
        have r1 : (r : Int) < S.nr := by omega
        obtain ⟨e1, e2⟩ := rs.2.1.2 (r : Int) (by omega) r1
        obtain ⟨k1, k2⟩ := ok.2.2 (r : Int) (by omega) r1
        have z2 := zv_c ok (r := (r : Int)) (by omega) r1
        have z1 := ok.zv (k := S.k1 r) (by omega)
        have s9 := ok.st9 (r := (r : Int)) (by omega) r1
        rw [Int.toNat_natCast] at s9
        have st1 : S.st (r + 1) = S.st r + S.zv (S.k1 r) * S.zv (S.k2 r) := rfl
        have b0 := rs.2.2 r (by omega)
        have b1 := rs.2.2 (r + 1) (by omega)
        have mn := ok.mono (a := r + 1) (S.nr.toNat - (r + 1)) (by omega)
        rw [show r + 1 + (S.nr.toNat - (r + 1)) = S.nr.toNat by omega] at mn
        have nfd : S.nf = S.st S.nr.toNat := rfl
        rw [← nfd, hn] at mn
        refine p_gFc (ji := 10) rfl k9.c10 (p_aGc e2 (p_gK (p_call (v_sizeOf k9 rs.1 k2) (fun v m y => ?_))))
        obtain ⟨y1, y2⟩ := y
        replace y1 : m = M := y1
        replace y2 : v = S.zv (S.k2 r) := y2
        subst y1; subst y2
        have l34 : ∀ (fu2 k : Nat), (k : Int) ≤ S.zv (S.k1 r) * S.zv (S.k2 r) → pw (mX9_imageOf_34 (mX9_imageOf_9 fu) fu2 126 (n : Int) ((orN g (sr + k) : Nat) : Int) (r : Int) (S.zv (S.k2 r)) (k : Int) m) Q := by
          intro fu2
          induction fu2 with
          | zero => intro k _; exact p_none
          | succ fu2 ih2 =>
            intro k hk
            show pw (bX9_imageOf_34 (mX9_imageOf_9 fu) (mX9_imageOf_34 (mX9_imageOf_9 fu) fu2) 126 (n : Int) _ (r : Int) (S.zv (S.k2 r)) (k : Int) m) Q
            unfold bX9_imageOf_34
            rw [wI_s (p := r) (by omega)]
            refine p_gFc (ji := 27) rfl k9.c27 (p_aGc b1 (p_gFc (ji := 27) rfl k9.c27 (p_aGc b0 ?_)))
            rw [st1, hs, wI_id (x := (sr : Int) + S.zv (S.k1 r) * S.zv (S.k2 r) - (sr : Int)) (by omega) (by omega)]
            refine p_if (fun c2 => ?_) (fun c2 => ?_)
            · obtain ⟨z, hz⟩ := Int.eq_ofNat_of_zero_le (show 0 ≤ S.zv (S.k1 r) * S.zv (S.k2 r) by omega)
              rw [show k = z by omega]
              exact ih (r + 1) (sr + z) (by omega) (by rw [st1, hs, hz]; omega)
            have kl : (k : Int) < S.zv (S.k1 r) * S.zv (S.k2 r) := by omega
            obtain ⟨i, hi⟩ := Int.eq_ofNat_of_zero_le (show 0 ≤ (k : Int) / S.zv (S.k2 r) by
              generalize S.zv (S.k2 r) = z at *
              rcases z2 with z2 | z2 | z2 <;> subst z2 <;> omega)
            obtain ⟨j, hj⟩ := Int.eq_ofNat_of_zero_le (show 0 ≤ (k : Int) % S.zv (S.k2 r) by
              generalize S.zv (S.k2 r) = z at *
              rcases z2 with z2 | z2 | z2 <;> subst z2 <;> omega)
            have ij : (i : Int) < S.zv (S.k1 r) ∧ (j : Int) < S.zv (S.k2 r) ∧ S.zv (S.k2 r) * (i : Int) + (j : Int) = (k : Int) := by
              generalize S.zv (S.k2 r) = z at *
              rcases z2 with z2 | z2 | z2 <;> subst z2 <;> refine ⟨by omega, by omega, by omega⟩
            have cj : S.col r (j : Int) = (j : Int) := by
              unfold SH.col
              by_cases e : S.k2 r = -1
              · have z : S.zv (S.k2 r) = 1 := by unfold SH.zv; rw [if_pos e]
                rw [z] at ij
                rw [if_pos e]; omega
              · rw [if_neg e]
            have inn : S.inr r (i : Int) (j : Int) := ⟨⟨by omega, ij.1⟩, by rw [cj]; exact ⟨by omega, ij.2.1⟩⟩
            have ea : S.at' r (i : Int) (j : Int) = ((sr + k : Nat) : Int) := by
              unfold SH.at'
              rw [cj, Int.toNat_natCast, hs]
              omega
            have tp := tpp_at (f := frO a) ok (by omega) r1 inn
            rw [ea] at tp
            obtain ⟨c1, _, _⟩ := ren_in ok hr (by omega) r1 inn
            have pos := ok.pos (by omega) r1 c1
            rw [Int.toNat_natCast] at pos
            have hfi : 0 ≤ frO a (S.k1 r) (i : Int) ∧ frO a (S.k1 r) (i : Int) < S.zv (S.k1 r) := c1.1
            have eto : S.at' r (frO a (S.k1 r) i) (frO a (S.k2 r) j) = (sr : Int) + S.zv (S.k2 r) * frO a (S.k1 r) i + (if S.k2 r = -1 then 0 else frO a (S.k2 r) j) := by
              unfold SH.at' SH.col
              rw [Int.toNat_natCast, hs]
            have mb := mul_b (x := S.zv (S.k2 r)) (y := frO a (S.k1 r) i) (a := 3) (b := 3) (by omega) (by omega) (by omega) (by omega)
            have r2 : (if S.k2 r = -1 then (0 : Int) else frO a (S.k2 r) j) ≤ 3 ∧ 0 ≤ (if S.k2 r = -1 then (0 : Int) else frO a (S.k2 r) j) := by
              have h2 := c1.2
              unfold SH.col at h2
              omega
            obtain ⟨t, ht⟩ := Int.eq_ofNat_of_zero_le (show 0 ≤ S.at' r (frO a (S.k1 r) i) (frO a (S.k2 r) j) by omega)
            refine p_gFc (ji := 27) rfl k9.c27 (p_aGc (b0.trans hs) (p_gFc (ji := 9) rfl k9.c9 (p_aGc e1 (p_dQc ((idiv_e (by omega) (by omega) (by omega) (by omega)).trans hi) (p_gK (p_call (v_renamed (a := a) (i := i) ha (by omega) (by omega) k9 od) (fun v m2 y => ?_)))))))
            obtain ⟨y1, y2⟩ := y
            replace y1 : m2 = m := y1
            replace y2 : v = _ := y2
            subst y1
            rw [if_neg (by omega)] at y2
            subst y2
            refine p_gFc (ji := 10) rfl k9.c10 (p_aGc e2 (p_dMc ((irem_e (by omega) (by omega) (by omega) (by omega)).trans hj) (p_gK (p_call (v_renamed (a := a) (i := j) ha k2 (by omega) k9 od) (fun v m3 y => ?_)))))
            obtain ⟨y1, y2⟩ := y
            replace y1 : m3 = m2 := y1
            replace y2 : v = (if S.k2 r = -1 then 0 else frO a (S.k2 r) j) := y2
            subst y1; subst y2
            refine p_some (fun b95 hb => ?_)
            have eb : b95 = (t : Int) := by
              rw [hb]
              show wI (wI ((sr : Int) + wI (S.zv (S.k2 r) * frO a (S.k1 r) i)) + (if S.k2 r = -1 then 0 else frO a (S.k2 r) j)) = _
              rw [wI_id (x := S.zv (S.k2 r) * frO a (S.k1 r) i) (by omega) (by omega), wI_id (x := (sr : Int) + S.zv (S.k2 r) * frO a (S.k1 r) i) (by omega) (by omega), wI_id (by omega) (by omega)]
              omega
            subst eb
            have lwk := lw ((sr + k : Nat) : Int) (by omega) (by omega)
            refine p_gFc (ji := 28) rfl k9.c28 (p_gFc (ji := 27) rfl k9.c27 (p_aGc (b0.trans hs) ?_))
            rw [wI_id (x := (sr : Int) + (k : Int)) (by omega) (by omega), show (sr : Int) + (k : Int) = ((sr + k : Nat) : Int) by omega]
            have pb : phw (n : Int) w ((sr + k : Nat) : Int) = w.testBit (n - 1 - (sr + k)) := by
              unfold phw
              rw [show ((n : Int) - 1 - ((sr + k : Nat) : Int)).toNat = n - 1 - (sr + k) by omega]
            rw [pb] at lwk
            have ltk := lt (sr + k) (by omega)
            have nxt : ∀ v : Nat, v = g (sr + k) → pw (mX9_imageOf_127 (mX9_imageOf_9 fu) (mX9_imageOf_34 (mX9_imageOf_9 fu) fu2) 126 (n : Int) (r : Int) (S.zv (S.k2 r)) (k : Int) ((orN g (sr + k) : Nat) : Int) (v : Int) m3) Q := fun v hv => by
              have gk := gl (sr + k) (by omega)
              unfold mX9_imageOf_127
              rw [wI_s (p := k) (by omega), ior_nn (by omega) (by omega), hv, show orN g (sr + k) ||| g (sr + k) = orN g (sr + (k + 1)) from rfl]
              exact ih2 (k + 1) (by omega)
            refine p_aGc lwk (p_if (fun d => nxt 0 ?_) (fun d => ?_))
            · rw [hg]
              unfold gim
              rw [b2i_0.mp d, if_neg (by decide)]
            · have tb : w.testBit (n - 1 - (sr + k)) = true := by
                cases e : w.testBit (n - 1 - (sr + k)) with
                | true => rfl
                | false => rw [e] at d; exact absurd rfl d
              rw [wI_id (x := (n : Int) - 1) (by omega) (by omega), wI_id (x := (n : Int) - 1 - (t : Int)) (by omega) (by omega), show (n : Int) - 1 - (t : Int) = ((n - 1 - t : Nat) : Int) by omega, ishl1 (n - 1 - t) (by omega), show (2 : Int) ^ (n - 1 - t) = ((2 ^ (n - 1 - t) : Nat) : Int) by simp]
              refine nxt _ ?_
              rw [hg]
              unfold gim
              rw [if_pos tb, tp, ht, Int.toNat_natCast]
        have mb0 := mul_b (x := S.zv (S.k1 r)) (y := S.zv (S.k2 r)) (a := 3) (b := 3) (by omega) (by omega) (by omega) (by omega)
        exact l34 FU 0 (by omega)
    unfold mX9_imageOf
    refine p_gK (p_call (v_manyFacts ok k9 rs) (fun v m y => ?_))
    obtain ⟨y1, y2⟩ := y
    replace y1 : m = M := y1
    replace y2 : v = S.nf := y2
    subst y1
    rw [hn] at y2
    subst y2
    exact l9 FU 0 0 (by omega) rfl
  rw [hQ, hg] at main
  exact main
/-- renumberings are orders -/
theorem ren_fr (ok : S.ok) {σ τ : Int → Int → Int} (hr : ∀ k : Int, 0 ≤ k → k < 3 → REN (S.sz k) (σ k) (τ k)) : ∃ a, a < 216 ∧ isA S a = true ∧ ∀ k : Int, 0 ≤ k → k < 3 → ∀ i : Int, 0 ≤ i → i < S.sz k → frO a k i = σ k i := by
  have one : ∀ k : Int, 0 ≤ k → k < 3 → ∃ o, o < 6 ∧ isOb o (S.sz k).toNat = true ∧ ∀ i : Int, 0 ≤ i → i < S.sz k → pr o i = σ k i := fun k k0 k1 => by
    have z := ok.1 k k0 k1
    have e : S.sz k = (((S.sz k).toNat : Nat) : Int) := by omega
    have h := hr k k0 k1
    rw [e] at h
    obtain ⟨o, o1, o2, o3⟩ := ren_pr (by omega) (by omega) h
    exact ⟨o, o1, o2, fun i i0 i1 => o3 i i0 (by omega)⟩
  obtain ⟨a, a1, a2, a3⟩ := one 0 (by decide) (by decide)
  obtain ⟨b, b1, b2, b3⟩ := one 1 (by decide) (by decide)
  obtain ⟨c, c1, c2, c3⟩ := one 2 (by decide) (by decide)
  have q1 : (36 * a + 6 * b + c) / 36 = a := by omega
  have q2 : (36 * a + 6 * b + c) / 6 % 6 = b := by omega
  have q3 : (36 * a + 6 * b + c) % 6 = c := by omega
  refine ⟨36 * a + 6 * b + c, by omega, ?_, fun k k0 k1 i i0 i1 => ?_⟩
  · unfold isA
    rw [q1, q2, q3, a2, b2, c2]; rfl
  · unfold frO
    rw [q1, q2, q3]
    obtain e | e | e : k = 0 ∨ k = 1 ∨ k = 2 := by omega
    · subst e; rw [if_pos rfl]; exact a3 i i0 i1
    · subst e; rw [if_neg (by decide), if_pos rfl]; exact b3 i i0 i1
    · subst e; rw [if_neg (by decide), if_neg (by decide)]; exact c3 i i0 i1
/-- all that a world is by other numbers, the reference's orders make -/
theorem im_fr (ok : S.ok) (hn : S.nf = (n : Int)) {w x : Nat} (h : IM S n w x) : ∃ a, a < 216 ∧ isA S a = true ∧ x = imN S n (frO a) w := by
  obtain ⟨h0, h1, σ, τ, hr, hf⟩ := h
  obtain ⟨a, a1, a2, a3⟩ := ren_fr ok hr
  have hr' := frO_ren ok a1 a2
  refine ⟨a, a1, a2, IMf.uniq ok hn hr' (IMf.congr ok (f := σ) (fun r r0 r1 => ?_) ⟨h1, hf⟩) (imN_f ok hn hr' w)⟩
  obtain ⟨k1, k2⟩ := ok.2.2 r r0 r1
  exact ⟨fun i i0 i1 => (a3 (S.k1 r) k1.1 (by omega) i i0 i1).symm, fun z i i0 i1 => (a3 (S.k2 r) (by omega) (by omega) i i0 i1).symm⟩
theorem isA_0 (ok : S.ok) : isA S 0 = true := by
  have one : ∀ k : Int, 0 ≤ k → k < 3 → isOb 0 (S.sz k).toNat = true := fun k k0 k1 => by
    have z := ok.1 k k0 k1
    obtain e | e | e : (S.sz k).toNat = 1 ∨ (S.sz k).toNat = 2 ∨ (S.sz k).toNat = 3 := by omega
    all_goals rw [e]; decide +kernel
  show (isOb 0 (S.sz 0).toNat && isOb 0 (S.sz 1).toNat && isOb 0 (S.sz 2).toNat) = true
  rw [one 0 (by decide) (by decide), one 1 (by decide) (by decide), one 2 (by decide) (by decide)]
  rfl
theorem v_leastImage {w : Nat} (ok : S.ok) (hn : S.nf = (n : Int)) (n12 : n ≤ 12) (hw : w < 2 ^ n) (k9 : K9 M) (rs : RSH S M) (lw : LW S (phw (n : Int) w) M) : pw (mX9_leastImage 126 M) (fun q => (∀ c j : Int, ¬ c = 162 → mG q.2 c j = mG M c j) ∧ ∃ m : Nat, q.1 = (m : Int) ∧ ISL S n w m) := by
  obtain ⟨Q, hQ⟩ : ∃ Q : Int × Mem → Prop, Q = fun q => (∀ c j : Int, ¬ c = 162 → mG q.2 c j = mG M c j) ∧ ∃ m : Nat, q.1 = (m : Int) ∧ ISL S n w m := ⟨_, rfl⟩
  rw [← hQ]
  have p12 : 2 ^ n ≤ 2 ^ 12 := Nat.pow_le_pow_right (n := 2) (by decide) n12
  have loop : ∀ (fu a : Nat) (l : Int) (m : Mem), a ≤ 216 → (∀ c j : Int, ¬ c = 162 → mG m c j = mG M c j) → ((l = -1 ∧ a = 0) ∨ ∃ x : Nat, l = (x : Int) ∧ IM S n w x ∧ ∀ b, b < a → isA S b = true → x ≤ imN S n (frO b) w) → pw (mX9_leastImage_4 fu 126 l (a : Int) m) Q := by
    intro fu
    induction fu with
    | zero => intro a l m _ _ _; exact p_none
    | succ fu ih =>
      intro a l m ha g hl
      show pw (bX9_leastImage_4 (mX9_leastImage_4 fu) 126 l (a : Int) m) Q
      unfold bX9_leastImage_4
      refine p_if (fun c => p_ret ?_) (fun c => ?_)
      · rw [hQ]
        rcases hl with ⟨_, e⟩ | ⟨x, e, h1, h2⟩
        · omega
        · refine ⟨g, x, e, h1, fun y hy => ?_⟩
          obtain ⟨b, b1, b2, b3⟩ := im_fr ok hn hy
          rw [b3]
          exact h2 b (by omega) b2
      have a1 : a < 216 := by omega
      have km : K9 m := k9.kp (fun j _ => g 126 j (by decide))
      have rm : RSH S m := rs.kp (fun c j hc => g c j (by omega))
      refine p_gK (p_call (v_takeOrders ok a1 km rm) (fun v m2 y => ?_))
      obtain ⟨y1, y2, y3⟩ := y
      replace y1 : ORD a m2 := y1
      replace y2 : ∀ c j : Int, ¬ c = 162 → mG m2 c j = mG m c j := y2
      replace y3 : v = b2i (isA S a) := y3
      have g2 : ∀ c j : Int, ¬ c = 162 → mG m2 c j = mG M c j := fun c j x => (y2 c j x).trans (g c j x)
      have go : ∀ (l' : Int) (m3 : Mem), m3 = m2 → (∃ x : Nat, l' = (x : Int) ∧ IM S n w x ∧ ∀ b, b < a + 1 → isA S b = true → x ≤ imN S n (frO b) w) → pw (mX9_leastImage_40 (mX9_leastImage_4 fu) 126 l' (a : Int) m3) Q := fun l' m3 e h => by
        unfold mX9_leastImage_40
        rw [wI_s (p := a) (by omega), e]
        exact ih (a + 1) l' m2 (by omega) g2 (Or.inr h)
      refine p_if (fun c2 => ?_) (fun c2 => ?_)
      · have nA := b2i_0.mp (y3.symm.trans c2)
        rcases hl with ⟨_, e⟩ | ⟨x, e, h1, h2⟩
        · rw [e, isA_0 ok] at nA; cases nA
        · refine go l m2 rfl ⟨x, e, h1, fun b hb hb2 => ?_⟩
          by_cases z : b = a
          · rw [z, nA] at hb2; cases hb2
          · exact h2 b (by omega) hb2
      have hA : isA S a = true := by
        cases e : isA S a with
        | true => rfl
        | false => rw [e] at y3; exact absurd y3 c2
      have k2 : K9 m2 := k9.kp (fun j _ => g2 126 j (by decide))
      have im : IM S n w (imN S n (frO a) w) := IMf.im (frO_ren ok a1 hA) hw (imN_f ok hn (frO_ren ok a1 hA) w)
      refine p_gK (p_call (v_imageOf ok hn n12 a1 hA k2 (rs.kp (fun c j hc => g2 c j (by omega))) y1 (fun f f0 f1 => (g2 154 f (by decide)).trans (lw f f0 f1))) (fun v m3 y => ?_))
      obtain ⟨y4, y5⟩ := y
      replace y4 : m3 = m2 := y4
      replace y5 : v = ((imN S n (frO a) w : Nat) : Int) := y5
      subst y5
      have take : (∀ x : Nat, l = (x : Int) → imN S n (frO a) w < x) → pw (mX9_leastImage_34 (mX9_leastImage_4 fu) 126 (a : Int) ((imN S n (frO a) w : Nat) : Int) m3) Q := fun h => by
        unfold mX9_leastImage_34 mX9_leastImage_39
        refine go _ m3 y4 ⟨_, rfl, im, fun b hb hb2 => ?_⟩
        by_cases z : b = a
        · rw [z]; exact Nat.le_refl _
        · rcases hl with ⟨_, e⟩ | ⟨x, e, h1, h2⟩
          · omega
          · have := h x e
            have := h2 b (by omega) hb2
            omega
      refine p_if (fun c3 => take (fun x e => by omega)) (fun c3 => p_if (fun c4 => ?_) (fun c4 => take (fun x e => by
        have c4 : ¬ l ≤ ((imN S n (frO a) w : Nat) : Int) := c4
        omega)))
      replace c4 : l ≤ ((imN S n (frO a) w : Nat) : Int) := c4
      rcases hl with ⟨e, _⟩ | ⟨x, e, h1, h2⟩
      · exact absurd e c3
      · unfold mX9_leastImage_39
        refine go l m3 y4 ⟨x, e, h1, fun b hb hb2 => ?_⟩
        by_cases z : b = a
        · rw [z]; omega
        · exact h2 b (by omega) hb2
  exact loop FU 0 (-1) M (by omega) (fun _ _ _ => rfl) (Or.inl ⟨rfl, rfl⟩)
end
