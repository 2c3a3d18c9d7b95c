/-! ===== the class's orders, and where they move places ===== -/
theorem ordN_n : ∀ s : Nat, s < 4 → 0 < s → ordN.getD s 0 = ((nOr (s : Int) : Nat) : Int) := by decide +kernel
theorem nO_b (s : Int) : 1 ≤ nOr s ∧ nOr s ≤ 6 := by
  unfold nOr
  by_cases a : s = 1
  · rw [if_pos a]; decide
  · rw [if_neg a]
    by_cases b : s = 2
    · rw [if_pos b]; decide
    · rw [if_neg b]; decide
theorem cm_cm : ∀ o : Nat, o < 6 → cmO o < 6 ∧ cmO (cmO o) = o := by decide +kernel
theorem pc_l : ∀ o : Nat, o < 6 → ∀ i : Nat, i < 3 → ordL.getD (3 * o + i) 0 = pr (cmO o) (i : Int) := by decide +kernel
def ac (x0 x1 x2 : Nat) : Nat := 36 * cmO x0 + 6 * cmO x1 + cmO x2
theorem ac_d {x0 x1 x2 : Nat} (h0 : x0 < 6) (h1 : x1 < 6) (h2 : x2 < 6) : ac x0 x1 x2 < 216 ∧ ac x0 x1 x2 / 36 = cmO x0 ∧ ac x0 x1 x2 / 6 % 6 = cmO x1 ∧ ac x0 x1 x2 % 6 = cmO x2 := by
  have a := (cm_cm x0 h0).1
  have b := (cm_cm x1 h1).1
  have c := (cm_cm x2 h2).1
  unfold ac
  refine ⟨by omega, by omega, by omega, by omega⟩
theorem at_18 {o i : Nat} (ho : o < 6) (hi : i < 3) : ¬ ((3 * o + i : Nat) : Int) < 0 ∧ ¬ 18 ≤ ((3 * o + i : Nat) : Int) := by omega
/-- the class's orders at hand -/
def ORC (x0 x1 x2 : Nat) (M : Mem) : Prop := mG M 25 0 = (x0 : Int) ∧ mG M 25 1 = (x1 : Int) ∧ mG M 25 2 = (x2 : Int)
section
variable {S : SH} {M : Mem} {n : Nat}
theorem isA_ac {x0 x1 x2 : Nat} (ok : S.ok) (h0 : x0 < nOr (S.sz 0)) (h1 : x1 < nOr (S.sz 1)) (h2 : x2 < nOr (S.sz 2)) : isA S (ac x0 x1 x2) = true := by
  have b0 := nO_b (S.sz 0)
  have b1 := nO_b (S.sz 1)
  have b2 := nO_b (S.sz 2)
  obtain ⟨_, d0, d1, d2⟩ := ac_d (x0 := x0) (x1 := x1) (x2 := x2) (by omega) (by omega) (by omega)
  have one : ∀ (k : Int) (x : Nat), 0 ≤ k → k < 3 → x < nOr (S.sz k) → isOb (cmO x) (S.sz k).toNat = true := fun k x k0 k1 h => by
    have z := ok.1 k k0 k1
    have bb := nO_b (S.sz k)
    rw [(isO_n (S.sz k).toNat (by omega) (by omega) x (by omega)).2.2, show (((S.sz k).toNat : Nat) : Int) = S.sz k by omega]
    exact decide_eq_true h
  unfold isA
  rw [d0, d1, d2, one 0 x0 (by decide) (by decide) h0, one 1 x1 (by decide) (by decide) h1, one 2 x2 (by decide) (by decide) h2]
  rfl
theorem q_ordered {x0 x1 x2 i : Nat} {k : Int} (k2 : K2 M) (oc : ORC x0 x1 x2 M) (h0 : x0 < 6) (h1 : x1 < 6) (h2 : x2 < 6) (hk : 0 ≤ k ∧ k ≤ 2) (hi : i < 3) : pw (mX1_ordered 24 k (i : Int) M) (fun q => q.2 = M ∧ q.1 = frO (ac x0 x1 x2) k (i : Int)) := by
  obtain ⟨_, d0, d1, d2⟩ := ac_d h0 h1 h2
  have go : ∀ o : Nat, o < 6 → mG M 25 k = (o : Int) → frO (ac x0 x1 x2) k (i : Int) = pr (cmO o) (i : Int) → pw (mX1_ordered 24 k (i : Int) M) (fun q => q.2 = M ∧ q.1 = frO (ac x0 x1 x2) k (i : Int)) := fun o ho e e2 => by
    unfold mX1_ordered
    refine p_gFc (ji := 0) rfl k2.c24_0 (p_aGc e (p_some (fun b hb => ?_)))
    have eb : b = ((3 * o + i : Nat) : Int) := by
      rw [hb, wI_id (x := (o : Int) * 3) (by omega) (by omega), wI_id (by omega) (by omega)]
      omega
    subst eb
    refine p_it0 (at_18 ho hi).1 (p_it0 (at_18 ho hi).2 (p_tGc (r := pr (cmO o) (i : Int)) ?_ (p_ret ⟨rfl, ?_⟩)))
    · rw [Int.toNat_natCast]
      exact pc_l o ho i hi
    · exact e2.symm
  obtain z | z | z : k = 0 ∨ k = 1 ∨ k = 2 := by omega
  · subst z
    refine go x0 h0 oc.1 ?_
    unfold frO; rw [if_pos rfl, d0]
  · subst z
    refine go x1 h1 oc.2.1 ?_
    unfold frO; rw [if_neg (by decide), if_pos rfl, d1]
  · subst z
    refine go x2 h2 oc.2.2 ?_
    unfold frO; rw [if_neg (by decide), if_neg (by decide), d2]
theorem q_ordersOf {k : Int} (ok : S.ok) (sh : SHC S 4 M) (hk : 0 ≤ k ∧ k ≤ 2) : pw (mX1_ordersOf 4 k M) (fun q => q.2 = M ∧ ∃ v : Nat, q.1 = (v : Int) ∧ (v = nOr (S.sz k) ∨ (v = 1 ∧ ∀ r : Int, 0 ≤ r → r < S.nr → ¬ S.k1 r = k ∧ ¬ S.k2 r = k))) := by
  have z := ok.1 k hk.1 (by omega)
  have n4 := ok.2.1
  have last : pw (mX1_ordersOf_30 4 k M) (fun q => q.2 = M ∧ ∃ v : Nat, q.1 = (v : Int) ∧ (v = nOr (S.sz k) ∨ (v = 1 ∧ ∀ r : Int, 0 ≤ r → r < S.nr → ¬ S.k1 r = k ∧ ¬ S.k2 r = k))) := by
    unfold mX1_ordersOf_30
    refine p_gFc (ji := 0) rfl sh.1.1 (p_aGc (sh.2.1 k hk.1 (by omega)) (p_tGc (r := ((nOr (S.sz k) : Nat) : Int)) ?_ (p_ret ⟨rfl, _, rfl, Or.inl rfl⟩)))
    have := ordN_n (S.sz k).toNat (by omega) (by omega)
    rw [show (((S.sz k).toNat : Nat) : Int) = S.sz k by omega] at this
    exact this
  have loop : ∀ (fu r : Nat), (r : Int) ≤ S.nr → (∀ x : Int, 0 ≤ x → x < (r : Int) → ¬ S.k1 x = k ∧ ¬ S.k2 x = k) → pw (mX1_ordersOf_2 fu 4 k (r : Int) M) (fun q => q.2 = M ∧ ∃ v : Nat, q.1 = (v : Int) ∧ (v = nOr (S.sz k) ∨ (v = 1 ∧ ∀ r : Int, 0 ≤ r → r < S.nr → ¬ S.k1 r = k ∧ ¬ S.k2 r = k))) := by
    intro fu
    induction fu with
    | zero => intro r _ _; exact p_none
    | succ fu ih =>
      intro r hr hx
      have n4 := ok.2.1
      show pw (bX1_ordersOf_2 (mX1_ordersOf_2 fu) 4 k (r : Int) M) _
      unfold bX1_ordersOf_2
      refine p_gFc (ji := 6) rfl sh.1.2.2.2.2.2.2.1 (p_if (fun c => p_ret ⟨rfl, 1, rfl, Or.inr ⟨rfl, fun x x0 x1 => hx x x0 (by omega)⟩⟩) (fun c => ?_))
      obtain ⟨e1, e2, _⟩ := sh.2.2 (r : Int) (by omega) (by omega)
      refine p_gFc (ji := 1) rfl sh.1.2.1 (p_aGc e1 (p_if (fun _ => last) (fun d1 => p_gFc (ji := 2) rfl sh.1.2.2.1 (p_aGc e2 (p_if (fun _ => last) (fun d2 => ?_))))))
      rw [wI_s (p := r) (by omega)]
      refine ih (r + 1) (by omega) (fun x x0 x1 => ?_)
      by_cases e : x = (r : Int)
      · rw [e]; exact ⟨d1, d2⟩
      · exact hx x x0 (by omega)
  exact loop FU 0 (by omega) (fun x x0 x1 => by omega)
/-- a way is added -/
theorem q_addWay {x0 x1 x2 W : Nat} (ok : S.ok) (hn : S.nf = (n : Int)) (n12 : n ≤ 12) (k2 : K2 M) (sh : SHC S 4 M) (oc : ORC x0 x1 x2 M) (h0 : x0 < nOr (S.sz 0)) (h1 : x1 < nOr (S.sz 1)) (h2 : x2 < nOr (S.sz 2)) (hW : mG M 24 4 = (W : Int)) (w216 : W < 216) : pw (mX1_addWay 24 4 M) (fun q => mG q.2 24 4 = ((W + 1 : Nat) : Int) ∧ (∀ p : Nat, p < n → mG q.2 26 ((12 * W + p : Nat) : Int) = ((2 ^ (n - 1 - (tpp S (frO (ac x0 x1 x2)) (p : Int)).toNat) : Nat) : Int)) ∧ ∀ c j : Int, ¬ (c = 24 ∧ j = 4) → ¬ (c = 26 ∧ 12 * (W : Int) ≤ j ∧ j < 12 * (W : Int) + 12) → mG q.2 c j = mG M c j) := by
  have n4 := ok.2.1
  have b0 := nO_b (S.sz 0)
  have b1 := nO_b (S.sz 1)
  have b2 := nO_b (S.sz 2)
  have hA := isA_ac ok h0 h1 h2
  obtain ⟨al, _⟩ := ac_d (x0 := x0) (x1 := x1) (x2 := x2) (by omega) (by omega) (by omega)
  obtain ⟨a, ha⟩ : ∃ a, a = ac x0 x1 x2 := ⟨_, rfl⟩
  have hr := frO_ren ok al hA
  rw [← ha] at hr al hA ⊢
  obtain ⟨Q, hQ⟩ : ∃ Q : Int × Mem → Prop, Q = fun q => mG q.2 24 4 = ((W + 1 : Nat) : Int) ∧ (∀ p : Nat, p < n → mG q.2 26 ((12 * W + p : Nat) : Int) = ((2 ^ (n - 1 - (tpp S (frO a) (p : Int)).toNat) : Nat) : Int)) ∧ ∀ c j : Int, ¬ (c = 24 ∧ j = 4) → ¬ (c = 26 ∧ 12 * (W : Int) ≤ j ∧ j < 12 * (W : Int) + 12) → mG q.2 c j = mG M c j := ⟨_, rfl⟩
  rw [← hQ]
  -- what stands when p places are done
  obtain ⟨PD, hPD⟩ : ∃ PD : Nat → Mem → Prop, PD = fun p m => (∀ c j : Int, ¬ (c = 26 ∧ 12 * (W : Int) ≤ j ∧ j < 12 * (W : Int) + 12) → mG m c j = mG M c j) ∧ ∀ x : Nat, x < p → mG m 26 ((12 * W + x : Nat) : Int) = ((2 ^ (n - 1 - (tpp S (frO a) (x : Int)).toNat) : Nat) : Int) := ⟨_, rfl⟩
  have kp : ∀ p m, PD p m → K2 m ∧ SHC S 4 m ∧ ORC x0 x1 x2 m ∧ mG m 24 4 = (W : Int) := fun p m h => by
    rw [hPD] at h
    have g := h.1
    exact ⟨k2.kp (fun x hx => g _ _ (by have c := cst_out x hx; omega)), sh.kp (fun c j c0 c1 => g c j (by omega)), ⟨(g 25 0 (by omega)).trans oc.1, (g 25 1 (by omega)).trans oc.2.1, (g 25 2 (by omega)).trans oc.2.2⟩, (g 24 4 (by omega)).trans hW⟩
  have l4 : ∀ (fu r sr : Nat) (m : Mem), (r : Int) ≤ S.nr → S.st r = (sr : Int) → PD sr m → pw (mX1_addWay_4 fu 24 4 (sr : Int) (r : Int) m) Q := by
    intro fu
    induction fu with
    | zero => intro r sr m _ _ _; exact p_none
    | succ fu ih =>
      intro r sr m hr2 hs pd
      show pw (bX1_addWay_4 (mX1_addWay_4 fu) 24 4 (sr : Int) (r : Int) m) Q
      obtain ⟨km, sm, _, wm⟩ := kp sr m pd
      unfold bX1_addWay_4
      refine p_gFc (ji := 6) rfl sm.1.2.2.2.2.2.2.1 (p_if (fun c => ?_) (fun c => ?_))
      · refine p_gFc (ji := 4) rfl wm (p_pF (ji := 4) rfl (fun m2 hm2 => p_ret ?_))
        rw [wI_s (p := W) (by omega), if_neg (by omega)] at hm2
        rw [hPD] at pd
        have er : r = S.nr.toNat := by omega
        have nfd : S.nf = S.st S.nr.toNat := rfl
        rw [← er, hs, hn] at nfd
        rw [hQ]
        refine ⟨st_eq hm2, fun p hp => ?_, fun c j u v => (st_ne hm2 u).trans (pd.1 c j v)⟩
        exact (st_ne hm2 (fun w => absurd w.1 (by decide))).trans (pd.2 p (by omega))
      have r1 : (r : Int) < S.nr := by omega
      obtain ⟨k1, k2'⟩ := ok.2.2 (r : Int) (by omega) r1
      have z2 := zv_c ok (r := (r : Int)) (by omega) r1
      have z1 := ok.zv (k := S.k1 r) (by omega)
      have s9 := ok.st9 (r := (r : Int)) (by omega) r1
      rw [Int.toNat_natCast] at s9
      have st1 : S.st (r + 1) = S.st r + S.zv (S.k1 r) * S.zv (S.k2 r) := rfl
      have mn := ok.mono (a := r + 1) (S.nr.toNat - (r + 1)) (by omega)
      rw [show r + 1 + (S.nr.toNat - (r + 1)) = S.nr.toNat by omega] at mn
      have nfd : S.nf = S.st S.nr.toNat := rfl
      rw [← nfd, hn, st1, hs] at mn
      have zz : (S.zv (S.k2 r)).toNat = S.zv (S.k2 r) := by omega
      obtain ⟨z, hz⟩ := Int.eq_ofNat_of_zero_le (show 0 ≤ S.zv (S.k2 r) by omega)
      obtain ⟨h, hh⟩ := Int.eq_ofNat_of_zero_le (show 0 ≤ S.zv (S.k1 r) by omega)
      rw [hz, hh] at mn
      rw [hz] at z2
      have hz3 : z = 1 ∨ z = 2 ∨ z = 3 := by omega
      have hh3 : 1 ≤ h ∧ h ≤ 3 := by omega
      obtain ⟨_, e2, e3, e4, e5⟩ := sm.2.2 (r : Int) (by omega) r1
      rw [Int.toNat_natCast, hs] at e3
      have cells : ∀ p m', PD p m' → mG m' (4 + 2) (r : Int) = S.k1 r ∧ mG m' (4 + 4) (r : Int) = (sr : Int) ∧ mG m' (4 + 5) (r : Int) = (h : Int) ∧ mG m' (4 + 6) (r : Int) = (z : Int) := fun p m' h' => by
        obtain ⟨_, s', _, _⟩ := kp p m' h'
        obtain ⟨a1, a2, a3, a4, a5⟩ := s'.2.2 (r : Int) (by omega) r1
        rw [Int.toNat_natCast, hs] at a3
        exact ⟨a1, a3, a4.trans hh, a5.trans hz⟩
      refine p_gFc (ji := 2) rfl sm.1.2.2.1 (p_aGc e2 ?_)
      have l23 : ∀ (fu2 i : Nat) (m2 : Mem), i ≤ h → PD (sr + i * z) m2 → pw (mX1_addWay_23 (mX1_addWay_4 fu) fu2 24 4 ((sr + i * z : Nat) : Int) (r : Int) (S.k2 r) (i : Int) m2) Q := by
        intro fu2
        induction fu2 with
        | zero => intro i m2 _ _; exact p_none
        | succ fu2 ih2 =>
          intro i m2 hi pd2
          show pw (bX1_addWay_23 (mX1_addWay_4 fu) (mX1_addWay_23 (mX1_addWay_4 fu) fu2) 24 4 _ (r : Int) (S.k2 r) (i : Int) m2) Q
          obtain ⟨km2, sm2, oc2, wm2⟩ := kp _ m2 pd2
          obtain ⟨a1, a3, a4, a5⟩ := cells _ m2 pd2
          unfold bX1_addWay_23
          refine p_gFc (ji := 4) rfl sm2.1.2.2.2.2.1 (p_aGc a4 (p_if (fun c2 => ?_) (fun c2 => ?_)))
          · rw [wI_s (p := r) (by omega)]
            have ei : i = h := by omega
            rw [ei] at pd2 ⊢
            refine ih (r + 1) (sr + h * z) m2 (by omega) ?_ pd2
            rw [st1, hs, hh, hz]
            exact (by rw [Int.natCast_add, Int.natCast_mul])
          have ih3 : i < h := by omega
          refine p_gFc (ji := 1) rfl sm2.1.2.1 (p_aGc a1 (p_gK (p_call (q_ordered (i := i) km2 oc2 (by omega) (by omega) (by omega) (by omega) (by omega)) (fun v m3 y => ?_))))
          obtain ⟨y1, y2⟩ := y
          replace y1 : m3 = m2 := y1
          replace y2 : v = frO (ac x0 x1 x2) (S.k1 r) (i : Int) := y2
          rw [← ha] at y2
          subst y1; subst y2
          have fi := (ren_in ok hr (r := (r : Int)) (i := (i : Int)) (j := 0) (by omega) r1 ⟨⟨by omega, by omega⟩, by unfold SH.col; split <;> omega⟩).1.1
          rw [hh] at fi
          obtain ⟨u, hu⟩ := Int.eq_ofNat_of_zero_le fi.1
          rw [hu] at fi ⊢
          have uz : (u : Int) * (z : Int) = ((u * z : Nat) : Int) := (Int.natCast_mul u z).symm
          refine p_gFc (ji := 5) rfl sm2.1.2.2.2.2.2.1 (p_aGc a5 ?_)
          rw [uz, wI_id (x := ((u * z : Nat) : Int)) (by omega) (by rcases hz3 with e | e | e <;> subst e <;> omega)]
          have l58 : ∀ (fu3 j : Nat) (m4 : Mem), j ≤ z → PD (sr + i * z + j) m4 → pw (mX1_addWay_58 (mX1_addWay_4 fu) (mX1_addWay_23 (mX1_addWay_4 fu) fu2) fu3 24 4 ((sr + i * z + j : Nat) : Int) (r : Int) (S.k2 r) (i : Int) ((u * z : Nat) : Int) (j : Int) m4) Q := by
            intro fu3
            induction fu3 with
            | zero => intro j m4 _ _; exact p_none
            | succ fu3 ih4 =>
              intro j m4 hj pd4
              show pw (bX1_addWay_58 (mX1_addWay_4 fu) (mX1_addWay_23 (mX1_addWay_4 fu) fu2) (mX1_addWay_58 (mX1_addWay_4 fu) (mX1_addWay_23 (mX1_addWay_4 fu) fu2) fu3) 24 4 _ (r : Int) (S.k2 r) (i : Int) _ (j : Int) m4) Q
              obtain ⟨km4, sm4, oc4, wm4⟩ := kp _ m4 pd4
              obtain ⟨a1, a3, a4, a5⟩ := cells _ m4 pd4
              unfold bX1_addWay_58
              refine p_gFc (ji := 5) rfl sm4.1.2.2.2.2.2.1 (p_aGc a5 (p_if (fun c3 => ?_) (fun c3 => ?_)))
              · have ej : j = z := by omega
                rw [ej] at pd4 ⊢
                rw [wI_s (p := i) (by omega), show sr + i * z + z = sr + (i + 1) * z by rw [Nat.add_mul, Nat.one_mul, Nat.add_assoc]]
                rw [show sr + i * z + z = sr + (i + 1) * z by rw [Nat.add_mul, Nat.one_mul, Nat.add_assoc]] at pd4
                exact ih2 (i + 1) m4 (by omega) pd4
              have jz : j < z := by omega
              have cj : S.col r (j : Int) = (j : Int) := by
                unfold SH.col
                by_cases e : S.k2 r = -1
                · have z1' : S.zv (S.k2 r) = 1 := by unfold SH.zv; rw [if_pos e]
                  rw [if_pos e]; omega
                · rw [if_neg e]
              have inn : S.inr r (i : Int) (j : Int) := ⟨⟨by omega, by omega⟩, by rw [cj]; exact ⟨by omega, by omega⟩⟩
              have ea : S.at' r (i : Int) (j : Int) = ((sr + i * z + j : Nat) : Int) := by
                unfold SH.at'
                rw [cj, Int.toNat_natCast, hs, hz]
                rcases hz3 with e | e | e <;> subst e <;> omega
              have pn : sr + i * z + j < n := by
                rcases hz3 with e | e | e <;> subst e <;> omega
              have tp := tpp_at (f := frO a) ok (by omega) r1 inn
              rw [ea] at tp
              obtain ⟨c1, _, _⟩ := ren_in ok hr (by omega) r1 inn
              have pos := ok.pos (by omega) r1 c1
              rw [Int.toNat_natCast, hs] at pos
              obtain ⟨t, ht⟩ := Int.eq_ofNat_of_zero_le (show 0 ≤ S.at' r (frO a (S.k1 r) i) (frO a (S.k2 r) j) by omega)
              rw [ht] at tp pos
              have go : ∀ v : Int, v = (if S.k2 r = -1 then 0 else frO a (S.k2 r) j) → pw (mX1_addWay_96 (mX1_addWay_4 fu) (mX1_addWay_23 (mX1_addWay_4 fu) fu2) (mX1_addWay_58 (mX1_addWay_4 fu) (mX1_addWay_23 (mX1_addWay_4 fu) fu2) fu3) 24 4 ((sr + i * z + j : Nat) : Int) (r : Int) (S.k2 r) (i : Int) ((u * z : Nat) : Int) (j : Int) (wI ((sr : Int) + ((u * z : Nat) : Int))) v m4) Q := fun v hv => by
                have et : (sr : Int) + ((u * z : Nat) : Int) + v = (t : Int) := by
                  rw [← ht, hv]
                  unfold SH.at' SH.col
                  rw [Int.toNat_natCast, hs, hz, hu, Int.natCast_mul, Int.mul_comm (u : Int) (z : Int)]
                have uzl : u * z ≤ 9 := by rcases hz3 with e | e | e <;> subst e <;> omega
                unfold mX1_addWay_96 mX1_addWay_137
                refine p_gFc (ji := 4) rfl wm4 (p_it0 (by omega) (p_it0 (by omega) (p_gFc (ji := 1) rfl km4.c24_1 (p_gFc (ji := 4) rfl wm4 (p_gK ?_)))))
                rw [wI_id (x := (sr : Int) + ((u * z : Nat) : Int)) (by omega) (by omega), et, wI_id (x := (t : Int)) (by omega) (by omega)]
                refine p_call (q_bit (p := (t : Int)) sm4 ok ⟨by omega, by omega⟩) (fun b m5 y => ?_)
                obtain ⟨y1, y2⟩ := y
                replace y1 : m5 = m4 := y1
                replace y2 : b = S.nf - 1 - (t : Int) := y2
                subst y1
                rw [hn, show (n : Int) - 1 - (t : Int) = ((n - 1 - t : Nat) : Int) by omega] at y2
                subst y2
                refine p_aS (fun m6 h6 => ?_)
                rw [ishl1 (n - 1 - t) (by omega), show (2 : Int) ^ (n - 1 - t) = ((2 ^ (n - 1 - t) : Nat) : Int) by simp, wI_id (x := (W : Int) * 12) (by omega) (by omega), wI_id (x := (W : Int) * 12 + ((sr + i * z + j : Nat) : Int)) (by omega) (by omega), show (W : Int) * 12 + ((sr + i * z + j : Nat) : Int) = ((12 * W + (sr + i * z + j) : Nat) : Int) by omega] at h6
                rw [wI_s (p := sr + i * z + j) (by omega), wI_s (p := j) (by omega)]
                refine ih4 (j + 1) m6 (by omega) ?_
                rw [hPD] at pd4 ⊢
                refine ⟨fun c j' x => (st_ne h6 (fun w => x ⟨w.1, by omega, by omega⟩)).trans (pd4.1 c j' x), fun x hx => ?_⟩
                by_cases e : x = sr + i * z + j
                · rw [e, st_eq h6, tp, Int.toNat_natCast]
                · rw [st_ne h6 (fun w => e (by have := w.2; omega))]
                  exact pd4.2 x (by omega)
              refine p_gFc (ji := 3) rfl sm4.1.2.2.2.1 (p_aGc a3 (p_if (fun c4 => go 0 ?_) (fun c4 => p_gK (p_call (q_ordered (i := j) km4 oc4 (by omega) (by omega) (by omega) (by omega) (by omega)) (fun v m5 y => ?_)))))
              · rw [if_pos c4]
              · obtain ⟨y1, y2⟩ := y
                replace y1 : m5 = m4 := y1
                replace y2 : v = frO (ac x0 x1 x2) (S.k2 r) (j : Int) := y2
                rw [← ha] at y2
                subst y1
                exact go v (by rw [if_neg c4]; exact y2)
          exact l58 FU 0 m3 (by omega) pd2
      have := l23 FU 0 m (by omega) (by rw [Nat.zero_mul, Nat.add_zero]; exact pd)
      rw [Nat.zero_mul, Nat.add_zero] at this
      exact this
  unfold mX1_addWay
  refine l4 FU 0 0 M (by omega) rfl ?_
  rw [hPD]
  exact ⟨fun _ _ _ => rfl, fun x hx => absurd hx (by omega)⟩
end
