/-! ===== the reference's simple calls ===== -/
theorem pr_known {n : Nat} {l1 l2 l3 l4 : Int} {M : Mem} (iM : I n M) : pw (mX9_known 126 l1 l2 l3 l4 M) (fun q => (q.1 = 0 ∧ ¬ (mG M 146 0 < 40 ∧ (0 ≤ l1 ∧ l1 < mG M 134 0) ∧ (0 ≤ l2 ∧ l2 ≤ 2) ∧ (mG M 136 l1 = -1 ∨ (0 ≤ l3 ∧ l3 ≤ 2))) ∧ ∀ b j : Int, ¬ b = 126 → mG q.2 b j = mG M b j) ∨ (q.1 = 1 ∧ (mG M 146 0 < 40 ∧ (0 ≤ l1 ∧ l1 < mG M 134 0) ∧ (0 ≤ l2 ∧ l2 ≤ 2) ∧ (mG M 136 l1 = -1 ∨ (0 ≤ l3 ∧ l3 ≤ 2))) ∧ mG q.2 146 0 = mG M 146 0 + 1 ∧ mG q.2 147 (mG M 146 0) = 9 * l1 + 3 * l2 + (if mG M 136 l1 = -1 then 0 else l3) ∧ mG q.2 148 (mG M 146 0) = (if l4 = 0 then 0 else 1) ∧ mG q.2 149 (mG M 146 0) = mG M 131 0 ∧ ∀ b j : Int, ¬ b = 126 → ¬ (b = 146 ∧ j = 0) → ¬ (147 ≤ b ∧ b ≤ 149 ∧ j = mG M 146 0) → mG q.2 b j = mG M b j)) := by
  have rr := rd_Mrelations (i := 0) iM (a := 134) rfl
  have rk := rd_Mknowns (i := 0) iM (a := 146) rfl
  obtain ⟨K, hK⟩ : ∃ K, mG M 146 0 = K := ⟨_, rfl⟩
  obtain ⟨R, hR⟩ : ∃ R, mG M 134 0 = R := ⟨_, rfl⟩
  rw [hK] at rk ⊢
  rw [hR] at rr ⊢
  unfold mX9_known
  refine p_pF (ji := 0) rfl (fun M1 h1 => ?_)
  have g1 : ∀ b j : Int, ¬ b = 126 → mG M1 b j = mG M b j := fun b j hb => st_ne h1 (fun z => hb z.1)
  have f1 : ∀ j : Int, ¬ j = 0 → mG M1 126 j = mG M 126 j := fun j hj => st_ne h1 (fun z => hj z.2)
  have t54 : K < 40 → (0 ≤ l1 ∧ l1 < R) → (0 ≤ l2 ∧ l2 ≤ 2) → (mG M 136 l1 = -1 ∨ (0 ≤ l3 ∧ l3 ≤ 2)) → pw (mX9_known_54 126 l1 l2 l3 l4 M1) (fun q => (q.1 = 0 ∧ ¬ (K < 40 ∧ (0 ≤ l1 ∧ l1 < R) ∧ (0 ≤ l2 ∧ l2 ≤ 2) ∧ (mG M 136 l1 = -1 ∨ (0 ≤ l3 ∧ l3 ≤ 2))) ∧ ∀ b j : Int, ¬ b = 126 → mG q.2 b j = mG M b j) ∨ (q.1 = 1 ∧ (K < 40 ∧ (0 ≤ l1 ∧ l1 < R) ∧ (0 ≤ l2 ∧ l2 ≤ 2) ∧ (mG M 136 l1 = -1 ∨ (0 ≤ l3 ∧ l3 ≤ 2))) ∧ mG q.2 146 0 = K + 1 ∧ mG q.2 147 K = 9 * l1 + 3 * l2 + (if mG M 136 l1 = -1 then 0 else l3) ∧ mG q.2 148 K = (if l4 = 0 then 0 else 1) ∧ mG q.2 149 K = mG M 131 0 ∧ ∀ b j : Int, ¬ b = 126 → ¬ (b = 146 ∧ j = 0) → ¬ (147 ≤ b ∧ b ≤ 149 ∧ j = K) → mG q.2 b j = mG M b j)) := by
    intro hk hl1 hl2 hl3
    have w1 := wI_id (x := K + 1) (by omega) (by omega)
    have w2 := wI_id (x := 9 * l1) (by omega) (by omega)
    have w3 := wI_id (x := 3 * l2) (by omega) (by omega)
    have w4 := wI_id (x := 9 * l1 + 3 * l2) (by omega) (by omega)
    have a20 : mG M1 126 20 = 146 := (f1 20 (by decide)).trans (rd_Model_20 iM (a := 126) rfl)
    have hK1 : mG M1 146 0 = K := (g1 146 0 (by decide)).trans hK
    unfold mX9_known_54
    refine p_gFc (ji := 20) rfl a20 (p_aGc hK1 (p_gFc (ji := 20) rfl a20 (p_aGc hK1 ?_)))
    rw [w1, w2, w3, w4]
    refine p_aS (fun M2 h2 => ?_)
    have f2 : ∀ j : Int, ¬ j = 0 → mG M2 126 j = mG M 126 j := fun j hj => (st_ne h2 (fun z => absurd z.1 (by decide))).trans (f1 j hj)
    have g2 : ∀ b j : Int, ¬ b = 126 → ¬ b = 146 → mG M2 b j = mG M b j := fun b j x y => (st_ne h2 (fun z => y z.1)).trans (g1 b j x)
    refine p_gFc (ji := 21) (r := 147) rfl ((f2 21 (by decide)).trans (rd_Model_21 iM (a := 126) rfl)) (p_gFc (ji := 10) rfl ((f2 10 (by decide)).trans (rd_Model_10 iM (a := 126) rfl)) (p_aGc (g2 136 l1 (by decide) (by decide)) ?_))
    have t101 : ∀ s3 : Int, (s3 = if mG M 136 l1 = -1 then 0 else l3) → pw (mX9_known_101 126 l4 K 147 K (9 * l1 + 3 * l2) s3 M2) (fun q => (q.1 = 0 ∧ ¬ (K < 40 ∧ (0 ≤ l1 ∧ l1 < R) ∧ (0 ≤ l2 ∧ l2 ≤ 2) ∧ (mG M 136 l1 = -1 ∨ (0 ≤ l3 ∧ l3 ≤ 2))) ∧ ∀ b j : Int, ¬ b = 126 → mG q.2 b j = mG M b j) ∨ (q.1 = 1 ∧ (K < 40 ∧ (0 ≤ l1 ∧ l1 < R) ∧ (0 ≤ l2 ∧ l2 ≤ 2) ∧ (mG M 136 l1 = -1 ∨ (0 ≤ l3 ∧ l3 ≤ 2))) ∧ mG q.2 146 0 = K + 1 ∧ mG q.2 147 K = 9 * l1 + 3 * l2 + (if mG M 136 l1 = -1 then 0 else l3) ∧ mG q.2 148 K = (if l4 = 0 then 0 else 1) ∧ mG q.2 149 K = mG M 131 0 ∧ ∀ b j : Int, ¬ b = 126 → ¬ (b = 146 ∧ j = 0) → ¬ (147 ≤ b ∧ b ≤ 149 ∧ j = K) → mG q.2 b j = mG M b j)) := by
      intro s3 hs3
      have rs3 : 0 ≤ s3 ∧ s3 ≤ 2 := by rw [hs3]; split <;> omega
      have w5 := wI_id (x := 9 * l1 + 3 * l2 + s3) (by omega) (by omega)
      rw [← hs3]
      unfold mX9_known_101
      rw [w5]
      refine p_aS (fun M3 h3 => ?_)
      have f3 : ∀ j : Int, ¬ j = 0 → mG M3 126 j = mG M 126 j := fun j hj => (st_ne h3 (fun z => absurd z.1 (by decide))).trans (f2 j hj)
      have t119 : ∀ s2 : Int, s2 = (if l4 = 0 then 0 else 1) → pw (mX9_known_119 126 K 148 K s2 M3) (fun q => (q.1 = 0 ∧ ¬ (K < 40 ∧ (0 ≤ l1 ∧ l1 < R) ∧ (0 ≤ l2 ∧ l2 ≤ 2) ∧ (mG M 136 l1 = -1 ∨ (0 ≤ l3 ∧ l3 ≤ 2))) ∧ ∀ b j : Int, ¬ b = 126 → mG q.2 b j = mG M b j) ∨ (q.1 = 1 ∧ (K < 40 ∧ (0 ≤ l1 ∧ l1 < R) ∧ (0 ≤ l2 ∧ l2 ≤ 2) ∧ (mG M 136 l1 = -1 ∨ (0 ≤ l3 ∧ l3 ≤ 2))) ∧ mG q.2 146 0 = K + 1 ∧ mG q.2 147 K = 9 * l1 + 3 * l2 + s3 ∧ mG q.2 148 K = (if l4 = 0 then 0 else 1) ∧ mG q.2 149 K = mG M 131 0 ∧ ∀ b j : Int, ¬ b = 126 → ¬ (b = 146 ∧ j = 0) → ¬ (147 ≤ b ∧ b ≤ 149 ∧ j = K) → mG q.2 b j = mG M b j)) := by
        intro s2 hs2
        rw [← hs2]
        unfold mX9_known_119
        refine p_aS (fun M4 h4 => ?_)
        have f4 : ∀ j : Int, ¬ j = 0 → mG M4 126 j = mG M 126 j := fun j hj => (st_ne h4 (fun z => absurd z.1 (by decide))).trans (f3 j hj)
        have e131 : mG M4 131 0 = mG M 131 0 := by rw [st_ne h4 (fun z => absurd z.1 (by decide)), st_ne h3 (fun z => absurd z.1 (by decide))]; exact g2 131 0 (by decide) (by decide)
        refine p_gFc (ji := 23) (r := 149) rfl ((f4 23 (by decide)).trans (rd_Model_23 iM (a := 126) rfl)) (p_gFc (ji := 5) rfl ((f4 5 (by decide)).trans (rd_Model_5 iM (a := 126) rfl)) (p_aGc e131 (p_aS (fun M5 h5 => ?_))))
        refine p_ret (Or.inr ⟨rfl, ⟨hk, hl1, hl2, hl3⟩, ?_, ?_, ?_, st_eq h5, fun b j x y z => ?_⟩)
        · rw [st_ne h5 (fun z => absurd z.1 (by decide)), st_ne h4 (fun z => absurd z.1 (by decide)), st_ne h3 (fun z => absurd z.1 (by decide))]; exact st_eq h2
        · rw [st_ne h5 (fun z => absurd z.1 (by decide)), st_ne h4 (fun z => absurd z.1 (by decide))]; exact st_eq h3
        · rw [st_ne h5 (fun z => absurd z.1 (by decide))]; exact st_eq h4
        · rw [st_ne h5 (fun u => z (by omega)), st_ne h4 (fun u => z (by omega)), st_ne h3 (fun u => z (by omega)), st_ne h2 y]; exact g1 b j x
      refine p_gFc (ji := 22) (r := 148) rfl ((f3 22 (by decide)).trans (rd_Model_22 iM (a := 126) rfl)) (p_if (fun c => t119 0 (by rw [if_pos c])) (fun c => t119 1 (by rw [if_neg c])))
    exact p_if (fun c => t101 0 (by rw [if_pos c])) (fun c => t101 l3 (by rw [if_neg c]))
  refine p_gFc (ji := 20) rfl ((f1 20 (by decide)).trans (rd_Model_20 iM (a := 126) rfl)) (p_aGc ((g1 146 0 (by decide)).trans hK) (p_if (fun c => p_ret (Or.inl ⟨rfl, fun z => by have := z.1; omega, g1⟩)) (fun c => p_gK ?_)))
  refine p_call (P := fun q => q.2 = M1 ∧ ((q.1 = 0 ∧ ¬ (0 ≤ l1 ∧ l1 < R)) ∨ (q.1 = 1 ∧ 0 ≤ l1 ∧ l1 < R))) ?_ ?_
  · unfold mX9_isRelation
    refine p_gFc (ji := 8) rfl ((f1 8 (by decide)).trans (rd_Model_8 iM (a := 126) rfl)) (p_aGc ((g1 134 0 (by decide)).trans hR) ?_)
    have w := wI_id (x := R - 1) (by omega) (by omega)
    rw [w]
    refine p_call pr_in ?_
    rintro r m ⟨e, h⟩
    have h : (r = 1 ∧ 0 ≤ l1 ∧ l1 ≤ R - 1) ∨ (r = 0 ∧ ¬ (0 ≤ l1 ∧ l1 ≤ R - 1)) := h
    exact p_zR (fun _ => p_ret ⟨e, by show (r = 0 ∧ _) ∨ (r = 1 ∧ _); omega⟩)
  · rintro r m ⟨e, h⟩
    have e : m = M1 := e
    have h : (r = 0 ∧ ¬ (0 ≤ l1 ∧ l1 < R)) ∨ (r = 1 ∧ 0 ≤ l1 ∧ l1 < R) := h
    subst e
    dsimp only
    refine p_if (fun c1 => p_ret (Or.inl ⟨rfl, fun z => by have := z.2.1; omega, g1⟩)) (fun c1 => ?_)
    refine p_call pr_in ?_
    rintro r2 m2 ⟨e2, h2⟩
    have e2 : m2 = m := e2
    have h2 : (r2 = 1 ∧ 0 ≤ l2 ∧ l2 ≤ 2) ∨ (r2 = 0 ∧ ¬ (0 ≤ l2 ∧ l2 ≤ 2)) := h2
    subst e2
    dsimp only
    refine p_if (fun c2 => p_ret (Or.inl ⟨rfl, fun z => by have := z.2.2.1; omega, g1⟩)) (fun c2 => ?_)
    refine p_gFc (ji := 10) rfl ((f1 10 (by decide)).trans (rd_Model_10 iM (a := 126) rfl)) (p_aGc (g1 136 l1 (by decide)) (p_if (fun c3 => t54 (by omega) (by omega) (by omega) (Or.inl c3)) (fun c3 => ?_)))
    refine p_call pr_in ?_
    rintro r4 m4 ⟨e4, h4⟩
    have e4 : m4 = m2 := e4
    have h4 : (r4 = 1 ∧ 0 ≤ l3 ∧ l3 ≤ 2) ∨ (r4 = 0 ∧ ¬ (0 ≤ l3 ∧ l3 ≤ 2)) := h4
    subst e4
    dsimp only
    exact p_if (fun c4 => p_ret (Or.inl ⟨rfl, fun z => by have := z.2.2.2.resolve_left c3; omega, g1⟩)) (fun c4 => t54 (by omega) (by omega) (by omega) (Or.inr (by omega)))
/-- four bytes come behind the reference's tape -/
def AB9 (v T : Int) (M M' : Mem) : Prop := mG M' 128 0 = T + 4 ∧ (∀ j : Int, mG M' 127 j = if T ≤ j ∧ j < T + 4 then i2b (ishr v (24 - 8 * (j - T))) else mG M 127 j) ∧ ∀ b j : Int, ¬ (b = 128 ∧ j = 0) → ¬ b = 127 → mG M' b j = mG M b j
theorem pr_four {v T : Int} {M : Mem} (a1 : mG M 126 1 = 127) (a2 : mG M 126 2 = 128) (hT : mG M 128 0 = T) (h0 : 0 ≤ T) (h1 : T + 4 ≤ 400) : pw (mX9_four 126 v M) (fun q => AB9 v T M q.2) := by
  have key : ∀ (fu : Nat) (k : Int) (M' : Mem), 0 ≤ k → k ≤ 4 → mG M' 128 0 = T + k → (∀ j : Int, mG M' 127 j = if T ≤ j ∧ j < T + k then i2b (ishr v (24 - 8 * (j - T))) else mG M 127 j) → (∀ b j : Int, ¬ (b = 128 ∧ j = 0) → ¬ b = 127 → mG M' b j = mG M b j) → pw (mX9_four_3 fu 126 v (24 - 8 * k) M') (fun q => AB9 v T M q.2) := by
    intro fu
    induction fu with
    | zero => intro k M' _ _ _ _ _; exact p_none
    | succ fu ih =>
      intro k M' b0 b1 e5 e13 fr
      show pw (bX9_four_3 (mX9_four_3 fu) 126 v (24 - 8 * k) M') _
      unfold bX9_four_3
      refine p_if (fun c => ?_) (fun c => ?_)
      · have ek : k = 4 := by omega
        subst ek
        exact p_ret ⟨e5, e13, fr⟩
      · have w1 := wI_id (x := T + k + 1) (by omega) (by omega)
        have w2 := wI_id (x := 24 - 8 * k + (-8)) (by omega) (by omega)
        have c1 : mG M' 126 1 = 127 := (fr 126 1 (by omega) (by decide)).trans a1
        have c2 : mG M' 126 2 = 128 := (fr 126 2 (by omega) (by decide)).trans a2
        refine p_gFc (ji := 1) rfl c1 (p_gFc (ji := 2) rfl c2 (p_aGc e5 (p_aSB (fun M1 h1 => ?_))))
        refine p_gFc (ji := 2) rfl ((st_ne h1 (fun z => absurd z.1 (by decide))).trans c2) (p_aGc ((st_ne h1 (fun z => absurd z.1 (by decide))).trans e5) ?_)
        rw [w1]
        refine p_aS (fun M2 h2 => ?_)
        rw [w2, show 24 - 8 * k + (-8) = 24 - 8 * (k + 1) by omega]
        refine ih (k + 1) M2 (by omega) (by omega) ((st_eq h2).trans (by omega)) (fun j => ?_) (fun b j x y => ?_)
        · rw [st_ne h2 (fun z => absurd z.1 (by decide))]
          by_cases e : j = T + k
          · subst e
            rw [st_eq h1, if_pos ⟨by omega, by omega⟩, show T + k - T = k by omega]
          · rw [st_ne h1 (fun z => e z.2), e13]
            by_cases e2 : T ≤ j ∧ j < T + k
            · rw [if_pos e2, if_pos ⟨e2.1, by omega⟩]
            · rw [if_neg e2, if_neg (fun z => e2 ⟨z.1, by omega⟩)]
        · rw [st_ne h2 x, st_ne h1 (fun z => y z.1)]; exact fr b j x y
  unfold mX9_four
  exact key FU 0 M (by decide) (by decide) (by omega) (fun j => by rw [if_neg (fun z => by omega)]) (fun _ _ _ _ => rfl)
theorem pr_feed {n : Nat} {v1 v2 v3 v4 v5 T : Int} {M : Mem} (iM : I n M) (hT : mG M 128 0 = T) : pw (mX9_feed 126 v1 v2 v3 v4 v5 M) (fun q => (q.1 = -1 ∧ 400 < T + 20 ∧ ∀ b j : Int, ¬ b = 126 → mG q.2 b j = mG M b j) ∨ (q.1 = T + 20 ∧ T + 20 ≤ 400 ∧ mG q.2 128 0 = T + 20 ∧ (∀ j : Int, mG q.2 127 j = if T ≤ j ∧ j < T + 20 then i2b (fb v1 v2 v3 v4 v5 (j - T)) else mG M 127 j) ∧ ∀ b j : Int, ¬ b = 126 → ¬ (b = 128 ∧ j = 0) → ¬ b = 127 → mG q.2 b j = mG M b j)) := by
  have r5 := rd_Msize (i := 0) iM (a := 128) rfl
  rw [hT] at r5
  have w := wI_id (x := T + 20) (by omega) (by omega)
  unfold mX9_feed
  refine p_pF (ji := 0) rfl (fun M0 h0 => ?_)
  have g0 : ∀ b j : Int, ¬ b = 126 → mG M0 b j = mG M b j := fun b j hb => st_ne h0 (fun z => hb z.1)
  have f0 : ∀ j : Int, ¬ j = 0 → mG M0 126 j = mG M 126 j := fun j hj => st_ne h0 (fun z => hj z.2)
  have a1 : mG M0 126 1 = 127 := (f0 1 (by decide)).trans (rd_Model_1 iM (a := 126) rfl)
  have a2 : mG M0 126 2 = 128 := (f0 2 (by decide)).trans (rd_Model_2 iM (a := 126) rfl)
  have hT0 : mG M0 128 0 = T := (g0 128 0 (by decide)).trans hT
  refine p_gFc (ji := 2) rfl a2 (p_aGc hT0 ?_)
  rw [w]
  refine p_if (fun c => ?_) (fun c => p_ret (Or.inl ⟨rfl, by omega, g0⟩))
  refine p_gK (p_call (pr_four a1 a2 hT0 r5.1 (by omega)) ?_)
  rintro r1 m1 ⟨t1, b1, f1⟩
  have t1 : mG m1 128 0 = T + 4 := t1
  refine p_gK (p_call (pr_four ((f1 126 1 (by omega) (by decide)).trans a1) ((f1 126 2 (by omega) (by decide)).trans a2) t1 (by omega) (by omega)) ?_)
  rintro r2 m2 ⟨t2, b2, f2⟩
  have t2 : mG m2 128 0 = T + 4 + 4 := t2
  have g2 : ∀ b j : Int, ¬ (b = 128 ∧ j = 0) → ¬ b = 127 → mG m2 b j = mG M0 b j := fun b j x y => (f2 b j x y).trans (f1 b j x y)
  refine p_gK (p_call (pr_four ((g2 126 1 (by omega) (by decide)).trans a1) ((g2 126 2 (by omega) (by decide)).trans a2) t2 (by omega) (by omega)) ?_)
  rintro r3 m3 ⟨t3, b3, f3⟩
  have t3 : mG m3 128 0 = T + 4 + 4 + 4 := t3
  have g3 : ∀ b j : Int, ¬ (b = 128 ∧ j = 0) → ¬ b = 127 → mG m3 b j = mG M0 b j := fun b j x y => (f3 b j x y).trans (g2 b j x y)
  refine p_gK (p_call (pr_four ((g3 126 1 (by omega) (by decide)).trans a1) ((g3 126 2 (by omega) (by decide)).trans a2) t3 (by omega) (by omega)) ?_)
  rintro r4 m4 ⟨t4, b4, f4⟩
  have t4 : mG m4 128 0 = T + 4 + 4 + 4 + 4 := t4
  have g4 : ∀ b j : Int, ¬ (b = 128 ∧ j = 0) → ¬ b = 127 → mG m4 b j = mG M0 b j := fun b j x y => (f4 b j x y).trans (g3 b j x y)
  refine p_gK (p_call (pr_four ((g4 126 1 (by omega) (by decide)).trans a1) ((g4 126 2 (by omega) (by decide)).trans a2) t4 (by omega) (by omega)) ?_)
  rintro r5' m5 ⟨t5, b5, f5⟩
  have t5 : mG m5 128 0 = T + 4 + 4 + 4 + 4 + 4 := t5
  have g5 : ∀ b j : Int, ¬ (b = 128 ∧ j = 0) → ¬ b = 127 → mG m5 b j = mG M0 b j := fun b j x y => (f5 b j x y).trans (g4 b j x y)
  refine p_gFc (ji := 2) rfl ((g5 126 2 (by omega) (by decide)).trans a2) (p_aGc t5 ?_)
  refine p_ret (Or.inr ⟨by show T + 4 + 4 + 4 + 4 + 4 = T + 20; omega, c, by show mG m5 128 0 = T + 20; omega, fun j => ?_, fun b j x y z => (g5 b j y z).trans (g0 b j x)⟩)
  show mG m5 127 j = _
  have b1 : ∀ j : Int, mG m1 127 j = if T ≤ j ∧ j < T + 4 then i2b (ishr v1 (24 - 8 * (j - T))) else mG M0 127 j := b1
  have b2 : ∀ j : Int, mG m2 127 j = if T + 4 ≤ j ∧ j < T + 4 + 4 then i2b (ishr v2 (24 - 8 * (j - (T + 4)))) else mG m1 127 j := b2
  have b3 : ∀ j : Int, mG m3 127 j = if T + 4 + 4 ≤ j ∧ j < T + 4 + 4 + 4 then i2b (ishr v3 (24 - 8 * (j - (T + 4 + 4)))) else mG m2 127 j := b3
  have b4 : ∀ j : Int, mG m4 127 j = if T + 4 + 4 + 4 ≤ j ∧ j < T + 4 + 4 + 4 + 4 then i2b (ishr v4 (24 - 8 * (j - (T + 4 + 4 + 4)))) else mG m3 127 j := b4
  have b5 : ∀ j : Int, mG m5 127 j = if T + 4 + 4 + 4 + 4 ≤ j ∧ j < T + 4 + 4 + 4 + 4 + 4 then i2b (ishr v5 (24 - 8 * (j - (T + 4 + 4 + 4 + 4)))) else mG m4 127 j := b5
  rw [b5, b4, b3, b2, b1, g0 127 j (by decide)]
  exact feed_eq v1 v2 v3 v4 v5 T j _ (fun z => i2b z)
theorem pr_end {n : Nat} {l : Int} {M : Mem} (iM : I n M) : pw (mX9_end 126 l M) (fun q => (q.1 = -1 ∧ ¬ (0 ≤ l ∧ l ≤ mG M 128 0) ∧ ∀ b j : Int, ¬ b = 126 → mG q.2 b j = mG M b j) ∨ (q.1 = l ∧ (0 ≤ l ∧ l ≤ mG M 128 0) ∧ mG q.2 128 0 = l ∧ ∀ b j : Int, ¬ b = 126 → ¬ (b = 128 ∧ j = 0) → mG q.2 b j = mG M b j)) := by
  unfold mX9_end
  refine p_pF (ji := 0) rfl (fun M1 h1 => ?_)
  have g1 : ∀ b j : Int, ¬ b = 126 → mG M1 b j = mG M b j := fun b j hb => st_ne h1 (fun z => hb z.1)
  have a2 : mG M1 126 2 = 128 := (st_ne h1 (fun z => absurd z.2 (by decide))).trans (rd_Model_2 iM (a := 126) rfl)
  refine p_gFc (ji := 2) rfl a2 (p_aGc (g1 128 0 (by decide)) (p_call pr_in ?_))
  rintro r m ⟨e, h⟩
  have e : m = M1 := e
  have h : (r = 1 ∧ 0 ≤ l ∧ l ≤ mG M 128 0) ∨ (r = 0 ∧ ¬ (0 ≤ l ∧ l ≤ mG M 128 0)) := h
  subst e
  dsimp only
  refine p_if (fun c => p_ret (Or.inl ⟨rfl, by omega, g1⟩)) (fun c => ?_)
  exact p_gFc (ji := 2) rfl a2 (p_aS (fun M3 h3 => p_ret (Or.inr ⟨rfl, by omega, st_eq h3, fun b j x y => (st_ne h3 y).trans (g1 b j x)⟩)))
theorem pr_day {n : Nat} {l : Int} {M : Mem} (iM : I n M) : pw (mX9_day 126 l M) (fun q => (q.1 = 0 ∧ ¬ (mG M 131 0 ≤ l ∧ l ≤ 999) ∧ ∀ b j : Int, ¬ b = 126 → mG q.2 b j = mG M b j) ∨ (q.1 = 1 ∧ (mG M 131 0 ≤ l ∧ l ≤ 999) ∧ mG q.2 131 0 = l ∧ ∀ b j : Int, ¬ b = 126 → ¬ (b = 131 ∧ j = 0) → mG q.2 b j = mG M b j)) := by
  unfold mX9_day
  refine p_pF (ji := 0) rfl (fun M1 h1 => ?_)
  have g1 : ∀ b j : Int, ¬ b = 126 → mG M1 b j = mG M b j := fun b j hb => st_ne h1 (fun z => hb z.1)
  have a2 : mG M1 126 5 = 131 := (st_ne h1 (fun z => absurd z.2 (by decide))).trans (rd_Model_5 iM (a := 126) rfl)
  refine p_gFc (ji := 5) rfl a2 (p_aGc (g1 131 0 (by decide)) (p_call pr_in ?_))
  rintro r m ⟨e, h⟩
  have e : m = M1 := e
  have h : (r = 1 ∧ mG M 131 0 ≤ l ∧ l ≤ 999) ∨ (r = 0 ∧ ¬ (mG M 131 0 ≤ l ∧ l ≤ 999)) := h
  subst e
  dsimp only
  refine p_if (fun c => p_ret (Or.inl ⟨rfl, by omega, g1⟩)) (fun c => ?_)
  exact p_gFc (ji := 5) rfl a2 (p_aS (fun M3 h3 => p_ret (Or.inr ⟨rfl, by omega, st_eq h3, fun b j x y => (st_ne h3 y).trans (g1 b j x)⟩)))
theorem pr_view {n : Nat} {l : Int} {M : Mem} (iM : I n M) : pw (mX9_view 126 l M) (fun q => (q.1 = 0 ∧ ¬ (-1 ≤ l ∧ l ≤ mG M 131 0) ∧ ∀ b j : Int, ¬ b = 126 → mG q.2 b j = mG M b j) ∨ (q.1 = 1 ∧ (-1 ≤ l ∧ l ≤ mG M 131 0) ∧ mG q.2 132 0 = l ∧ ∀ b j : Int, ¬ b = 126 → ¬ (b = 132 ∧ j = 0) → mG q.2 b j = mG M b j)) := by
  unfold mX9_view
  refine p_pF (ji := 0) rfl (fun M1 h1 => ?_)
  have g1 : ∀ b j : Int, ¬ b = 126 → mG M1 b j = mG M b j := fun b j hb => st_ne h1 (fun z => hb z.1)
  have a2 : mG M1 126 5 = 131 := (st_ne h1 (fun z => absurd z.2 (by decide))).trans (rd_Model_5 iM (a := 126) rfl)
  have a6 : mG M1 126 6 = 132 := (st_ne h1 (fun z => absurd z.2 (by decide))).trans (rd_Model_6 iM (a := 126) rfl)
  refine p_gFc (ji := 5) rfl a2 (p_aGc (g1 131 0 (by decide)) (p_call pr_in ?_))
  rintro r m ⟨e, h⟩
  have e : m = M1 := e
  have h : (r = 1 ∧ -1 ≤ l ∧ l ≤ mG M 131 0) ∨ (r = 0 ∧ ¬ (-1 ≤ l ∧ l ≤ mG M 131 0)) := h
  subst e
  dsimp only
  refine p_if (fun c => p_ret (Or.inl ⟨rfl, by omega, g1⟩)) (fun c => ?_)
  exact p_gFc (ji := 6) rfl a6 (p_aS (fun M3 h3 => p_ret (Or.inr ⟨rfl, by omega, st_eq h3, fun b j x y => (st_ne h3 y).trans (g1 b j x)⟩)))
theorem pr_keep {l : Int} {M : Mem} : pw (mX9_keep 126 l M) (fun q => (q.1 = 0 ∧ ¬ (0 ≤ l ∧ l ≤ 3)) ∨ (q.1 = 1 ∧ (0 ≤ l ∧ l ≤ 3))) := by
  have key : ∀ (fu : Nat) (k : Int) (M' : Mem), pw (mX9_keep_25 fu 126 l k M') (fun q => q.1 = 1) := by
    intro fu
    induction fu with
    | zero => intro k M'; exact p_none
    | succ fu ih =>
      intro k M'
      show pw (bX9_keep_25 (mX9_keep_25 fu) 126 l k M') _
      unfold bX9_keep_25
      exact p_if (fun _ => p_ret rfl) (fun _ => p_gF (ji := 24) rfl (fun _ _ => p_gF (ji := 11) rfl (fun _ _ => p_aG (fun _ _ => p_aSZ (fun _ _ => ih _ _)))))
  unfold mX9_keep
  refine p_pF (ji := 0) rfl (fun M1 h1 => p_call pr_in ?_)
  rintro r m ⟨-, h⟩
  have h : (r = 1 ∧ 0 ≤ l ∧ l ≤ 3) ∨ (r = 0 ∧ ¬ (0 ≤ l ∧ l ≤ 3)) := h
  dsimp only
  refine p_if (fun c => p_ret (Or.inl ⟨rfl, by omega⟩)) (fun c => p_gF (ji := 25) rfl (fun _ _ => p_aSZ (fun _ _ => ?_)))
  exact p_mono (key _ _ _) (fun q hq => Or.inr ⟨hq, by omega⟩)
