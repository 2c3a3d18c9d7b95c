section
/-! ===== the simple calls, of both sides ===== -/
/-- four bytes come behind the class's tape -/
def AB (v T : Int) (M M' : Mem) : Prop := mG M' 3 5 = T + 4 ∧ (∀ j : Int, mG M' 13 j = if T ≤ j ∧ j < T + 4 then iand (ishr v (24 - 8 * (j - T))) 255 else mG M 13 j) ∧ ∀ b j : Int, ¬ (b = 3 ∧ j = 5) → ¬ b = 13 → mG M' b j = mG M b j
theorem pl_addBytes {v T : Int} {M : Mem} (c4 : mG M 3 4 = 13) (hT : mG M 3 5 = T) (h0 : 0 ≤ T) (h1 : T + 4 ≤ 400) : pw (mX6_addBytes 3 v M) (fun q => AB v T M q.2) := by
  have key : ∀ (fu : Nat) (k : Int) (M' : Mem), 0 ≤ k → k ≤ 4 → mG M' 3 5 = T + k → (∀ j : Int, mG M' 13 j = if T ≤ j ∧ j < T + k then iand (ishr v (24 - 8 * (j - T))) 255 else mG M 13 j) → (∀ b j : Int, ¬ (b = 3 ∧ j = 5) → ¬ b = 13 → mG M' b j = mG M b j) → pw (mX6_addBytes_3 fu 3 v (24 - 8 * k) M') (fun q => AB v T M q.2) := by
    intro fu
    induction fu with
    | zero => intro k M' _ _ _ _ _; exact p_none
    | succ fu ih =>
      intro k M' b0 b1 e5 e13 fr
      show pw (bX6_addBytes_3 (mX6_addBytes_3 fu) 3 v (24 - 8 * k) M') _
      unfold bX6_addBytes_3
      refine p_if (fun c => ?_) (fun c => ?_)
      · have ek : k = 4 := by omega
        subst ek
        exact p_ret ⟨e5, e13, fr⟩
      · refine p_gFc (ji := 5) rfl e5 (p_if (fun c2 => by omega) (fun c2 => ?_))
        have w1 := wI_id (x := T + k + 1) (by omega) (by omega)
        have w2 := wI_id (x := 24 - 8 * k + (-8)) (by omega) (by omega)
        refine p_gFc (ji := 4) rfl ((fr 3 4 (by omega) (by decide)).trans c4) (p_gFc (ji := 5) rfl e5 (p_aS (fun M1 h1 => ?_)))
        refine p_gFc (ji := 5) rfl ((st_ne h1 (fun z => absurd z.1 (by decide))).trans e5) ?_
        rw [w1]
        refine p_pF (ji := 5) rfl (fun M2 h2 => ?_)
        rw [w2, show 24 - 8 * k + (-8) = 24 - 8 * (k + 1) by omega]
        refine ih (k + 1) M2 (by omega) (by omega) ((st_eq h2).trans (by omega)) (fun j => ?_) (fun b j x y => ?_)
        · rw [st_ne h2 (fun z => absurd z.1 (by decide))]
          by_cases e : j = T + k
          · subst e
            rw [st_eq h1, if_pos ⟨by omega, by omega⟩, show T + k - T = k by omega]
          · rw [st_ne h1 (fun z => e z.2), e13]
            by_cases e2 : T ≤ j ∧ j < T + k
            · rw [if_pos e2, if_pos ⟨e2.1, by omega⟩]
            · rw [if_neg e2, if_neg (fun z => e2 ⟨z.1, by omega⟩)]
        · rw [st_ne h2 x, st_ne h1 (fun z => y z.1)]; exact fr b j x y
  unfold mX6_addBytes
  exact key FU 0 M (by decide) (by decide) (by omega) (fun j => by rw [if_neg (fun z => by omega)]) (fun _ _ _ _ => rfl)
/-- twenty bytes -/
def fb (v1 v2 v3 v4 v5 k : Int) : Int := let v := if k < 4 then v1 else if k < 8 then v2 else if k < 12 then v3 else if k < 16 then v4 else v5
  ishr v (24 - 8 * (k % 4))
theorem feed_eq (v1 v2 v3 v4 v5 T j x : Int) (F : Int → Int) : (if T + 4 + 4 + 4 + 4 ≤ j ∧ j < T + 4 + 4 + 4 + 4 + 4 then F (ishr v5 (24 - 8 * (j - (T + 4 + 4 + 4 + 4)))) else if T + 4 + 4 + 4 ≤ j ∧ j < T + 4 + 4 + 4 + 4 then F (ishr v4 (24 - 8 * (j - (T + 4 + 4 + 4)))) else if T + 4 + 4 ≤ j ∧ j < T + 4 + 4 + 4 then F (ishr v3 (24 - 8 * (j - (T + 4 + 4)))) else if T + 4 ≤ j ∧ j < T + 4 + 4 then F (ishr v2 (24 - 8 * (j - (T + 4)))) else if T ≤ j ∧ j < T + 4 then F (ishr v1 (24 - 8 * (j - T))) else x) = if T ≤ j ∧ j < T + 20 then F (fb v1 v2 v3 v4 v5 (j - T)) else x := by
  obtain ⟨k, rfl⟩ : ∃ k, j = T + k := ⟨j - T, by omega⟩
  have e0 : T + k - T = k := by omega
  have fb5 : 16 ≤ k → k < 20 → fb v1 v2 v3 v4 v5 k = ishr v5 (24 - 8 * (k - 16)) := fun a b => by
    unfold fb; dsimp only
    rw [if_neg (by omega), if_neg (by omega), if_neg (by omega), if_neg (by omega), show k % 4 = k - 16 by omega]
  have fb4 : 12 ≤ k → k < 16 → fb v1 v2 v3 v4 v5 k = ishr v4 (24 - 8 * (k - 12)) := fun a b => by
    unfold fb; dsimp only
    rw [if_neg (by omega), if_neg (by omega), if_neg (by omega), if_pos (by omega), show k % 4 = k - 12 by omega]
  have fb3 : 8 ≤ k → k < 12 → fb v1 v2 v3 v4 v5 k = ishr v3 (24 - 8 * (k - 8)) := fun a b => by
    unfold fb; dsimp only
    rw [if_neg (by omega), if_neg (by omega), if_pos (by omega), show k % 4 = k - 8 by omega]
  have fb2 : 4 ≤ k → k < 8 → fb v1 v2 v3 v4 v5 k = ishr v2 (24 - 8 * (k - 4)) := fun a b => by
    unfold fb; dsimp only
    rw [if_neg (by omega), if_pos (by omega), show k % 4 = k - 4 by omega]
  have fb1 : 0 ≤ k → k < 4 → fb v1 v2 v3 v4 v5 k = ishr v1 (24 - 8 * k) := fun a b => by
    unfold fb; dsimp only
    rw [if_pos (by omega), show k % 4 = k by omega]
  rw [e0]
  by_cases e5 : 16 ≤ k ∧ k < 20
  · rw [if_pos ⟨by omega, by omega⟩, if_pos ⟨by omega, by omega⟩, fb5 e5.1 e5.2, show T + k - (T + 4 + 4 + 4 + 4) = k - 16 by omega]
  rw [if_neg (fun z => e5 ⟨by omega, by omega⟩)]
  by_cases e4 : 12 ≤ k ∧ k < 16
  · rw [if_pos ⟨by omega, by omega⟩, if_pos ⟨by omega, by omega⟩, fb4 e4.1 e4.2, show T + k - (T + 4 + 4 + 4) = k - 12 by omega]
  rw [if_neg (fun z => e4 ⟨by omega, by omega⟩)]
  by_cases e3 : 8 ≤ k ∧ k < 12
  · rw [if_pos ⟨by omega, by omega⟩, if_pos ⟨by omega, by omega⟩, fb3 e3.1 e3.2, show T + k - (T + 4 + 4) = k - 8 by omega]
  rw [if_neg (fun z => e3 ⟨by omega, by omega⟩)]
  by_cases e2 : 4 ≤ k ∧ k < 8
  · rw [if_pos ⟨by omega, by omega⟩, if_pos ⟨by omega, by omega⟩, fb2 e2.1 e2.2, show T + k - (T + 4) = k - 4 by omega]
  rw [if_neg (fun z => e2 ⟨by omega, by omega⟩)]
  by_cases e1 : 0 ≤ k ∧ k < 4
  · rw [if_pos ⟨by omega, by omega⟩, if_pos ⟨by omega, by omega⟩, fb1 e1.1 e1.2]
  rw [if_neg (fun z => e1 ⟨by omega, by omega⟩), if_neg (fun z => by omega)]
theorem pl_feed {n : Nat} {v1 v2 v3 v4 v5 T : Int} {M : Mem} (iM : I n M) (hT : mG M 3 5 = T) : pw (mX8_feed 1 v1 v2 v3 v4 v5 M) (fun q => (q.1 = -1 ∧ 400 < T + 20 ∧ q.2 = M) ∨ (q.1 = T + 20 ∧ T + 20 ≤ 400 ∧ mG q.2 3 5 = T + 20 ∧ (∀ j : Int, mG q.2 13 j = if T ≤ j ∧ j < T + 20 then iand (fb v1 v2 v3 v4 v5 (j - T)) 255 else mG M 13 j) ∧ ∀ b j : Int, ¬ (b = 3 ∧ j = 5) → ¬ b = 13 → mG q.2 b j = mG M b j)) := by
  have i1 : mG M 1 1 = 3 := rd_VS_1 iM (a := 1) rfl
  have r5 := rd_Told_5 iM (a := 3) rfl
  rw [hT] at r5
  have c4 : mG M 3 4 = 13 := rd_Told_4 iM (a := 3) rfl
  have w := wI_id (x := T + 20) (by omega) (by omega)
  unfold mX8_feed
  refine p_gFc (ji := 1) rfl i1 (p_gFc (ji := 5) rfl hT ?_)
  rw [w]
  refine p_if (fun c => ?_) (fun c => p_ret (Or.inl ⟨rfl, by omega, rfl⟩))
  refine p_gFc (ji := 1) rfl i1 (p_gK (p_call (pl_addBytes c4 hT r5.1 (by omega)) ?_))
  rintro r1 m1 ⟨t1, b1, f1⟩
  have t1 : mG m1 3 5 = T + 4 := t1
  refine p_gFc (ji := 1) rfl ((f1 1 1 (by omega) (by decide)).trans i1) (p_gK (p_call (pl_addBytes ((f1 3 4 (by omega) (by decide)).trans c4) t1 (by omega) (by omega)) ?_))
  rintro r2 m2 ⟨t2, b2, f2⟩
  have t2 : mG m2 3 5 = T + 4 + 4 := t2
  have g2 : ∀ b j : Int, ¬ (b = 3 ∧ j = 5) → ¬ b = 13 → mG m2 b j = mG M b j := fun b j x y => (f2 b j x y).trans (f1 b j x y)
  refine p_gFc (ji := 1) rfl ((g2 1 1 (by omega) (by decide)).trans i1) (p_gK (p_call (pl_addBytes ((g2 3 4 (by omega) (by decide)).trans c4) t2 (by omega) (by omega)) ?_))
  rintro r3 m3 ⟨t3, b3, f3⟩
  have t3 : mG m3 3 5 = T + 4 + 4 + 4 := t3
  have g3 : ∀ b j : Int, ¬ (b = 3 ∧ j = 5) → ¬ b = 13 → mG m3 b j = mG M b j := fun b j x y => (f3 b j x y).trans (g2 b j x y)
  refine p_gFc (ji := 1) rfl ((g3 1 1 (by omega) (by decide)).trans i1) (p_gK (p_call (pl_addBytes ((g3 3 4 (by omega) (by decide)).trans c4) t3 (by omega) (by omega)) ?_))
  rintro r4 m4 ⟨t4, b4, f4⟩
  have t4 : mG m4 3 5 = T + 4 + 4 + 4 + 4 := t4
  have g4 : ∀ b j : Int, ¬ (b = 3 ∧ j = 5) → ¬ b = 13 → mG m4 b j = mG M b j := fun b j x y => (f4 b j x y).trans (g3 b j x y)
  refine p_gFc (ji := 1) rfl ((g4 1 1 (by omega) (by decide)).trans i1) (p_gK (p_call (pl_addBytes ((g4 3 4 (by omega) (by decide)).trans c4) t4 (by omega) (by omega)) ?_))
  rintro r5' m5 ⟨t5, b5, f5⟩
  have t5 : mG m5 3 5 = T + 4 + 4 + 4 + 4 + 4 := t5
  have g5 : ∀ b j : Int, ¬ (b = 3 ∧ j = 5) → ¬ b = 13 → mG m5 b j = mG M b j := fun b j x y => (f5 b j x y).trans (g4 b j x y)
  refine p_gFc (ji := 1) rfl ((g5 1 1 (by omega) (by decide)).trans i1) (p_gFc (ji := 5) rfl t5 ?_)
  refine p_ret (Or.inr ⟨by show T + 4 + 4 + 4 + 4 + 4 = T + 20; omega, c, by show mG m5 3 5 = T + 20; omega, fun j => ?_, g5⟩)
  show mG m5 13 j = _
  have b1 : ∀ j : Int, mG m1 13 j = if T ≤ j ∧ j < T + 4 then iand (ishr v1 (24 - 8 * (j - T))) 255 else mG M 13 j := b1
  have b2 : ∀ j : Int, mG m2 13 j = if T + 4 ≤ j ∧ j < T + 4 + 4 then iand (ishr v2 (24 - 8 * (j - (T + 4)))) 255 else mG m1 13 j := b2
  have b3 : ∀ j : Int, mG m3 13 j = if T + 4 + 4 ≤ j ∧ j < T + 4 + 4 + 4 then iand (ishr v3 (24 - 8 * (j - (T + 4 + 4)))) 255 else mG m2 13 j := b3
  have b4 : ∀ j : Int, mG m4 13 j = if T + 4 + 4 + 4 ≤ j ∧ j < T + 4 + 4 + 4 + 4 then iand (ishr v4 (24 - 8 * (j - (T + 4 + 4 + 4)))) 255 else mG m3 13 j := b4
  have b5 : ∀ j : Int, mG m5 13 j = if T + 4 + 4 + 4 + 4 ≤ j ∧ j < T + 4 + 4 + 4 + 4 + 4 then iand (ishr v5 (24 - 8 * (j - (T + 4 + 4 + 4 + 4)))) 255 else mG m4 13 j := b5
  rw [b5, b4, b3, b2, b1]
  exact feed_eq v1 v2 v3 v4 v5 T j _ (fun z => iand z 255)
theorem pl_end {n : Nat} {l : Int} {M : Mem} (iM : I n M) : pw (mX8_end 1 l M) (fun q => (q.1 = -1 ∧ ¬ (0 ≤ l ∧ l ≤ mG M 3 5) ∧ q.2 = M) ∨ (q.1 = l ∧ (0 ≤ l ∧ l ≤ mG M 3 5) ∧ q.2 = mS M 3 5 l)) := by
  have i1 : mG M 1 1 = 3 := rd_VS_1 iM (a := 1) rfl
  unfold mX8_end
  refine p_if (fun c => p_ret (Or.inl ⟨rfl, fun z => by omega, rfl⟩)) (fun c => ?_)
  refine p_gFc (ji := 1) rfl i1 (p_gF (ji := 5) rfl (fun v hv => p_if (fun c2 => ?_) (fun c2 => p_ret (Or.inl ⟨rfl, fun z => by omega, rfl⟩))))
  exact p_gFc (ji := 1) rfl i1 (p_pF (ji := 5) rfl (fun M1 h1 => p_ret (Or.inr ⟨rfl, ⟨by omega, by omega⟩, h1⟩)))
theorem pl_day {n : Nat} {l : Int} {M : Mem} (iM : I n M) : pw (mX8_day 1 l M) (fun q => (q.1 = 0 ∧ ¬ (mG M 3 13 ≤ l ∧ l ≤ 999) ∧ q.2 = M) ∨ (q.1 = 1 ∧ (mG M 3 13 ≤ l ∧ l ≤ 999) ∧ q.2 = mS M 3 13 l)) := by
  have i1 : mG M 1 1 = 3 := rd_VS_1 iM (a := 1) rfl
  unfold mX8_day
  refine p_gFc (ji := 1) rfl i1 (p_gF (ji := 13) rfl (fun v hv => p_if (fun c2 => p_ret (Or.inl ⟨rfl, fun z => by omega, rfl⟩)) (fun c2 => p_if (fun c3 => ?_) (fun c3 => p_ret (Or.inl ⟨rfl, fun z => by omega, rfl⟩)))))
  exact p_gFc (ji := 1) rfl i1 (p_pF (ji := 13) rfl (fun M1 h1 => p_ret (Or.inr ⟨rfl, ⟨by omega, by omega⟩, h1⟩)))
theorem pl_view {n : Nat} {l : Int} {M : Mem} (iM : I n M) : pw (mX8_view 1 l M) (fun q => (q.1 = 0 ∧ ¬ (-1 ≤ l ∧ l ≤ mG M 3 13) ∧ q.2 = M) ∨ (q.1 = 1 ∧ (-1 ≤ l ∧ l ≤ mG M 3 13) ∧ q.2 = mS M 3 14 l)) := by
  have i1 : mG M 1 1 = 3 := rd_VS_1 iM (a := 1) rfl
  unfold mX8_view
  refine p_if (fun c => p_ret (Or.inl ⟨rfl, fun z => by omega, rfl⟩)) (fun c => ?_)
  refine p_gFc (ji := 1) rfl i1 (p_gF (ji := 13) rfl (fun v hv => p_if (fun c2 => ?_) (fun c2 => p_ret (Or.inl ⟨rfl, fun z => by omega, rfl⟩))))
  exact p_gFc (ji := 1) rfl i1 (p_pF (ji := 14) rfl (fun M1 h1 => p_ret (Or.inr ⟨rfl, ⟨by omega, by omega⟩, h1⟩)))
theorem pl_keep {n : Nat} {l : Int} {M : Mem} (iM : I n M) : pw (mX8_keep 1 l M) (fun q => (q.1 = 0 ∧ ¬ (0 ≤ l ∧ l ≤ 3)) ∨ (q.1 = 1 ∧ (0 ≤ l ∧ l ≤ 3))) := by
  unfold mX8_keep
  refine p_if (fun c => p_ret (Or.inl ⟨rfl, by omega⟩)) (fun c => p_if (fun c2 => ?_) (fun c2 => p_ret (Or.inl ⟨rfl, by omega⟩)))
  refine p_gF (ji := 1) rfl (fun _ _ => p_gF (ji := 2) rfl (fun _ _ => p_gF (ji := 1) rfl (fun _ _ => p_gF (ji := 1) rfl (fun _ _ => p_aS (fun _ _ => ?_)))))
  exact p_gF (ji := 1) rfl (fun _ _ => p_gF (ji := 3) rfl (fun _ _ => p_aSZ (fun _ _ => p_ret (Or.inr ⟨rfl, by omega⟩))))
theorem pl_image {n : Nat} {l : Int} {M : Mem} (iM : I n M) : pw (mX8_image 1 l M) (fun q => (q.1 = 0 ∧ ¬ (0 ≤ l ∧ l ≤ 2) ∧ q.2 = M) ∨ (q.1 = 1 ∧ (0 ≤ l ∧ l ≤ 2) ∧ ∃ M1, CPT (75 + 17 * l) 3 M M1 ∧ q.2 = mS M1 74 l 1)) := by
  have i1 : mG M 1 1 = 3 := rd_VS_1 iM (a := 1) rfl
  unfold mX8_image
  refine p_if (fun c => p_ret (Or.inl ⟨rfl, fun z => by omega, rfl⟩)) (fun c => p_if (fun c2 => ?_) (fun c2 => p_ret (Or.inl ⟨rfl, fun z => by omega, rfl⟩)))
  have e73 : mG M 73 l = 75 + 17 * l := rd_Vimages iM (a := 73) rfl (by omega) (by omega)
  refine p_gFc (ji := 3) rfl (rd_VS_3 iM (a := 1) rfl) (p_aGc e73 (p_gFc (ji := 1) rfl i1 (p_gK ?_)))
  refine p_call (pl_tcopy iM (by unfold isTold; omega) (Or.inl rfl) (by omega)) ?_
  intro r m h
  have h : CPT (75 + 17 * l) 3 M m := h
  refine p_gFc (ji := 4) rfl ((h.2.2.2.2 1 4 (by omega)).trans (rd_VS_4 iM (a := 1) rfl)) (p_aSZ (fun M1 h1 => p_ret (Or.inr ⟨rfl, by omega, m, h, h1⟩)))
theorem pl_again {n : Nat} {l : Int} {M : Mem} (iM : I n M) : pw (mX8_again 1 l M) (fun q => (q.1 = 0 ∧ ¬ (0 ≤ l ∧ l ≤ 2 ∧ mG M 74 l = 1) ∧ q.2 = M) ∨ (q.1 = 1 ∧ (0 ≤ l ∧ l ≤ 2 ∧ mG M 74 l = 1) ∧ ∃ M1, CPT 3 (75 + 17 * l) M M1 ∧ ∀ b j : Int, ¬ b = 2 → ¬ b = 24 → mG q.2 b j = mG M1 b j)) := by
  have i1 : mG M 1 1 = 3 := rd_VS_1 iM (a := 1) rfl
  unfold mX8_again
  refine p_if (fun c => p_ret (Or.inl ⟨rfl, fun z => by omega, rfl⟩)) (fun c => p_if (fun c2 => p_ret (Or.inl ⟨rfl, fun z => by omega, rfl⟩)) (fun c2 => ?_))
  have r74 := rd_Vimaged (i := l) iM (a := 74) rfl
  refine p_gFc (ji := 4) rfl (rd_VS_4 iM (a := 1) rfl) (p_aG (fun v hv => ?_))
  have hv : mG M 74 l = v := hv
  refine p_if (fun c3 => p_ret (Or.inl ⟨rfl, fun z => by omega, rfl⟩)) (fun c3 => ?_)
  have e73 : mG M 73 l = 75 + 17 * l := rd_Vimages iM (a := 73) rfl (by omega) (by omega)
  refine p_gFc (ji := 1) rfl i1 (p_gFc (ji := 3) rfl (rd_VS_3 iM (a := 1) rfl) (p_aGc e73 (p_gK ?_)))
  refine p_call (pl_tcopy iM (Or.inl rfl) (by unfold isTold; omega) (by omega)) ?_
  intro r m h
  have h : CPT 3 (75 + 17 * l) M m := h
  refine p_gFc (ji := 0) rfl ((h.2.2.2.2 1 0 (by omega)).trans (rd_VS_0 iM (a := 1) rfl)) (p_gK ?_)
  refine p_call (pl_forget' ((h.2.2.2.2 2 2 (by omega)).trans (rd_Solver_2 iM (a := 2) rfl))) ?_
  intro r2 m2 g
  exact p_ret (Or.inr ⟨rfl, by omega, m, h, g⟩)
/-! the reference's -/
theorem pr_in {a b c : Int} {M : Mem} : pw (mX9_in a b c M) (fun q => q.2 = M ∧ ((q.1 = 1 ∧ b ≤ a ∧ a ≤ c) ∨ (q.1 = 0 ∧ ¬ (b ≤ a ∧ a ≤ c)))) := p_wp x_in
theorem pr_clearWorld {n : Nat} {M0 M : Mem} (i0 : I n M0) (h0 : ∀ j : Int, ¬ j = 0 → mG M 126 j = mG M0 126 j) : pw (mX9_clearWorld 126 M) (fun q => ∀ b j : Int, ¬ b = 137 → ¬ b = 151 → mG q.2 b j = mG M b j) := by
  have a25 : mG M 126 25 = 151 := (h0 25 (by decide)).trans (rd_Model_25 i0 (a := 126) rfl)
  have a11 : mG M 126 11 = 137 := (h0 11 (by decide)).trans (rd_Model_11 i0 (a := 126) rfl)
  have k2 : ∀ (fu : Nat) (l : Int) (M' : Mem), (∀ b j : Int, ¬ b = 137 → ¬ b = 151 → mG M' b j = mG M b j) → pw (mX9_clearWorld_23 fu 126 l M') (fun q => ∀ b j : Int, ¬ b = 137 → ¬ b = 151 → mG q.2 b j = mG M b j) := by
    intro fu
    induction fu with
    | zero => intro l M' _; exact p_none
    | succ fu ih =>
      intro l M' h
      show pw (bX9_clearWorld_23 (mX9_clearWorld_23 fu) 126 l M') _
      unfold bX9_clearWorld_23
      exact p_if (fun _ => p_ret h) (fun _ => p_gFc (ji := 25) rfl ((h 126 25 (by decide) (by decide)).trans a25) (p_aSZ (fun M1 h1 => ih _ M1 (fun b j x y => (st_ne h1 (fun z => y z.1)).trans (h b j x y)))))
  have k1 : ∀ (fu : Nat) (l : Int) (M' : Mem), (∀ b j : Int, ¬ b = 137 → ¬ b = 151 → mG M' b j = mG M b j) → pw (mX9_clearWorld_2 fu 126 l M') (fun q => ∀ b j : Int, ¬ b = 137 → ¬ b = 151 → mG q.2 b j = mG M b j) := by
    intro fu
    induction fu with
    | zero => intro l M' _; exact p_none
    | succ fu ih =>
      intro l M' h
      show pw (bX9_clearWorld_2 (mX9_clearWorld_2 fu) 126 l M') _
      unfold bX9_clearWorld_2
      exact p_if (fun _ => k2 _ _ _ h) (fun _ => p_gFc (ji := 11) rfl ((h 126 11 (by decide) (by decide)).trans a11) (p_aSZ (fun M1 h1 => ih _ M1 (fun b j x y => (st_ne h1 (fun z => x z.1)).trans (h b j x y)))))
  unfold mX9_clearWorld
  exact k1 _ _ _ (fun _ _ _ _ => rfl)
theorem pr_size {n : Nat} {l1 l2 : Int} {M : Mem} (iM : I n M) : pw (mX9_size 126 l1 l2 M) (fun q => (q.1 = 0 ∧ ¬ (0 ≤ l1 ∧ l1 ≤ 2 ∧ 1 ≤ l2 ∧ l2 ≤ 3 ∧ ¬ mG M 133 l1 = l2) ∧ ∀ b j : Int, ¬ b = 126 → mG q.2 b j = mG M b j) ∨ (q.1 = 1 ∧ (0 ≤ l1 ∧ l1 ≤ 2 ∧ 1 ≤ l2 ∧ l2 ≤ 3 ∧ ¬ mG M 133 l1 = l2) ∧ mG q.2 133 l1 = l2 ∧ ∀ b j : Int, ¬ b = 126 → ¬ (b = 133 ∧ j = l1) → ¬ b = 137 → ¬ b = 151 → mG q.2 b j = mG M b j)) := by
  unfold mX9_size
  refine p_pF (ji := 0) rfl (fun M1 h1 => ?_)
  have g1 : ∀ b j : Int, ¬ b = 126 → mG M1 b j = mG M b j := fun b j hb => st_ne h1 (fun z => hb z.1)
  have f1 : ∀ j : Int, ¬ j = 0 → mG M1 126 j = mG M 126 j := fun j hj => st_ne h1 (fun z => hj z.2)
  refine p_call pr_in ?_
  rintro r m ⟨e, h⟩
  have e : m = M1 := e
  have h : (r = 1 ∧ 0 ≤ l1 ∧ l1 ≤ 2) ∨ (r = 0 ∧ ¬ (0 ≤ l1 ∧ l1 ≤ 2)) := h
  subst e
  dsimp only
  refine p_if (fun c => p_ret (Or.inl ⟨rfl, fun z => by have := z.1; have := z.2.1; omega, g1⟩)) (fun c => ?_)
  refine p_call pr_in ?_
  rintro r2 m2 ⟨e2, h2⟩
  have e2 : m2 = m := e2
  have h2 : (r2 = 1 ∧ 1 ≤ l2 ∧ l2 ≤ 3) ∨ (r2 = 0 ∧ ¬ (1 ≤ l2 ∧ l2 ≤ 3)) := h2
  subst e2
  dsimp only
  refine p_if (fun c2 => p_ret (Or.inl ⟨rfl, fun z => by have := z.2.2.1; have := z.2.2.2.1; omega, g1⟩)) (fun c2 => ?_)
  have a7 : mG m2 126 7 = 133 := (f1 7 (by decide)).trans (rd_Model_7 iM (a := 126) rfl)
  refine p_gFc (ji := 7) rfl a7 (p_aGc (g1 133 l1 (by decide)) (p_if (fun c3 => p_ret (Or.inl ⟨rfl, fun z => z.2.2.2.2 c3, g1⟩)) (fun c3 => ?_)))
  refine p_gFc (ji := 7) rfl a7 (p_aS (fun M3 h3 => p_gK ?_))
  refine p_call (pr_clearWorld iM (fun j hj => (st_ne h3 (fun z => absurd z.1 (by decide))).trans (f1 j hj))) ?_
  intro r4 m4 g4
  have g4 : ∀ b j : Int, ¬ b = 137 → ¬ b = 151 → mG m4 b j = mG M3 b j := g4
  refine p_ret (Or.inr ⟨rfl, ⟨by omega, by omega, by omega, by omega, c3⟩, ?_, fun b j x y z w => ?_⟩)
  · show mG m4 133 l1 = l2
    rw [g4 133 l1 (by decide) (by decide)]; exact st_eq h3
  · show mG m4 b j = _
    rw [g4 b j z w, st_ne h3 y]; exact g1 b j x
theorem pr_relation {n : Nat} {l1 l2 : Int} {M : Mem} (iM : I n M) : pw (mX9_relation 126 l1 l2 M) (fun q => (q.1 = -1 ∧ ¬ (mG M 134 0 < 4 ∧ 0 ≤ l1 ∧ l1 ≤ 2 ∧ -1 ≤ l2 ∧ l2 ≤ 2) ∧ ∀ b j : Int, ¬ b = 126 → mG q.2 b j = mG M b j) ∨ (q.1 = mG M 134 0 ∧ (mG M 134 0 < 4 ∧ 0 ≤ l1 ∧ l1 ≤ 2 ∧ -1 ≤ l2 ∧ l2 ≤ 2) ∧ mG q.2 134 0 = mG M 134 0 + 1 ∧ mG q.2 135 (mG M 134 0) = l1 ∧ mG q.2 136 (mG M 134 0) = l2 ∧ ∀ b j : Int, ¬ b = 126 → ¬ (b = 134 ∧ j = 0) → ¬ (b = 135 ∧ j = mG M 134 0) → ¬ (b = 136 ∧ j = mG M 134 0) → ¬ b = 137 → ¬ b = 151 → mG q.2 b j = mG M b j)) := by
  have rr := rd_Mrelations (i := 0) iM (a := 134) rfl
  obtain ⟨R, hR⟩ : ∃ R, mG M 134 0 = R := ⟨_, rfl⟩
  rw [hR] at rr ⊢
  unfold mX9_relation
  refine p_pF (ji := 0) rfl (fun M1 h1 => ?_)
  have g1 : ∀ b j : Int, ¬ b = 126 → mG M1 b j = mG M b j := fun b j hb => st_ne h1 (fun z => hb z.1)
  have f1 : ∀ j : Int, ¬ j = 0 → mG M1 126 j = mG M 126 j := fun j hj => st_ne h1 (fun z => hj z.2)
  have a8 : mG M1 126 8 = 134 := (f1 8 (by decide)).trans (rd_Model_8 iM (a := 126) rfl)
  have hR1 : mG M1 134 0 = R := (g1 134 0 (by decide)).trans hR
  refine p_gFc (ji := 8) rfl a8 (p_aGc hR1 (p_if (fun c0 => p_ret (Or.inl ⟨rfl, fun z => by omega, g1⟩)) (fun c0 => ?_)))
  refine p_call pr_in ?_
  rintro r m ⟨e, h⟩
  have e : m = M1 := e
  have h : (r = 1 ∧ 0 ≤ l1 ∧ l1 ≤ 2) ∨ (r = 0 ∧ ¬ (0 ≤ l1 ∧ l1 ≤ 2)) := h
  subst e
  dsimp only
  refine p_if (fun c => p_ret (Or.inl ⟨rfl, fun z => by omega, g1⟩)) (fun c => ?_)
  refine p_call pr_in ?_
  rintro r2 m2 ⟨e2, h2⟩
  have e2 : m2 = m := e2
  have h2 : (r2 = 1 ∧ -1 ≤ l2 ∧ l2 ≤ 2) ∨ (r2 = 0 ∧ ¬ (-1 ≤ l2 ∧ l2 ≤ 2)) := h2
  subst e2
  dsimp only
  refine p_if (fun c2 => p_ret (Or.inl ⟨rfl, fun z => by omega, g1⟩)) (fun c2 => ?_)
  have w := wI_id (x := R + 1) (by omega) (by omega)
  refine p_gFc (ji := 8) rfl a8 (p_aGc hR1 (p_gFc (ji := 8) rfl a8 (p_aGc hR1 ?_)))
  rw [w]
  refine p_aS (fun M3 h3 => ?_)
  have f3 : ∀ j : Int, ¬ j = 0 → mG M3 126 j = mG M 126 j := fun j hj => (st_ne h3 (fun z => absurd z.1 (by decide))).trans (f1 j hj)
  refine p_gFc (ji := 9) rfl ((f3 9 (by decide)).trans (rd_Model_9 iM (a := 126) rfl)) (p_aS (fun M4 h4 => ?_))
  have f4 : ∀ j : Int, ¬ j = 0 → mG M4 126 j = mG M 126 j := fun j hj => (st_ne h4 (fun z => absurd z.1 (by decide))).trans (f3 j hj)
  refine p_gFc (ji := 10) rfl ((f4 10 (by decide)).trans (rd_Model_10 iM (a := 126) rfl)) (p_aS (fun M5 h5 => p_gK ?_))
  have f5 : ∀ j : Int, ¬ j = 0 → mG M5 126 j = mG M 126 j := fun j hj => (st_ne h5 (fun z => absurd z.1 (by decide))).trans (f4 j hj)
  refine p_call (pr_clearWorld iM f5) ?_
  intro r6 m6 g6
  have g6 : ∀ b j : Int, ¬ b = 137 → ¬ b = 151 → mG m6 b j = mG M5 b j := g6
  refine p_ret (Or.inr ⟨rfl, by omega, ?_, ?_, ?_, fun b j x y z w u v => ?_⟩)
  · show mG m6 134 0 = R + 1
    rw [g6 _ _ (by decide) (by decide), st_ne h5 (fun z => absurd z.1 (by decide)), st_ne h4 (fun z => absurd z.1 (by decide))]; exact st_eq h3
  · show mG m6 135 R = l1
    rw [g6 _ _ (by decide) (by decide), st_ne h5 (fun z => absurd z.1 (by decide))]; exact st_eq h4
  · show mG m6 136 R = l2
    rw [g6 _ _ (by decide) (by decide)]; exact st_eq h5
  · show mG m6 b j = _
    rw [g6 b j u v, st_ne h5 w, st_ne h4 z, st_ne h3 y]; exact g1 b j x
end
section
/-! ===== the reference's simple calls ===== -/
theorem pr_known {n : Nat} {l1 l2 l3 l4 : Int} {M : Mem} (iM : I n M) : pw (mX9_known 126 l1 l2 l3 l4 M) (fun q => (q.1 = 0 ∧ ¬ (mG M 146 0 < 40 ∧ (0 ≤ l1 ∧ l1 < mG M 134 0) ∧ (0 ≤ l2 ∧ l2 ≤ 2) ∧ (mG M 136 l1 = -1 ∨ (0 ≤ l3 ∧ l3 ≤ 2))) ∧ ∀ b j : Int, ¬ b = 126 → mG q.2 b j = mG M b j) ∨ (q.1 = 1 ∧ (mG M 146 0 < 40 ∧ (0 ≤ l1 ∧ l1 < mG M 134 0) ∧ (0 ≤ l2 ∧ l2 ≤ 2) ∧ (mG M 136 l1 = -1 ∨ (0 ≤ l3 ∧ l3 ≤ 2))) ∧ mG q.2 146 0 = mG M 146 0 + 1 ∧ mG q.2 147 (mG M 146 0) = 9 * l1 + 3 * l2 + (if mG M 136 l1 = -1 then 0 else l3) ∧ mG q.2 148 (mG M 146 0) = (if l4 = 0 then 0 else 1) ∧ mG q.2 149 (mG M 146 0) = mG M 131 0 ∧ ∀ b j : Int, ¬ b = 126 → ¬ (b = 146 ∧ j = 0) → ¬ (147 ≤ b ∧ b ≤ 149 ∧ j = mG M 146 0) → mG q.2 b j = mG M b j)) := by
  have rr := rd_Mrelations (i := 0) iM (a := 134) rfl
  have rk := rd_Mknowns (i := 0) iM (a := 146) rfl
  obtain ⟨K, hK⟩ : ∃ K, mG M 146 0 = K := ⟨_, rfl⟩
  obtain ⟨R, hR⟩ : ∃ R, mG M 134 0 = R := ⟨_, rfl⟩
  rw [hK] at rk ⊢
  rw [hR] at rr ⊢
  unfold mX9_known
  refine p_pF (ji := 0) rfl (fun M1 h1 => ?_)
  have g1 : ∀ b j : Int, ¬ b = 126 → mG M1 b j = mG M b j := fun b j hb => st_ne h1 (fun z => hb z.1)
  have f1 : ∀ j : Int, ¬ j = 0 → mG M1 126 j = mG M 126 j := fun j hj => st_ne h1 (fun z => hj z.2)
  have t54 : K < 40 → (0 ≤ l1 ∧ l1 < R) → (0 ≤ l2 ∧ l2 ≤ 2) → (mG M 136 l1 = -1 ∨ (0 ≤ l3 ∧ l3 ≤ 2)) → pw (mX9_known_54 126 l1 l2 l3 l4 M1) (fun q => (q.1 = 0 ∧ ¬ (K < 40 ∧ (0 ≤ l1 ∧ l1 < R) ∧ (0 ≤ l2 ∧ l2 ≤ 2) ∧ (mG M 136 l1 = -1 ∨ (0 ≤ l3 ∧ l3 ≤ 2))) ∧ ∀ b j : Int, ¬ b = 126 → mG q.2 b j = mG M b j) ∨ (q.1 = 1 ∧ (K < 40 ∧ (0 ≤ l1 ∧ l1 < R) ∧ (0 ≤ l2 ∧ l2 ≤ 2) ∧ (mG M 136 l1 = -1 ∨ (0 ≤ l3 ∧ l3 ≤ 2))) ∧ mG q.2 146 0 = K + 1 ∧ mG q.2 147 K = 9 * l1 + 3 * l2 + (if mG M 136 l1 = -1 then 0 else l3) ∧ mG q.2 148 K = (if l4 = 0 then 0 else 1) ∧ mG q.2 149 K = mG M 131 0 ∧ ∀ b j : Int, ¬ b = 126 → ¬ (b = 146 ∧ j = 0) → ¬ (147 ≤ b ∧ b ≤ 149 ∧ j = K) → mG q.2 b j = mG M b j)) := by
    intro hk hl1 hl2 hl3
    have w1 := wI_id (x := K + 1) (by omega) (by omega)
    have w2 := wI_id (x := 9 * l1) (by omega) (by omega)
    have w3 := wI_id (x := 3 * l2) (by omega) (by omega)
    have w4 := wI_id (x := 9 * l1 + 3 * l2) (by omega) (by omega)
    have a20 : mG M1 126 20 = 146 := (f1 20 (by decide)).trans (rd_Model_20 iM (a := 126) rfl)
    have hK1 : mG M1 146 0 = K := (g1 146 0 (by decide)).trans hK
    unfold mX9_known_54
    refine p_gFc (ji := 20) rfl a20 (p_aGc hK1 (p_gFc (ji := 20) rfl a20 (p_aGc hK1 ?_)))
    rw [w1, w2, w3, w4]
    refine p_aS (fun M2 h2 => ?_)
    have f2 : ∀ j : Int, ¬ j = 0 → mG M2 126 j = mG M 126 j := fun j hj => (st_ne h2 (fun z => absurd z.1 (by decide))).trans (f1 j hj)
    have g2 : ∀ b j : Int, ¬ b = 126 → ¬ b = 146 → mG M2 b j = mG M b j := fun b j x y => (st_ne h2 (fun z => y z.1)).trans (g1 b j x)
    refine p_gFc (ji := 21) (r := 147) rfl ((f2 21 (by decide)).trans (rd_Model_21 iM (a := 126) rfl)) (p_gFc (ji := 10) rfl ((f2 10 (by decide)).trans (rd_Model_10 iM (a := 126) rfl)) (p_aGc (g2 136 l1 (by decide) (by decide)) ?_))
    have t101 : ∀ s3 : Int, (s3 = if mG M 136 l1 = -1 then 0 else l3) → pw (mX9_known_101 126 l4 K 147 K (9 * l1 + 3 * l2) s3 M2) (fun q => (q.1 = 0 ∧ ¬ (K < 40 ∧ (0 ≤ l1 ∧ l1 < R) ∧ (0 ≤ l2 ∧ l2 ≤ 2) ∧ (mG M 136 l1 = -1 ∨ (0 ≤ l3 ∧ l3 ≤ 2))) ∧ ∀ b j : Int, ¬ b = 126 → mG q.2 b j = mG M b j) ∨ (q.1 = 1 ∧ (K < 40 ∧ (0 ≤ l1 ∧ l1 < R) ∧ (0 ≤ l2 ∧ l2 ≤ 2) ∧ (mG M 136 l1 = -1 ∨ (0 ≤ l3 ∧ l3 ≤ 2))) ∧ mG q.2 146 0 = K + 1 ∧ mG q.2 147 K = 9 * l1 + 3 * l2 + (if mG M 136 l1 = -1 then 0 else l3) ∧ mG q.2 148 K = (if l4 = 0 then 0 else 1) ∧ mG q.2 149 K = mG M 131 0 ∧ ∀ b j : Int, ¬ b = 126 → ¬ (b = 146 ∧ j = 0) → ¬ (147 ≤ b ∧ b ≤ 149 ∧ j = K) → mG q.2 b j = mG M b j)) := by
      intro s3 hs3
      have rs3 : 0 ≤ s3 ∧ s3 ≤ 2 := by rw [hs3]; split <;> omega
      have w5 := wI_id (x := 9 * l1 + 3 * l2 + s3) (by omega) (by omega)
      rw [← hs3]
      unfold mX9_known_101
      rw [w5]
      refine p_aS (fun M3 h3 => ?_)
      have f3 : ∀ j : Int, ¬ j = 0 → mG M3 126 j = mG M 126 j := fun j hj => (st_ne h3 (fun z => absurd z.1 (by decide))).trans (f2 j hj)
      have t119 : ∀ s2 : Int, s2 = (if l4 = 0 then 0 else 1) → pw (mX9_known_119 126 K 148 K s2 M3) (fun q => (q.1 = 0 ∧ ¬ (K < 40 ∧ (0 ≤ l1 ∧ l1 < R) ∧ (0 ≤ l2 ∧ l2 ≤ 2) ∧ (mG M 136 l1 = -1 ∨ (0 ≤ l3 ∧ l3 ≤ 2))) ∧ ∀ b j : Int, ¬ b = 126 → mG q.2 b j = mG M b j) ∨ (q.1 = 1 ∧ (K < 40 ∧ (0 ≤ l1 ∧ l1 < R) ∧ (0 ≤ l2 ∧ l2 ≤ 2) ∧ (mG M 136 l1 = -1 ∨ (0 ≤ l3 ∧ l3 ≤ 2))) ∧ mG q.2 146 0 = K + 1 ∧ mG q.2 147 K = 9 * l1 + 3 * l2 + s3 ∧ mG q.2 148 K = (if l4 = 0 then 0 else 1) ∧ mG q.2 149 K = mG M 131 0 ∧ ∀ b j : Int, ¬ b = 126 → ¬ (b = 146 ∧ j = 0) → ¬ (147 ≤ b ∧ b ≤ 149 ∧ j = K) → mG q.2 b j = mG M b j)) := by
        intro s2 hs2
        rw [← hs2]
        unfold mX9_known_119
        refine p_aS (fun M4 h4 => ?_)
        have f4 : ∀ j : Int, ¬ j = 0 → mG M4 126 j = mG M 126 j := fun j hj => (st_ne h4 (fun z => absurd z.1 (by decide))).trans (f3 j hj)
        have e131 : mG M4 131 0 = mG M 131 0 := by rw [st_ne h4 (fun z => absurd z.1 (by decide)), st_ne h3 (fun z => absurd z.1 (by decide))]; exact g2 131 0 (by decide) (by decide)
        refine p_gFc (ji := 23) (r := 149) rfl ((f4 23 (by decide)).trans (rd_Model_23 iM (a := 126) rfl)) (p_gFc (ji := 5) rfl ((f4 5 (by decide)).trans (rd_Model_5 iM (a := 126) rfl)) (p_aGc e131 (p_aS (fun M5 h5 => ?_))))
        refine p_ret (Or.inr ⟨rfl, ⟨hk, hl1, hl2, hl3⟩, ?_, ?_, ?_, st_eq h5, fun b j x y z => ?_⟩)
        · rw [st_ne h5 (fun z => absurd z.1 (by decide)), st_ne h4 (fun z => absurd z.1 (by decide)), st_ne h3 (fun z => absurd z.1 (by decide))]; exact st_eq h2
        · rw [st_ne h5 (fun z => absurd z.1 (by decide)), st_ne h4 (fun z => absurd z.1 (by decide))]; exact st_eq h3
        · rw [st_ne h5 (fun z => absurd z.1 (by decide))]; exact st_eq h4
        · rw [st_ne h5 (fun u => z (by omega)), st_ne h4 (fun u => z (by omega)), st_ne h3 (fun u => z (by omega)), st_ne h2 y]; exact g1 b j x
      refine p_gFc (ji := 22) (r := 148) rfl ((f3 22 (by decide)).trans (rd_Model_22 iM (a := 126) rfl)) (p_if (fun c => t119 0 (by rw [if_pos c])) (fun c => t119 1 (by rw [if_neg c])))
    exact p_if (fun c => t101 0 (by rw [if_pos c])) (fun c => t101 l3 (by rw [if_neg c]))
  refine p_gFc (ji := 20) rfl ((f1 20 (by decide)).trans (rd_Model_20 iM (a := 126) rfl)) (p_aGc ((g1 146 0 (by decide)).trans hK) (p_if (fun c => p_ret (Or.inl ⟨rfl, fun z => by have := z.1; omega, g1⟩)) (fun c => p_gK ?_)))
  refine p_call (P := fun q => q.2 = M1 ∧ ((q.1 = 0 ∧ ¬ (0 ≤ l1 ∧ l1 < R)) ∨ (q.1 = 1 ∧ 0 ≤ l1 ∧ l1 < R))) ?_ ?_
  · unfold mX9_isRelation
    refine p_gFc (ji := 8) rfl ((f1 8 (by decide)).trans (rd_Model_8 iM (a := 126) rfl)) (p_aGc ((g1 134 0 (by decide)).trans hR) ?_)
    have w := wI_id (x := R - 1) (by omega) (by omega)
    rw [w]
    refine p_call pr_in ?_
    rintro r m ⟨e, h⟩
    have h : (r = 1 ∧ 0 ≤ l1 ∧ l1 ≤ R - 1) ∨ (r = 0 ∧ ¬ (0 ≤ l1 ∧ l1 ≤ R - 1)) := h
    exact p_zR (fun _ => p_ret ⟨e, by show (r = 0 ∧ _) ∨ (r = 1 ∧ _); omega⟩)
  · rintro r m ⟨e, h⟩
    have e : m = M1 := e
    have h : (r = 0 ∧ ¬ (0 ≤ l1 ∧ l1 < R)) ∨ (r = 1 ∧ 0 ≤ l1 ∧ l1 < R) := h
    subst e
    dsimp only
    refine p_if (fun c1 => p_ret (Or.inl ⟨rfl, fun z => by have := z.2.1; omega, g1⟩)) (fun c1 => ?_)
    refine p_call pr_in ?_
    rintro r2 m2 ⟨e2, h2⟩
    have e2 : m2 = m := e2
    have h2 : (r2 = 1 ∧ 0 ≤ l2 ∧ l2 ≤ 2) ∨ (r2 = 0 ∧ ¬ (0 ≤ l2 ∧ l2 ≤ 2)) := h2
    subst e2
    dsimp only
    refine p_if (fun c2 => p_ret (Or.inl ⟨rfl, fun z => by have := z.2.2.1; omega, g1⟩)) (fun c2 => ?_)
    refine p_gFc (ji := 10) rfl ((f1 10 (by decide)).trans (rd_Model_10 iM (a := 126) rfl)) (p_aGc (g1 136 l1 (by decide)) (p_if (fun c3 => t54 (by omega) (by omega) (by omega) (Or.inl c3)) (fun c3 => ?_)))
    refine p_call pr_in ?_
    rintro r4 m4 ⟨e4, h4⟩
    have e4 : m4 = m2 := e4
    have h4 : (r4 = 1 ∧ 0 ≤ l3 ∧ l3 ≤ 2) ∨ (r4 = 0 ∧ ¬ (0 ≤ l3 ∧ l3 ≤ 2)) := h4
    subst e4
    dsimp only
    exact p_if (fun c4 => p_ret (Or.inl ⟨rfl, fun z => by have := z.2.2.2.resolve_left c3; omega, g1⟩)) (fun c4 => t54 (by omega) (by omega) (by omega) (Or.inr (by omega)))
/-- four bytes come behind the reference's tape -/
def AB9 (v T : Int) (M M' : Mem) : Prop := mG M' 128 0 = T + 4 ∧ (∀ j : Int, mG M' 127 j = if T ≤ j ∧ j < T + 4 then i2b (ishr v (24 - 8 * (j - T))) else mG M 127 j) ∧ ∀ b j : Int, ¬ (b = 128 ∧ j = 0) → ¬ b = 127 → mG M' b j = mG M b j
theorem pr_four {v T : Int} {M : Mem} (a1 : mG M 126 1 = 127) (a2 : mG M 126 2 = 128) (hT : mG M 128 0 = T) (h0 : 0 ≤ T) (h1 : T + 4 ≤ 400) : pw (mX9_four 126 v M) (fun q => AB9 v T M q.2) := by
  have key : ∀ (fu : Nat) (k : Int) (M' : Mem), 0 ≤ k → k ≤ 4 → mG M' 128 0 = T + k → (∀ j : Int, mG M' 127 j = if T ≤ j ∧ j < T + k then i2b (ishr v (24 - 8 * (j - T))) else mG M 127 j) → (∀ b j : Int, ¬ (b = 128 ∧ j = 0) → ¬ b = 127 → mG M' b j = mG M b j) → pw (mX9_four_3 fu 126 v (24 - 8 * k) M') (fun q => AB9 v T M q.2) := by
    intro fu
    induction fu with
    | zero => intro k M' _ _ _ _ _; exact p_none
    | succ fu ih =>
      intro k M' b0 b1 e5 e13 fr
      show pw (bX9_four_3 (mX9_four_3 fu) 126 v (24 - 8 * k) M') _
      unfold bX9_four_3
      refine p_if (fun c => ?_) (fun c => ?_)
      · have ek : k = 4 := by omega
        subst ek
        exact p_ret ⟨e5, e13, fr⟩
      · have w1 := wI_id (x := T + k + 1) (by omega) (by omega)
        have w2 := wI_id (x := 24 - 8 * k + (-8)) (by omega) (by omega)
        have c1 : mG M' 126 1 = 127 := (fr 126 1 (by omega) (by decide)).trans a1
        have c2 : mG M' 126 2 = 128 := (fr 126 2 (by omega) (by decide)).trans a2
        refine p_gFc (ji := 1) rfl c1 (p_gFc (ji := 2) rfl c2 (p_aGc e5 (p_aSB (fun M1 h1 => ?_))))
        refine p_gFc (ji := 2) rfl ((st_ne h1 (fun z => absurd z.1 (by decide))).trans c2) (p_aGc ((st_ne h1 (fun z => absurd z.1 (by decide))).trans e5) ?_)
        rw [w1]
        refine p_aS (fun M2 h2 => ?_)
        rw [w2, show 24 - 8 * k + (-8) = 24 - 8 * (k + 1) by omega]
        refine ih (k + 1) M2 (by omega) (by omega) ((st_eq h2).trans (by omega)) (fun j => ?_) (fun b j x y => ?_)
        · rw [st_ne h2 (fun z => absurd z.1 (by decide))]
          by_cases e : j = T + k
          · subst e
            rw [st_eq h1, if_pos ⟨by omega, by omega⟩, show T + k - T = k by omega]
          · rw [st_ne h1 (fun z => e z.2), e13]
            by_cases e2 : T ≤ j ∧ j < T + k
            · rw [if_pos e2, if_pos ⟨e2.1, by omega⟩]
            · rw [if_neg e2, if_neg (fun z => e2 ⟨z.1, by omega⟩)]
        · rw [st_ne h2 x, st_ne h1 (fun z => y z.1)]; exact fr b j x y
  unfold mX9_four
  exact key FU 0 M (by decide) (by decide) (by omega) (fun j => by rw [if_neg (fun z => by omega)]) (fun _ _ _ _ => rfl)
theorem pr_feed {n : Nat} {v1 v2 v3 v4 v5 T : Int} {M : Mem} (iM : I n M) (hT : mG M 128 0 = T) : pw (mX9_feed 126 v1 v2 v3 v4 v5 M) (fun q => (q.1 = -1 ∧ 400 < T + 20 ∧ ∀ b j : Int, ¬ b = 126 → mG q.2 b j = mG M b j) ∨ (q.1 = T + 20 ∧ T + 20 ≤ 400 ∧ mG q.2 128 0 = T + 20 ∧ (∀ j : Int, mG q.2 127 j = if T ≤ j ∧ j < T + 20 then i2b (fb v1 v2 v3 v4 v5 (j - T)) else mG M 127 j) ∧ ∀ b j : Int, ¬ b = 126 → ¬ (b = 128 ∧ j = 0) → ¬ b = 127 → mG q.2 b j = mG M b j)) := by
  have r5 := rd_Msize (i := 0) iM (a := 128) rfl
  rw [hT] at r5
  have w := wI_id (x := T + 20) (by omega) (by omega)
  unfold mX9_feed
  refine p_pF (ji := 0) rfl (fun M0 h0 => ?_)
  have g0 : ∀ b j : Int, ¬ b = 126 → mG M0 b j = mG M b j := fun b j hb => st_ne h0 (fun z => hb z.1)
  have f0 : ∀ j : Int, ¬ j = 0 → mG M0 126 j = mG M 126 j := fun j hj => st_ne h0 (fun z => hj z.2)
  have a1 : mG M0 126 1 = 127 := (f0 1 (by decide)).trans (rd_Model_1 iM (a := 126) rfl)
  have a2 : mG M0 126 2 = 128 := (f0 2 (by decide)).trans (rd_Model_2 iM (a := 126) rfl)
  have hT0 : mG M0 128 0 = T := (g0 128 0 (by decide)).trans hT
  refine p_gFc (ji := 2) rfl a2 (p_aGc hT0 ?_)
  rw [w]
  refine p_if (fun c => ?_) (fun c => p_ret (Or.inl ⟨rfl, by omega, g0⟩))
  refine p_gK (p_call (pr_four a1 a2 hT0 r5.1 (by omega)) ?_)
  rintro r1 m1 ⟨t1, b1, f1⟩
  have t1 : mG m1 128 0 = T + 4 := t1
  refine p_gK (p_call (pr_four ((f1 126 1 (by omega) (by decide)).trans a1) ((f1 126 2 (by omega) (by decide)).trans a2) t1 (by omega) (by omega)) ?_)
  rintro r2 m2 ⟨t2, b2, f2⟩
  have t2 : mG m2 128 0 = T + 4 + 4 := t2
  have g2 : ∀ b j : Int, ¬ (b = 128 ∧ j = 0) → ¬ b = 127 → mG m2 b j = mG M0 b j := fun b j x y => (f2 b j x y).trans (f1 b j x y)
  refine p_gK (p_call (pr_four ((g2 126 1 (by omega) (by decide)).trans a1) ((g2 126 2 (by omega) (by decide)).trans a2) t2 (by omega) (by omega)) ?_)
  rintro r3 m3 ⟨t3, b3, f3⟩
  have t3 : mG m3 128 0 = T + 4 + 4 + 4 := t3
  have g3 : ∀ b j : Int, ¬ (b = 128 ∧ j = 0) → ¬ b = 127 → mG m3 b j = mG M0 b j := fun b j x y => (f3 b j x y).trans (g2 b j x y)
  refine p_gK (p_call (pr_four ((g3 126 1 (by omega) (by decide)).trans a1) ((g3 126 2 (by omega) (by decide)).trans a2) t3 (by omega) (by omega)) ?_)
  rintro r4 m4 ⟨t4, b4, f4⟩
  have t4 : mG m4 128 0 = T + 4 + 4 + 4 + 4 := t4
  have g4 : ∀ b j : Int, ¬ (b = 128 ∧ j = 0) → ¬ b = 127 → mG m4 b j = mG M0 b j := fun b j x y => (f4 b j x y).trans (g3 b j x y)
  refine p_gK (p_call (pr_four ((g4 126 1 (by omega) (by decide)).trans a1) ((g4 126 2 (by omega) (by decide)).trans a2) t4 (by omega) (by omega)) ?_)
  rintro r5' m5 ⟨t5, b5, f5⟩
  have t5 : mG m5 128 0 = T + 4 + 4 + 4 + 4 + 4 := t5
  have g5 : ∀ b j : Int, ¬ (b = 128 ∧ j = 0) → ¬ b = 127 → mG m5 b j = mG M0 b j := fun b j x y => (f5 b j x y).trans (g4 b j x y)
  refine p_gFc (ji := 2) rfl ((g5 126 2 (by omega) (by decide)).trans a2) (p_aGc t5 ?_)
  refine p_ret (Or.inr ⟨by show T + 4 + 4 + 4 + 4 + 4 = T + 20; omega, c, by show mG m5 128 0 = T + 20; omega, fun j => ?_, fun b j x y z => (g5 b j y z).trans (g0 b j x)⟩)
  show mG m5 127 j = _
  have b1 : ∀ j : Int, mG m1 127 j = if T ≤ j ∧ j < T + 4 then i2b (ishr v1 (24 - 8 * (j - T))) else mG M0 127 j := b1
  have b2 : ∀ j : Int, mG m2 127 j = if T + 4 ≤ j ∧ j < T + 4 + 4 then i2b (ishr v2 (24 - 8 * (j - (T + 4)))) else mG m1 127 j := b2
  have b3 : ∀ j : Int, mG m3 127 j = if T + 4 + 4 ≤ j ∧ j < T + 4 + 4 + 4 then i2b (ishr v3 (24 - 8 * (j - (T + 4 + 4)))) else mG m2 127 j := b3
  have b4 : ∀ j : Int, mG m4 127 j = if T + 4 + 4 + 4 ≤ j ∧ j < T + 4 + 4 + 4 + 4 then i2b (ishr v4 (24 - 8 * (j - (T + 4 + 4 + 4)))) else mG m3 127 j := b4
  have b5 : ∀ j : Int, mG m5 127 j = if T + 4 + 4 + 4 + 4 ≤ j ∧ j < T + 4 + 4 + 4 + 4 + 4 then i2b (ishr v5 (24 - 8 * (j - (T + 4 + 4 + 4 + 4)))) else mG m4 127 j := b5
  rw [b5, b4, b3, b2, b1, g0 127 j (by decide)]
  exact feed_eq v1 v2 v3 v4 v5 T j _ (fun z => i2b z)
theorem pr_end {n : Nat} {l : Int} {M : Mem} (iM : I n M) : pw (mX9_end 126 l M) (fun q => (q.1 = -1 ∧ ¬ (0 ≤ l ∧ l ≤ mG M 128 0) ∧ ∀ b j : Int, ¬ b = 126 → mG q.2 b j = mG M b j) ∨ (q.1 = l ∧ (0 ≤ l ∧ l ≤ mG M 128 0) ∧ mG q.2 128 0 = l ∧ ∀ b j : Int, ¬ b = 126 → ¬ (b = 128 ∧ j = 0) → mG q.2 b j = mG M b j)) := by
  unfold mX9_end
  refine p_pF (ji := 0) rfl (fun M1 h1 => ?_)
  have g1 : ∀ b j : Int, ¬ b = 126 → mG M1 b j = mG M b j := fun b j hb => st_ne h1 (fun z => hb z.1)
  have a2 : mG M1 126 2 = 128 := (st_ne h1 (fun z => absurd z.2 (by decide))).trans (rd_Model_2 iM (a := 126) rfl)
  refine p_gFc (ji := 2) rfl a2 (p_aGc (g1 128 0 (by decide)) (p_call pr_in ?_))
  rintro r m ⟨e, h⟩
  have e : m = M1 := e
  have h : (r = 1 ∧ 0 ≤ l ∧ l ≤ mG M 128 0) ∨ (r = 0 ∧ ¬ (0 ≤ l ∧ l ≤ mG M 128 0)) := h
  subst e
  dsimp only
  refine p_if (fun c => p_ret (Or.inl ⟨rfl, by omega, g1⟩)) (fun c => ?_)
  exact p_gFc (ji := 2) rfl a2 (p_aS (fun M3 h3 => p_ret (Or.inr ⟨rfl, by omega, st_eq h3, fun b j x y => (st_ne h3 y).trans (g1 b j x)⟩)))
theorem pr_day {n : Nat} {l : Int} {M : Mem} (iM : I n M) : pw (mX9_day 126 l M) (fun q => (q.1 = 0 ∧ ¬ (mG M 131 0 ≤ l ∧ l ≤ 999) ∧ ∀ b j : Int, ¬ b = 126 → mG q.2 b j = mG M b j) ∨ (q.1 = 1 ∧ (mG M 131 0 ≤ l ∧ l ≤ 999) ∧ mG q.2 131 0 = l ∧ ∀ b j : Int, ¬ b = 126 → ¬ (b = 131 ∧ j = 0) → mG q.2 b j = mG M b j)) := by
  unfold mX9_day
  refine p_pF (ji := 0) rfl (fun M1 h1 => ?_)
  have g1 : ∀ b j : Int, ¬ b = 126 → mG M1 b j = mG M b j := fun b j hb => st_ne h1 (fun z => hb z.1)
  have a2 : mG M1 126 5 = 131 := (st_ne h1 (fun z => absurd z.2 (by decide))).trans (rd_Model_5 iM (a := 126) rfl)
  refine p_gFc (ji := 5) rfl a2 (p_aGc (g1 131 0 (by decide)) (p_call pr_in ?_))
  rintro r m ⟨e, h⟩
  have e : m = M1 := e
  have h : (r = 1 ∧ mG M 131 0 ≤ l ∧ l ≤ 999) ∨ (r = 0 ∧ ¬ (mG M 131 0 ≤ l ∧ l ≤ 999)) := h
  subst e
  dsimp only
  refine p_if (fun c => p_ret (Or.inl ⟨rfl, by omega, g1⟩)) (fun c => ?_)
  exact p_gFc (ji := 5) rfl a2 (p_aS (fun M3 h3 => p_ret (Or.inr ⟨rfl, by omega, st_eq h3, fun b j x y => (st_ne h3 y).trans (g1 b j x)⟩)))
theorem pr_view {n : Nat} {l : Int} {M : Mem} (iM : I n M) : pw (mX9_view 126 l M) (fun q => (q.1 = 0 ∧ ¬ (-1 ≤ l ∧ l ≤ mG M 131 0) ∧ ∀ b j : Int, ¬ b = 126 → mG q.2 b j = mG M b j) ∨ (q.1 = 1 ∧ (-1 ≤ l ∧ l ≤ mG M 131 0) ∧ mG q.2 132 0 = l ∧ ∀ b j : Int, ¬ b = 126 → ¬ (b = 132 ∧ j = 0) → mG q.2 b j = mG M b j)) := by
  unfold mX9_view
  refine p_pF (ji := 0) rfl (fun M1 h1 => ?_)
  have g1 : ∀ b j : Int, ¬ b = 126 → mG M1 b j = mG M b j := fun b j hb => st_ne h1 (fun z => hb z.1)
  have a2 : mG M1 126 5 = 131 := (st_ne h1 (fun z => absurd z.2 (by decide))).trans (rd_Model_5 iM (a := 126) rfl)
  have a6 : mG M1 126 6 = 132 := (st_ne h1 (fun z => absurd z.2 (by decide))).trans (rd_Model_6 iM (a := 126) rfl)
  refine p_gFc (ji := 5) rfl a2 (p_aGc (g1 131 0 (by decide)) (p_call pr_in ?_))
  rintro r m ⟨e, h⟩
  have e : m = M1 := e
  have h : (r = 1 ∧ -1 ≤ l ∧ l ≤ mG M 131 0) ∨ (r = 0 ∧ ¬ (-1 ≤ l ∧ l ≤ mG M 131 0)) := h
  subst e
  dsimp only
  refine p_if (fun c => p_ret (Or.inl ⟨rfl, by omega, g1⟩)) (fun c => ?_)
  exact p_gFc (ji := 6) rfl a6 (p_aS (fun M3 h3 => p_ret (Or.inr ⟨rfl, by omega, st_eq h3, fun b j x y => (st_ne h3 y).trans (g1 b j x)⟩)))
theorem pr_keep {l : Int} {M : Mem} : pw (mX9_keep 126 l M) (fun q => (q.1 = 0 ∧ ¬ (0 ≤ l ∧ l ≤ 3)) ∨ (q.1 = 1 ∧ (0 ≤ l ∧ l ≤ 3))) := by
  have key : ∀ (fu : Nat) (k : Int) (M' : Mem), pw (mX9_keep_25 fu 126 l k M') (fun q => q.1 = 1) := by
    intro fu
    induction fu with
    | zero => intro k M'; exact p_none
    | succ fu ih =>
      intro k M'
      show pw (bX9_keep_25 (mX9_keep_25 fu) 126 l k M') _
      unfold bX9_keep_25
      exact p_if (fun _ => p_ret rfl) (fun _ => p_gF (ji := 24) rfl (fun _ _ => p_gF (ji := 11) rfl (fun _ _ => p_aG (fun _ _ => p_aSZ (fun _ _ => ih _ _)))))
  unfold mX9_keep
  refine p_pF (ji := 0) rfl (fun M1 h1 => p_call pr_in ?_)
  rintro r m ⟨-, h⟩
  have h : (r = 1 ∧ 0 ≤ l ∧ l ≤ 3) ∨ (r = 0 ∧ ¬ (0 ≤ l ∧ l ≤ 3)) := h
  dsimp only
  refine p_if (fun c => p_ret (Or.inl ⟨rfl, by omega⟩)) (fun c => p_gF (ji := 25) rfl (fun _ _ => p_aSZ (fun _ _ => ?_)))
  exact p_mono (key _ _ _) (fun q hq => Or.inr ⟨hq, by omega⟩)
end
section
/-! ===== both sides alike, kept ===== -/
/-- one slot (what is told now, or an image) of both sides -/
def SR (i : Int) (M : Mem) : Prop := (∀ k : Int, 0 ≤ k → k < 3 → mG M (sOf i + 2) k = mG M 133 (3 * i + k)) ∧ mG M (sOf i + 1) 6 = mG M 134 i ∧ (∀ r : Int, 0 ≤ r → r < mG M 134 i → mG M (sOf i + 3) r = mG M 135 (4 * i + r) ∧ mG M (sOf i + 4) r = mG M 136 (4 * i + r)) ∧ LO (sOf i + 1) M ∧ mG M (sOf i) 5 = mG M 128 i ∧ mG M (sOf i) 13 = mG M 131 i ∧ mG M (sOf i) 14 = mG M 132 i ∧ mG M (sOf i) 18 = mG M 146 i
def Rel (M : Mem) : Prop := (∀ i : Int, 0 ≤ i → i < 4 → (i = 0 ∨ mG M 169 (i - 1) = 1) → SR i M) ∧ ∀ k : Int, 0 ≤ k → k < 3 → mG M 74 k = mG M 169 k
def SC (i b j : Int) : Prop := (b = sOf i ∧ (j = 5 ∨ j = 13 ∨ j = 14 ∨ j = 18)) ∨ (sOf i + 1 ≤ b ∧ b ≤ sOf i + 7)
def SD (i b j : Int) : Prop := (b = 133 ∧ 3 * i ≤ j ∧ j < 3 * i + 3) ∨ ((b = 134 ∨ b = 128 ∨ b = 131 ∨ b = 132 ∨ b = 146) ∧ j = i) ∨ ((b = 135 ∨ b = 136) ∧ 4 * i ≤ j ∧ j < 4 * i + 4)
theorem SR.fr {i : Int} {M M' : Mem} (h : SR i M) (hR : mG M 134 i ≤ 4) (g8 : ∀ b j : Int, SC i b j → mG M' b j = mG M b j) (g9 : ∀ b j : Int, SD i b j → mG M' b j = mG M b j) : SR i M' := by
  obtain ⟨h1, h2, h3, h4, h5, h6, h7, h8⟩ := h
  have c (b j : Int) (hb : sOf i + 1 ≤ b ∧ b ≤ sOf i + 7) : mG M' b j = mG M b j := g8 b j (Or.inr hb)
  have f (j : Int) (hj : j = 5 ∨ j = 13 ∨ j = 14 ∨ j = 18) : mG M' (sOf i) j = mG M (sOf i) j := g8 _ _ (Or.inl ⟨rfl, hj⟩)
  have d (b : Int) (hb : b = 134 ∨ b = 128 ∨ b = 131 ∨ b = 132 ∨ b = 146) : mG M' b i = mG M b i := g9 b i (Or.inr (Or.inl ⟨hb, rfl⟩))
  have e134 := d 134 (Or.inl rfl)
  refine ⟨fun k k0 k1 => ?_, ?_, fun r r0 r1 => ?_, h4.of (fun b j b0 b1 => c b j ⟨b0, by omega⟩), ?_, ?_, ?_, ?_⟩
  · rw [c _ _ ⟨by omega, by omega⟩, g9 133 _ (Or.inl ⟨rfl, by omega, by omega⟩)]; exact h1 k k0 k1
  · rw [c _ _ ⟨by omega, by omega⟩, e134]; exact h2
  · rw [e134] at r1
    rw [c (sOf i + 3) r ⟨by omega, by omega⟩, c (sOf i + 4) r ⟨by omega, by omega⟩, g9 135 _ (Or.inr (Or.inr ⟨Or.inl rfl, by omega, by omega⟩)), g9 136 _ (Or.inr (Or.inr ⟨Or.inr rfl, by omega, by omega⟩))]
    exact h3 r r0 r1
  · rw [f 5 (by decide), d 128 (by decide)]; exact h5
  · rw [f 13 (by decide), d 131 (by decide)]; exact h6
  · rw [f 14 (by decide), d 132 (by decide)]; exact h7
  · rw [f 18 (by decide), d 146 (by decide)]; exact h8
theorem sOf_c {i : Int} (h0 : 0 ≤ i) (h1 : i < 4) : (i = 0 ∧ sOf i = 3) ∨ (1 ≤ i ∧ sOf i = 58 + 17 * i) := by
  unfold sOf
  by_cases e : i = 0
  · exact Or.inl ⟨e, by rw [if_pos e]⟩
  · exact Or.inr ⟨by omega, by rw [if_neg e]; omega⟩
/-- nothing that Rel sees has changed -/
def RC (b j : Int) : Prop := (b = 3 ∧ (j = 5 ∨ j = 13 ∨ j = 14 ∨ j = 18)) ∨ (4 ≤ b ∧ b ≤ 10) ∨ (74 ≤ b ∧ b ≤ 125) ∨ b = 128 ∨ (131 ≤ b ∧ b ≤ 136) ∨ b = 146 ∨ b = 169
theorem SC.rc {i b j : Int} (h0 : 0 ≤ i) (h1 : i < 4) (h : SC i b j) : RC b j := by
  unfold SC at h
  unfold RC
  rcases sOf_c h0 h1 with ⟨e, e2⟩ | ⟨e, e2⟩
  · rw [e2] at h
    rcases h with h | h
    · exact Or.inl h
    · exact Or.inr (Or.inl ⟨by omega, by omega⟩)
  · rw [e2] at h
    refine Or.inr (Or.inr (Or.inl ?_))
    rcases h with h | h <;> omega
theorem SD.rc {i b j : Int} (h : SD i b j) : RC b j := by
  unfold SD at h
  unfold RC
  refine Or.inr (Or.inr (Or.inr ?_))
  rcases h with h | h | h
  · exact Or.inr (Or.inl (by omega))
  · rcases h.1 with z | z | z | z | z
    · exact Or.inr (Or.inl (by omega))
    · exact Or.inl z
    · exact Or.inr (Or.inl (by omega))
    · exact Or.inr (Or.inl (by omega))
    · exact Or.inr (Or.inr (Or.inl z))
  · exact Or.inr (Or.inl (by omega))
theorem Rel.fr {n : Nat} {M M' : Mem} (iM : I n M) (h : Rel M) (g : ∀ b j : Int, RC b j → mG M' b j = mG M b j) : Rel M' := by
  refine ⟨fun i i0 i1 hi => (h.1 i i0 i1 ?_).fr (rd_Mrelations iM (a := 134) rfl).2 (fun b j z => g b j (z.rc i0 i1)) (fun b j z => g b j z.rc), fun k k0 k1 => ?_⟩
  · rw [g 169 _ (by unfold RC; omega)] at hi; exact hi
  · rw [g 74 _ (by unfold RC; omega), g 169 _ (by unfold RC; omega)]; exact h.2 k k0 k1
/-- slot 0 is told anew, the images are as they were -/
theorem Rel.r0 {n : Nat} {M M' : Mem} (iM : I n M) (h : Rel M) (h0 : SR 0 M') (g8 : ∀ b j : Int, 74 ≤ b → b ≤ 125 → mG M' b j = mG M b j) (g9 : ∀ i b j : Int, 1 ≤ i → i < 4 → SD i b j → mG M' b j = mG M b j) (g : ∀ j, mG M' 169 j = mG M 169 j) : Rel M' := by
  refine ⟨fun i i0 i1 hi => ?_, fun k k0 k1 => ?_⟩
  · rcases sOf_c i0 i1 with ⟨e, e2⟩ | ⟨e, e2⟩
    · rw [e]; exact h0
    · rw [g] at hi
      refine (h.1 i i0 i1 hi).fr (rd_Mrelations iM (a := 134) rfl).2 (fun b j z => ?_) (fun b j z => g9 i b j e i1 z)
      unfold SC at z
      rw [e2] at z
      rcases z with z | z
      · exact g8 b j (by omega) (by omega)
      · exact g8 b j (by omega) (by omega)
  · rw [g8 74 k (by decide) (by decide), g]; exact h.2 k k0 k1
def SAFE8 (b j : Int) : Prop := b ≤ 2 ∨ (b = 3 ∧ (j = 1 ∨ j = 6 ∨ j = 7 ∨ j = 11 ∨ j = 12)) ∨ (11 ≤ b ∧ b ≤ 73)
def SAFE9 (b j : Int) : Prop := b = 126 ∨ (129 ≤ b ∧ b ≤ 130) ∨ b = 137 ∨ (139 ≤ b ∧ b ≤ 140) ∨ b = 145 ∨ (150 ≤ b ∧ b ≤ 168)
theorem safe8_rc {b j : Int} (h : SAFE8 b j) : ¬ RC b j := by
  unfold SAFE8 at h
  intro z
  unfold RC at z
  rcases h with h | h | h
  · omega
  · obtain ⟨h, h2⟩ := h
    rcases z with z | z
    · obtain ⟨-, z⟩ := z; omega
    · omega
  · omega
theorem safe9_rc {b j : Int} (h : SAFE9 b j) : ¬ RC b j := by
  unfold SAFE9 at h
  intro z
  unfold RC at z
  omega
theorem Rel.k8 {n : Nat} {W : Int → Int → Prop} {M M' : Mem} (iM : I n M) (h : Rel M) (k : Keep n W M M') (hw : ∀ b j, W b j → SAFE8 b j) : Rel M' :=
  h.fr iM (fun b j z => k.2.2 b j (by have := iM.2.2.2.2.1; unfold RC at z; omega) (fun y => safe8_rc (hw b j y) z))
theorem Rel.k9 {n : Nat} {W : Int → Int → Prop} {M M' : Mem} (iM : I n M) (h : Rel M) (k : Keep n W M M') (hw : ∀ b j, W b j → SAFE9 b j) : Rel M' :=
  h.fr iM (fun b j z => k.2.2 b j (by have := iM.2.2.2.2.1; unfold RC at z; omega) (fun y => safe9_rc (hw b j y) z))
theorem WF.kp {n : Nat} {W : Int → Int → Prop} {M M' : Mem} (iM : I n M) (h : WF M) (k : Keep n W M M') (hw : ∀ b j, W b j → ¬ b = 138 ∧ ¬ (141 ≤ b ∧ b ≤ 144)) : WF M' := by
  have hn : (169 : Int) ≤ (n : Int) := by have := iM.2.2.2.2.1; omega
  exact WF_of h (fun j => k.2.2 _ _ (by omega) (fun z => (hw _ _ z).2 (by omega))) (fun j => k.2.2 _ _ (by omega) (fun z => (hw _ _ z).2 (by omega))) (fun j => k.2.2 _ _ (by omega) (fun z => (hw _ _ z).2 (by omega))) (fun j => k.2.2 _ _ (by omega) (fun z => (hw _ _ z).2 (by omega))) (fun j => k.2.2 _ _ (by omega) (fun z => (hw _ _ z).1 rfl))
theorem safe8_wf {b j : Int} (h : SAFE8 b j) : ¬ b = 138 ∧ ¬ (141 ≤ b ∧ b ≤ 144) := by unfold SAFE8 at h; omega
theorem safe9_wf {b j : Int} (h : SAFE9 b j) : ¬ b = 138 ∧ ¬ (141 ≤ b ∧ b ≤ 144) := by unfold SAFE9 at h; omega
/-- what stands between two calls -/
def J (M : Mem) : Prop := I (mN M) M ∧ WF M ∧ Rel M
theorem J.mk {n : Nat} {M : Mem} (i : I n M) (w : WF M) (r : Rel M) : J M := ⟨i.up i.2.2.2.1 (Nat.le_refl _), w, r⟩
/-- a call that changes nothing that Rel sees, on either side -/
theorem J.un {M : Mem} {x : Option (Int × Mem)} {y : Mem → Option (Int × Mem)} {W8 W9 : Int → Int → Prop} {P8 P9 : Int × Mem → Prop} (h : J M) (hx : I (mN M) M → wp x (fun q => I (mN M) q.2 ∧ Keep (mN M) W8 M q.2 ∧ P8 q)) (d8 : ∀ b j, W8 b j → SAFE8 b j) (hy : ∀ M1, WF M1 → I (mN M) M1 → wp (y M1) (fun q => I (mN M) q.2 ∧ Keep (mN M) W9 M1 q.2 ∧ P9 q)) (d9 : ∀ b j, W9 b j → SAFE9 b j) : wp x (fun q1 => wp (y q1.2) (fun q2 => J q2.2)) := by
  obtain ⟨iM, wf, rel⟩ := h
  refine w_mono (hx iM) ?_
  rintro q1 ⟨i1, k1, -⟩
  have w1 := wf.kp iM k1 (fun b j z => safe8_wf (d8 b j z))
  refine w_mono (hy _ w1 i1) ?_
  rintro q2 ⟨i2, k2, -⟩
  exact J.mk i2 (w1.kp i1 k2 (fun b j z => safe9_wf (d9 b j z))) ((rel.k8 iM k1 d8).k9 i1 k2 d9)
end
