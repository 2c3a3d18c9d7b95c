/-! ===== the simple calls, of both sides ===== -/
/-- four bytes come behind the class's tape -/
def AB (v T : Int) (M M' : Mem) : Prop := mG M' 3 5 = T + 4 ∧ (∀ j : Int, mG M' 13 j = if T ≤ j ∧ j < T + 4 then iand (ishr v (24 - 8 * (j - T))) 255 else mG M 13 j) ∧ ∀ b j : Int, ¬ (b = 3 ∧ j = 5) → ¬ b = 13 → mG M' b j = mG M b j
theorem pl_addBytes {v T : Int} {M : Mem} (c4 : mG M 3 4 = 13) (hT : mG M 3 5 = T) (h0 : 0 ≤ T) (h1 : T + 4 ≤ 400) : pw (mX6_addBytes 3 v M) (fun q => AB v T M q.2) := by
  have key : ∀ (fu : Nat) (k : Int) (M' : Mem), 0 ≤ k → k ≤ 4 → mG M' 3 5 = T + k → (∀ j : Int, mG M' 13 j = if T ≤ j ∧ j < T + k then iand (ishr v (24 - 8 * (j - T))) 255 else mG M 13 j) → (∀ b j : Int, ¬ (b = 3 ∧ j = 5) → ¬ b = 13 → mG M' b j = mG M b j) → pw (mX6_addBytes_3 fu 3 v (24 - 8 * k) M') (fun q => AB v T M q.2) := by
    intro fu
    induction fu with
    | zero => intro k M' _ _ _ _ _; exact p_none
    | succ fu ih =>
      intro k M' b0 b1 e5 e13 fr
      show pw (bX6_addBytes_3 (mX6_addBytes_3 fu) 3 v (24 - 8 * k) M') _
      unfold bX6_addBytes_3
      refine p_if (fun c => ?_) (fun c => ?_)
      · have ek : k = 4 := by omega
        subst ek
        exact p_ret ⟨e5, e13, fr⟩
      · refine p_gFc (ji := 5) rfl e5 (p_if (fun c2 => by omega) (fun c2 => ?_))
        have w1 := wI_id (x := T + k + 1) (by omega) (by omega)
        have w2 := wI_id (x := 24 - 8 * k + (-8)) (by omega) (by omega)
        refine p_gFc (ji := 4) rfl ((fr 3 4 (by omega) (by decide)).trans c4) (p_gFc (ji := 5) rfl e5 (p_aS (fun M1 h1 => ?_)))
        refine p_gFc (ji := 5) rfl ((st_ne h1 (fun z => absurd z.1 (by decide))).trans e5) ?_
        rw [w1]
        refine p_pF (ji := 5) rfl (fun M2 h2 => ?_)
        rw [w2, show 24 - 8 * k + (-8) = 24 - 8 * (k + 1) by omega]
        refine ih (k + 1) M2 (by omega) (by omega) ((st_eq h2).trans (by omega)) (fun j => ?_) (fun b j x y => ?_)
        · rw [st_ne h2 (fun z => absurd z.1 (by decide))]
          by_cases e : j = T + k
          · subst e
            rw [st_eq h1, if_pos ⟨by omega, by omega⟩, show T + k - T = k by omega]
          · rw [st_ne h1 (fun z => e z.2), e13]
            by_cases e2 : T ≤ j ∧ j < T + k
            · rw [if_pos e2, if_pos ⟨e2.1, by omega⟩]
            · rw [if_neg e2, if_neg (fun z => e2 ⟨z.1, by omega⟩)]
        · rw [st_ne h2 x, st_ne h1 (fun z => y z.1)]; exact fr b j x y
  unfold mX6_addBytes
  exact key FU 0 M (by decide) (by decide) (by omega) (fun j => by rw [if_neg (fun z => by omega)]) (fun _ _ _ _ => rfl)
/-- twenty bytes -/
def fb (v1 v2 v3 v4 v5 k : Int) : Int := let v := if k < 4 then v1 else if k < 8 then v2 else if k < 12 then v3 else if k < 16 then v4 else v5
  ishr v (24 - 8 * (k % 4))
theorem feed_eq (v1 v2 v3 v4 v5 T j x : Int) (F : Int → Int) : (if T + 4 + 4 + 4 + 4 ≤ j ∧ j < T + 4 + 4 + 4 + 4 + 4 then F (ishr v5 (24 - 8 * (j - (T + 4 + 4 + 4 + 4)))) else if T + 4 + 4 + 4 ≤ j ∧ j < T + 4 + 4 + 4 + 4 then F (ishr v4 (24 - 8 * (j - (T + 4 + 4 + 4)))) else if T + 4 + 4 ≤ j ∧ j < T + 4 + 4 + 4 then F (ishr v3 (24 - 8 * (j - (T + 4 + 4)))) else if T + 4 ≤ j ∧ j < T + 4 + 4 then F (ishr v2 (24 - 8 * (j - (T + 4)))) else if T ≤ j ∧ j < T + 4 then F (ishr v1 (24 - 8 * (j - T))) else x) = if T ≤ j ∧ j < T + 20 then F (fb v1 v2 v3 v4 v5 (j - T)) else x := by
  obtain ⟨k, rfl⟩ : ∃ k, j = T + k := ⟨j - T, by omega⟩
  have e0 : T + k - T = k := by omega
  have fb5 : 16 ≤ k → k < 20 → fb v1 v2 v3 v4 v5 k = ishr v5 (24 - 8 * (k - 16)) := fun a b => by
    unfold fb; dsimp only
    rw [if_neg (by omega), if_neg (by omega), if_neg (by omega), if_neg (by omega), show k % 4 = k - 16 by omega]
  have fb4 : 12 ≤ k → k < 16 → fb v1 v2 v3 v4 v5 k = ishr v4 (24 - 8 * (k - 12)) := fun a b => by
    unfold fb; dsimp only
    rw [if_neg (by omega), if_neg (by omega), if_neg (by omega), if_pos (by omega), show k % 4 = k - 12 by omega]
  have fb3 : 8 ≤ k → k < 12 → fb v1 v2 v3 v4 v5 k = ishr v3 (24 - 8 * (k - 8)) := fun a b => by
    unfold fb; dsimp only
    rw [if_neg (by omega), if_neg (by omega), if_pos (by omega), show k % 4 = k - 8 by omega]
  have fb2 : 4 ≤ k → k < 8 → fb v1 v2 v3 v4 v5 k = ishr v2 (24 - 8 * (k - 4)) := fun a b => by
    unfold fb; dsimp only
    rw [if_neg (by omega), if_pos (by omega), show k % 4 = k - 4 by omega]
  have fb1 : 0 ≤ k → k < 4 → fb v1 v2 v3 v4 v5 k = ishr v1 (24 - 8 * k) := fun a b => by
    unfold fb; dsimp only
    rw [if_pos (by omega), show k % 4 = k by omega]
  rw [e0]
  by_cases e5 : 16 ≤ k ∧ k < 20
  · rw [if_pos ⟨by omega, by omega⟩, if_pos ⟨by omega, by omega⟩, fb5 e5.1 e5.2, show T + k - (T + 4 + 4 + 4 + 4) = k - 16 by omega]
  rw [if_neg (fun z => e5 ⟨by omega, by omega⟩)]
  by_cases e4 : 12 ≤ k ∧ k < 16
  · rw [if_pos ⟨by omega, by omega⟩, if_pos ⟨by omega, by omega⟩, fb4 e4.1 e4.2, show T + k - (T + 4 + 4 + 4) = k - 12 by omega]
  rw [if_neg (fun z => e4 ⟨by omega, by omega⟩)]
  by_cases e3 : 8 ≤ k ∧ k < 12
  · rw [if_pos ⟨by omega, by omega⟩, if_pos ⟨by omega, by omega⟩, fb3 e3.1 e3.2, show T + k - (T + 4 + 4) = k - 8 by omega]
  rw [if_neg (fun z => e3 ⟨by omega, by omega⟩)]
  by_cases e2 : 4 ≤ k ∧ k < 8
  · rw [if_pos ⟨by omega, by omega⟩, if_pos ⟨by omega, by omega⟩, fb2 e2.1 e2.2, show T + k - (T + 4) = k - 4 by omega]
  rw [if_neg (fun z => e2 ⟨by omega, by omega⟩)]
  by_cases e1 : 0 ≤ k ∧ k < 4
  · rw [if_pos ⟨by omega, by omega⟩, if_pos ⟨by omega, by omega⟩, fb1 e1.1 e1.2]
  rw [if_neg (fun z => e1 ⟨by omega, by omega⟩), if_neg (fun z => by omega)]
theorem pl_feed {n : Nat} {v1 v2 v3 v4 v5 T : Int} {M : Mem} (iM : I n M) (hT : mG M 3 5 = T) : pw (mX8_feed 1 v1 v2 v3 v4 v5 M) (fun q => (q.1 = -1 ∧ 400 < T + 20 ∧ q.2 = M) ∨ (q.1 = T + 20 ∧ T + 20 ≤ 400 ∧ mG q.2 3 5 = T + 20 ∧ (∀ j : Int, mG q.2 13 j = if T ≤ j ∧ j < T + 20 then iand (fb v1 v2 v3 v4 v5 (j - T)) 255 else mG M 13 j) ∧ ∀ b j : Int, ¬ (b = 3 ∧ j = 5) → ¬ b = 13 → mG q.2 b j = mG M b j)) := by
  have i1 : mG M 1 1 = 3 := rd_VS_1 iM (a := 1) rfl
  have r5 := rd_Told_5 iM (a := 3) rfl
  rw [hT] at r5
  have c4 : mG M 3 4 = 13 := rd_Told_4 iM (a := 3) rfl
  have w := wI_id (x := T + 20) (by omega) (by omega)
  unfold mX8_feed
  refine p_gFc (ji := 1) rfl i1 (p_gFc (ji := 5) rfl hT ?_)
  rw [w]
  refine p_if (fun c => ?_) (fun c => p_ret (Or.inl ⟨rfl, by omega, rfl⟩))
  refine p_gFc (ji := 1) rfl i1 (p_gK (p_call (pl_addBytes c4 hT r5.1 (by omega)) ?_))
  rintro r1 m1 ⟨t1, b1, f1⟩
  have t1 : mG m1 3 5 = T + 4 := t1
  refine p_gFc (ji := 1) rfl ((f1 1 1 (by omega) (by decide)).trans i1) (p_gK (p_call (pl_addBytes ((f1 3 4 (by omega) (by decide)).trans c4) t1 (by omega) (by omega)) ?_))
  rintro r2 m2 ⟨t2, b2, f2⟩
  have t2 : mG m2 3 5 = T + 4 + 4 := t2
  have g2 : ∀ b j : Int, ¬ (b = 3 ∧ j = 5) → ¬ b = 13 → mG m2 b j = mG M b j := fun b j x y => (f2 b j x y).trans (f1 b j x y)
  refine p_gFc (ji := 1) rfl ((g2 1 1 (by omega) (by decide)).trans i1) (p_gK (p_call (pl_addBytes ((g2 3 4 (by omega) (by decide)).trans c4) t2 (by omega) (by omega)) ?_))
  rintro r3 m3 ⟨t3, b3, f3⟩
  have t3 : mG m3 3 5 = T + 4 + 4 + 4 := t3
  have g3 : ∀ b j : Int, ¬ (b = 3 ∧ j = 5) → ¬ b = 13 → mG m3 b j = mG M b j := fun b j x y => (f3 b j x y).trans (g2 b j x y)
  refine p_gFc (ji := 1) rfl ((g3 1 1 (by omega) (by decide)).trans i1) (p_gK (p_call (pl_addBytes ((g3 3 4 (by omega) (by decide)).trans c4) t3 (by omega) (by omega)) ?_))
  rintro r4 m4 ⟨t4, b4, f4⟩
  have t4 : mG m4 3 5 = T + 4 + 4 + 4 + 4 := t4
  have g4 : ∀ b j : Int, ¬ (b = 3 ∧ j = 5) → ¬ b = 13 → mG m4 b j = mG M b j := fun b j x y => (f4 b j x y).trans (g3 b j x y)
  refine p_gFc (ji := 1) rfl ((g4 1 1 (by omega) (by decide)).trans i1) (p_gK (p_call (pl_addBytes ((g4 3 4 (by omega) (by decide)).trans c4) t4 (by omega) (by omega)) ?_))
  rintro r5' m5 ⟨t5, b5, f5⟩
  have t5 : mG m5 3 5 = T + 4 + 4 + 4 + 4 + 4 := t5
  have g5 : ∀ b j : Int, ¬ (b = 3 ∧ j = 5) → ¬ b = 13 → mG m5 b j = mG M b j := fun b j x y => (f5 b j x y).trans (g4 b j x y)
  refine p_gFc (ji := 1) rfl ((g5 1 1 (by omega) (by decide)).trans i1) (p_gFc (ji := 5) rfl t5 ?_)
  refine p_ret (Or.inr ⟨by show T + 4 + 4 + 4 + 4 + 4 = T + 20; omega, c, by show mG m5 3 5 = T + 20; omega, fun j => ?_, g5⟩)
  show mG m5 13 j = _
  have b1 : ∀ j : Int, mG m1 13 j = if T ≤ j ∧ j < T + 4 then iand (ishr v1 (24 - 8 * (j - T))) 255 else mG M 13 j := b1
  have b2 : ∀ j : Int, mG m2 13 j = if T + 4 ≤ j ∧ j < T + 4 + 4 then iand (ishr v2 (24 - 8 * (j - (T + 4)))) 255 else mG m1 13 j := b2
  have b3 : ∀ j : Int, mG m3 13 j = if T + 4 + 4 ≤ j ∧ j < T + 4 + 4 + 4 then iand (ishr v3 (24 - 8 * (j - (T + 4 + 4)))) 255 else mG m2 13 j := b3
  have b4 : ∀ j : Int, mG m4 13 j = if T + 4 + 4 + 4 ≤ j ∧ j < T + 4 + 4 + 4 + 4 then iand (ishr v4 (24 - 8 * (j - (T + 4 + 4 + 4)))) 255 else mG m3 13 j := b4
  have b5 : ∀ j : Int, mG m5 13 j = if T + 4 + 4 + 4 + 4 ≤ j ∧ j < T + 4 + 4 + 4 + 4 + 4 then iand (ishr v5 (24 - 8 * (j - (T + 4 + 4 + 4 + 4)))) 255 else mG m4 13 j := b5
  rw [b5, b4, b3, b2, b1]
  exact feed_eq v1 v2 v3 v4 v5 T j _ (fun z => iand z 255)
theorem pl_end {n : Nat} {l : Int} {M : Mem} (iM : I n M) : pw (mX8_end 1 l M) (fun q => (q.1 = -1 ∧ ¬ (0 ≤ l ∧ l ≤ mG M 3 5) ∧ q.2 = M) ∨ (q.1 = l ∧ (0 ≤ l ∧ l ≤ mG M 3 5) ∧ q.2 = mS M 3 5 l)) := by
  have i1 : mG M 1 1 = 3 := rd_VS_1 iM (a := 1) rfl
  unfold mX8_end
  refine p_if (fun c => p_ret (Or.inl ⟨rfl, fun z => by omega, rfl⟩)) (fun c => ?_)
  refine p_gFc (ji := 1) rfl i1 (p_gF (ji := 5) rfl (fun v hv => p_if (fun c2 => ?_) (fun c2 => p_ret (Or.inl ⟨rfl, fun z => by omega, rfl⟩))))
  exact p_gFc (ji := 1) rfl i1 (p_pF (ji := 5) rfl (fun M1 h1 => p_ret (Or.inr ⟨rfl, ⟨by omega, by omega⟩, h1⟩)))
theorem pl_day {n : Nat} {l : Int} {M : Mem} (iM : I n M) : pw (mX8_day 1 l M) (fun q => (q.1 = 0 ∧ ¬ (mG M 3 13 ≤ l ∧ l ≤ 999) ∧ q.2 = M) ∨ (q.1 = 1 ∧ (mG M 3 13 ≤ l ∧ l ≤ 999) ∧ q.2 = mS M 3 13 l)) := by
  have i1 : mG M 1 1 = 3 := rd_VS_1 iM (a := 1) rfl
  unfold mX8_day
  refine p_gFc (ji := 1) rfl i1 (p_gF (ji := 13) rfl (fun v hv => p_if (fun c2 => p_ret (Or.inl ⟨rfl, fun z => by omega, rfl⟩)) (fun c2 => p_if (fun c3 => ?_) (fun c3 => p_ret (Or.inl ⟨rfl, fun z => by omega, rfl⟩)))))
  exact p_gFc (ji := 1) rfl i1 (p_pF (ji := 13) rfl (fun M1 h1 => p_ret (Or.inr ⟨rfl, ⟨by omega, by omega⟩, h1⟩)))
theorem pl_view {n : Nat} {l : Int} {M : Mem} (iM : I n M) : pw (mX8_view 1 l M) (fun q => (q.1 = 0 ∧ ¬ (-1 ≤ l ∧ l ≤ mG M 3 13) ∧ q.2 = M) ∨ (q.1 = 1 ∧ (-1 ≤ l ∧ l ≤ mG M 3 13) ∧ q.2 = mS M 3 14 l)) := by
  have i1 : mG M 1 1 = 3 := rd_VS_1 iM (a := 1) rfl
  unfold mX8_view
  refine p_if (fun c => p_ret (Or.inl ⟨rfl, fun z => by omega, rfl⟩)) (fun c => ?_)
  refine p_gFc (ji := 1) rfl i1 (p_gF (ji := 13) rfl (fun v hv => p_if (fun c2 => ?_) (fun c2 => p_ret (Or.inl ⟨rfl, fun z => by omega, rfl⟩))))
  exact p_gFc (ji := 1) rfl i1 (p_pF (ji := 14) rfl (fun M1 h1 => p_ret (Or.inr ⟨rfl, ⟨by omega, by omega⟩, h1⟩)))
theorem pl_keep {n : Nat} {l : Int} {M : Mem} (iM : I n M) : pw (mX8_keep 1 l M) (fun q => (q.1 = 0 ∧ ¬ (0 ≤ l ∧ l ≤ 3)) ∨ (q.1 = 1 ∧ (0 ≤ l ∧ l ≤ 3))) := by
  unfold mX8_keep
  refine p_if (fun c => p_ret (Or.inl ⟨rfl, by omega⟩)) (fun c => p_if (fun c2 => ?_) (fun c2 => p_ret (Or.inl ⟨rfl, by omega⟩)))
  refine p_gF (ji := 1) rfl (fun _ _ => p_gF (ji := 2) rfl (fun _ _ => p_gF (ji := 1) rfl (fun _ _ => p_gF (ji := 1) rfl (fun _ _ => p_aS (fun _ _ => ?_)))))
  exact p_gF (ji := 1) rfl (fun _ _ => p_gF (ji := 3) rfl (fun _ _ => p_aSZ (fun _ _ => p_ret (Or.inr ⟨rfl, by omega⟩))))
theorem pl_image {n : Nat} {l : Int} {M : Mem} (iM : I n M) : pw (mX8_image 1 l M) (fun q => (q.1 = 0 ∧ ¬ (0 ≤ l ∧ l ≤ 2) ∧ q.2 = M) ∨ (q.1 = 1 ∧ (0 ≤ l ∧ l ≤ 2) ∧ ∃ M1, CPT (75 + 17 * l) 3 M M1 ∧ q.2 = mS M1 74 l 1)) := by
  have i1 : mG M 1 1 = 3 := rd_VS_1 iM (a := 1) rfl
  unfold mX8_image
  refine p_if (fun c => p_ret (Or.inl ⟨rfl, fun z => by omega, rfl⟩)) (fun c => p_if (fun c2 => ?_) (fun c2 => p_ret (Or.inl ⟨rfl, fun z => by omega, rfl⟩)))
  have e73 : mG M 73 l = 75 + 17 * l := rd_Vimages iM (a := 73) rfl (by omega) (by omega)
  refine p_gFc (ji := 3) rfl (rd_VS_3 iM (a := 1) rfl) (p_aGc e73 (p_gFc (ji := 1) rfl i1 (p_gK ?_)))
  refine p_call (pl_tcopy iM (by unfold isTold; omega) (Or.inl rfl) (by omega)) ?_
  intro r m h
  have h : CPT (75 + 17 * l) 3 M m := h
  refine p_gFc (ji := 4) rfl ((h.2.2.2.2 1 4 (by omega)).trans (rd_VS_4 iM (a := 1) rfl)) (p_aSZ (fun M1 h1 => p_ret (Or.inr ⟨rfl, by omega, m, h, h1⟩)))
theorem pl_again {n : Nat} {l : Int} {M : Mem} (iM : I n M) : pw (mX8_again 1 l M) (fun q => (q.1 = 0 ∧ ¬ (0 ≤ l ∧ l ≤ 2 ∧ mG M 74 l = 1) ∧ q.2 = M) ∨ (q.1 = 1 ∧ (0 ≤ l ∧ l ≤ 2 ∧ mG M 74 l = 1) ∧ ∃ M1, CPT 3 (75 + 17 * l) M M1 ∧ ∀ b j : Int, ¬ b = 2 → ¬ b = 24 → mG q.2 b j = mG M1 b j)) := by
  have i1 : mG M 1 1 = 3 := rd_VS_1 iM (a := 1) rfl
  unfold mX8_again
  refine p_if (fun c => p_ret (Or.inl ⟨rfl, fun z => by omega, rfl⟩)) (fun c => p_if (fun c2 => p_ret (Or.inl ⟨rfl, fun z => by omega, rfl⟩)) (fun c2 => ?_))
  have r74 := rd_Vimaged (i := l) iM (a := 74) rfl
  refine p_gFc (ji := 4) rfl (rd_VS_4 iM (a := 1) rfl) (p_aG (fun v hv => ?_))
  have hv : mG M 74 l = v := hv
  refine p_if (fun c3 => p_ret (Or.inl ⟨rfl, fun z => by omega, rfl⟩)) (fun c3 => ?_)
  have e73 : mG M 73 l = 75 + 17 * l := rd_Vimages iM (a := 73) rfl (by omega) (by omega)
  refine p_gFc (ji := 1) rfl i1 (p_gFc (ji := 3) rfl (rd_VS_3 iM (a := 1) rfl) (p_aGc e73 (p_gK ?_)))
  refine p_call (pl_tcopy iM (Or.inl rfl) (by unfold isTold; omega) (by omega)) ?_
  intro r m h
  have h : CPT 3 (75 + 17 * l) M m := h
  refine p_gFc (ji := 0) rfl ((h.2.2.2.2 1 0 (by omega)).trans (rd_VS_0 iM (a := 1) rfl)) (p_gK ?_)
  refine p_call (pl_forget' ((h.2.2.2.2 2 2 (by omega)).trans (rd_Solver_2 iM (a := 2) rfl))) ?_
  intro r2 m2 g
  exact p_ret (Or.inr ⟨rfl, by omega, m, h, g⟩)
/-! the reference's -/
theorem pr_in {a b c : Int} {M : Mem} : pw (mX9_in a b c M) (fun q => q.2 = M ∧ ((q.1 = 1 ∧ b ≤ a ∧ a ≤ c) ∨ (q.1 = 0 ∧ ¬ (b ≤ a ∧ a ≤ c)))) := p_wp x_in
theorem pr_clearWorld {n : Nat} {M0 M : Mem} (i0 : I n M0) (h0 : ∀ j : Int, ¬ j = 0 → mG M 126 j = mG M0 126 j) : pw (mX9_clearWorld 126 M) (fun q => ∀ b j : Int, ¬ b = 137 → ¬ b = 151 → mG q.2 b j = mG M b j) := by
  have a25 : mG M 126 25 = 151 := (h0 25 (by decide)).trans (rd_Model_25 i0 (a := 126) rfl)
  have a11 : mG M 126 11 = 137 := (h0 11 (by decide)).trans (rd_Model_11 i0 (a := 126) rfl)
  have k2 : ∀ (fu : Nat) (l : Int) (M' : Mem), (∀ b j : Int, ¬ b = 137 → ¬ b = 151 → mG M' b j = mG M b j) → pw (mX9_clearWorld_23 fu 126 l M') (fun q => ∀ b j : Int, ¬ b = 137 → ¬ b = 151 → mG q.2 b j = mG M b j) := by
    intro fu
    induction fu with
    | zero => intro l M' _; exact p_none
    | succ fu ih =>
      intro l M' h
      show pw (bX9_clearWorld_23 (mX9_clearWorld_23 fu) 126 l M') _
      unfold bX9_clearWorld_23
      exact p_if (fun _ => p_ret h) (fun _ => p_gFc (ji := 25) rfl ((h 126 25 (by decide) (by decide)).trans a25) (p_aSZ (fun M1 h1 => ih _ M1 (fun b j x y => (st_ne h1 (fun z => y z.1)).trans (h b j x y)))))
  have k1 : ∀ (fu : Nat) (l : Int) (M' : Mem), (∀ b j : Int, ¬ b = 137 → ¬ b = 151 → mG M' b j = mG M b j) → pw (mX9_clearWorld_2 fu 126 l M') (fun q => ∀ b j : Int, ¬ b = 137 → ¬ b = 151 → mG q.2 b j = mG M b j) := by
    intro fu
    induction fu with
    | zero => intro l M' _; exact p_none
    | succ fu ih =>
      intro l M' h
      show pw (bX9_clearWorld_2 (mX9_clearWorld_2 fu) 126 l M') _
      unfold bX9_clearWorld_2
      exact p_if (fun _ => k2 _ _ _ h) (fun _ => p_gFc (ji := 11) rfl ((h 126 11 (by decide) (by decide)).trans a11) (p_aSZ (fun M1 h1 => ih _ M1 (fun b j x y => (st_ne h1 (fun z => x z.1)).trans (h b j x y)))))
  unfold mX9_clearWorld
  exact k1 _ _ _ (fun _ _ _ _ => rfl)
theorem pr_size {n : Nat} {l1 l2 : Int} {M : Mem} (iM : I n M) : pw (mX9_size 126 l1 l2 M) (fun q => (q.1 = 0 ∧ ¬ (0 ≤ l1 ∧ l1 ≤ 2 ∧ 1 ≤ l2 ∧ l2 ≤ 3 ∧ ¬ mG M 133 l1 = l2) ∧ ∀ b j : Int, ¬ b = 126 → mG q.2 b j = mG M b j) ∨ (q.1 = 1 ∧ (0 ≤ l1 ∧ l1 ≤ 2 ∧ 1 ≤ l2 ∧ l2 ≤ 3 ∧ ¬ mG M 133 l1 = l2) ∧ mG q.2 133 l1 = l2 ∧ ∀ b j : Int, ¬ b = 126 → ¬ (b = 133 ∧ j = l1) → ¬ b = 137 → ¬ b = 151 → mG q.2 b j = mG M b j)) := by
  unfold mX9_size
  refine p_pF (ji := 0) rfl (fun M1 h1 => ?_)
  have g1 : ∀ b j : Int, ¬ b = 126 → mG M1 b j = mG M b j := fun b j hb => st_ne h1 (fun z => hb z.1)
  have f1 : ∀ j : Int, ¬ j = 0 → mG M1 126 j = mG M 126 j := fun j hj => st_ne h1 (fun z => hj z.2)
  refine p_call pr_in ?_
  rintro r m ⟨e, h⟩
  have e : m = M1 := e
  have h : (r = 1 ∧ 0 ≤ l1 ∧ l1 ≤ 2) ∨ (r = 0 ∧ ¬ (0 ≤ l1 ∧ l1 ≤ 2)) := h
  subst e
  dsimp only
  refine p_if (fun c => p_ret (Or.inl ⟨rfl, fun z => by have := z.1; have := z.2.1; omega, g1⟩)) (fun c => ?_)
  refine p_call pr_in ?_
  rintro r2 m2 ⟨e2, h2⟩
  have e2 : m2 = m := e2
  have h2 : (r2 = 1 ∧ 1 ≤ l2 ∧ l2 ≤ 3) ∨ (r2 = 0 ∧ ¬ (1 ≤ l2 ∧ l2 ≤ 3)) := h2
  subst e2
  dsimp only
  refine p_if (fun c2 => p_ret (Or.inl ⟨rfl, fun z => by have := z.2.2.1; have := z.2.2.2.1; omega, g1⟩)) (fun c2 => ?_)
  have a7 : mG m2 126 7 = 133 := (f1 7 (by decide)).trans (rd_Model_7 iM (a := 126) rfl)
  refine p_gFc (ji := 7) rfl a7 (p_aGc (g1 133 l1 (by decide)) (p_if (fun c3 => p_ret (Or.inl ⟨rfl, fun z => z.2.2.2.2 c3, g1⟩)) (fun c3 => ?_)))
  refine p_gFc (ji := 7) rfl a7 (p_aS (fun M3 h3 => p_gK ?_))
  refine p_call (pr_clearWorld iM (fun j hj => (st_ne h3 (fun z => absurd z.1 (by decide))).trans (f1 j hj))) ?_
  intro r4 m4 g4
  have g4 : ∀ b j : Int, ¬ b = 137 → ¬ b = 151 → mG m4 b j = mG M3 b j := g4
  refine p_ret (Or.inr ⟨rfl, ⟨by omega, by omega, by omega, by omega, c3⟩, ?_, fun b j x y z w => ?_⟩)
  · show mG m4 133 l1 = l2
    rw [g4 133 l1 (by decide) (by decide)]; exact st_eq h3
  · show mG m4 b j = _
    rw [g4 b j z w, st_ne h3 y]; exact g1 b j x
theorem pr_relation {n : Nat} {l1 l2 : Int} {M : Mem} (iM : I n M) : pw (mX9_relation 126 l1 l2 M) (fun q => (q.1 = -1 ∧ ¬ (mG M 134 0 < 4 ∧ 0 ≤ l1 ∧ l1 ≤ 2 ∧ -1 ≤ l2 ∧ l2 ≤ 2) ∧ ∀ b j : Int, ¬ b = 126 → mG q.2 b j = mG M b j) ∨ (q.1 = mG M 134 0 ∧ (mG M 134 0 < 4 ∧ 0 ≤ l1 ∧ l1 ≤ 2 ∧ -1 ≤ l2 ∧ l2 ≤ 2) ∧ mG q.2 134 0 = mG M 134 0 + 1 ∧ mG q.2 135 (mG M 134 0) = l1 ∧ mG q.2 136 (mG M 134 0) = l2 ∧ ∀ b j : Int, ¬ b = 126 → ¬ (b = 134 ∧ j = 0) → ¬ (b = 135 ∧ j = mG M 134 0) → ¬ (b = 136 ∧ j = mG M 134 0) → ¬ b = 137 → ¬ b = 151 → mG q.2 b j = mG M b j)) := by
  have rr := rd_Mrelations (i := 0) iM (a := 134) rfl
  obtain ⟨R, hR⟩ : ∃ R, mG M 134 0 = R := ⟨_, rfl⟩
  rw [hR] at rr ⊢
  unfold mX9_relation
  refine p_pF (ji := 0) rfl (fun M1 h1 => ?_)
  have g1 : ∀ b j : Int, ¬ b = 126 → mG M1 b j = mG M b j := fun b j hb => st_ne h1 (fun z => hb z.1)
  have f1 : ∀ j : Int, ¬ j = 0 → mG M1 126 j = mG M 126 j := fun j hj => st_ne h1 (fun z => hj z.2)
  have a8 : mG M1 126 8 = 134 := (f1 8 (by decide)).trans (rd_Model_8 iM (a := 126) rfl)
  have hR1 : mG M1 134 0 = R := (g1 134 0 (by decide)).trans hR
  refine p_gFc (ji := 8) rfl a8 (p_aGc hR1 (p_if (fun c0 => p_ret (Or.inl ⟨rfl, fun z => by omega, g1⟩)) (fun c0 => ?_)))
  refine p_call pr_in ?_
  rintro r m ⟨e, h⟩
  have e : m = M1 := e
  have h : (r = 1 ∧ 0 ≤ l1 ∧ l1 ≤ 2) ∨ (r = 0 ∧ ¬ (0 ≤ l1 ∧ l1 ≤ 2)) := h
  subst e
  dsimp only
  refine p_if (fun c => p_ret (Or.inl ⟨rfl, fun z => by omega, g1⟩)) (fun c => ?_)
  refine p_call pr_in ?_
  rintro r2 m2 ⟨e2, h2⟩
  have e2 : m2 = m := e2
  have h2 : (r2 = 1 ∧ -1 ≤ l2 ∧ l2 ≤ 2) ∨ (r2 = 0 ∧ ¬ (-1 ≤ l2 ∧ l2 ≤ 2)) := h2
  subst e2
  dsimp only
  refine p_if (fun c2 => p_ret (Or.inl ⟨rfl, fun z => by omega, g1⟩)) (fun c2 => ?_)
  have w := wI_id (x := R + 1) (by omega) (by omega)
  refine p_gFc (ji := 8) rfl a8 (p_aGc hR1 (p_gFc (ji := 8) rfl a8 (p_aGc hR1 ?_)))
  rw [w]
  refine p_aS (fun M3 h3 => ?_)
  have f3 : ∀ j : Int, ¬ j = 0 → mG M3 126 j = mG M 126 j := fun j hj => (st_ne h3 (fun z => absurd z.1 (by decide))).trans (f1 j hj)
  refine p_gFc (ji := 9) rfl ((f3 9 (by decide)).trans (rd_Model_9 iM (a := 126) rfl)) (p_aS (fun M4 h4 => ?_))
  have f4 : ∀ j : Int, ¬ j = 0 → mG M4 126 j = mG M 126 j := fun j hj => (st_ne h4 (fun z => absurd z.1 (by decide))).trans (f3 j hj)
  refine p_gFc (ji := 10) rfl ((f4 10 (by decide)).trans (rd_Model_10 iM (a := 126) rfl)) (p_aS (fun M5 h5 => p_gK ?_))
  have f5 : ∀ j : Int, ¬ j = 0 → mG M5 126 j = mG M 126 j := fun j hj => (st_ne h5 (fun z => absurd z.1 (by decide))).trans (f4 j hj)
  refine p_call (pr_clearWorld iM f5) ?_
  intro r6 m6 g6
  have g6 : ∀ b j : Int, ¬ b = 137 → ¬ b = 151 → mG m6 b j = mG M5 b j := g6
  refine p_ret (Or.inr ⟨rfl, by omega, ?_, ?_, ?_, fun b j x y z w u v => ?_⟩)
  · show mG m6 134 0 = R + 1
    rw [g6 _ _ (by decide) (by decide), st_ne h5 (fun z => absurd z.1 (by decide)), st_ne h4 (fun z => absurd z.1 (by decide))]; exact st_eq h3
  · show mG m6 135 R = l1
    rw [g6 _ _ (by decide) (by decide), st_ne h5 (fun z => absurd z.1 (by decide))]; exact st_eq h4
  · show mG m6 136 R = l2
    rw [g6 _ _ (by decide) (by decide)]; exact st_eq h5
  · show mG m6 b j = _
    rw [g6 b j u v, st_ne h5 w, st_ne h4 z, st_ne h3 y]; exact g1 b j x
