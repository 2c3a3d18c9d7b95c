def W_X4_leastSize (b j : Int) : Prop := (21 ≤ b ∧ b ≤ 23) ∨ b = 37 ∨ (39 ≤ b ∧ b ≤ 45) ∨ (b = 2 ∧ j = 10) ∨ (b = 20 ∧ j = 0) ∨ (b = 20 ∧ j = 1) ∨ (b = 20 ∧ j = 5) ∨ (b = 36 ∧ j = 1) ∨ (b = 36 ∧ j = 2) ∨ (b = 38 ∧ j = 6) ∨ (b = 38 ∧ j = 7)
theorem s_X4_leastSize_26 {n : Nat} {Me : Mem} {l1 : Int} {M : Mem} (r_l1 : 0 ≤ l1 ∧ l1 ≤ 2) (iM : I n M) (kM : Keep n W_X4_leastSize Me M) : wp (mX4_leastSize_26 2 l1 M) (fun q => I n q.2 ∧ Keep n W_X4_leastSize Me q.2 ∧ ((-1) ≤ q.1 ∧ q.1 ≤ 3) ∧ True) := by
  have hn : (169 : Int) ≤ (n : Int) := by have := iM.2.2.2.2.1; omega
  unfold mX4_leastSize_26
  refine w_gFc (ji := 9) rfl (congrArg Prod.fst (kl_2 iM)) (show mG M 2 9 = 45 from rd_Solver_9 iM (a := 2) rfl) ?_
  refine w_aG (kl_45 iM) (by omega) (by omega) (fun a31 ha31 => ?_)
  have ra31 : (-1) ≤ a31 ∧ a31 ≤ 3 := ha31.tr (P := fun z => (-1) ≤ z ∧ z ≤ 3) (rd_Vleast iM rfl)
  exact w_ret ⟨iM, kM, (show (-1) ≤ a31 ∧ a31 ≤ 3 from ⟨by omega, by omega⟩), trivial⟩
theorem s_X4_leastSize {n : Nat} {l1 : Int} {M : Mem} (r_l1 : 0 ≤ l1 ∧ l1 ≤ 2) (iM : I n M) : wp (mX4_leastSize 2 l1 M) (fun q => I n q.2 ∧ Keep n W_X4_leastSize M q.2 ∧ ((-1) ≤ q.1 ∧ q.1 ≤ 3) ∧ True) := by
  have hn : (169 : Int) ≤ (n : Int) := by have := iM.2.2.2.2.1; omega
  have kM : Keep n W_X4_leastSize M M := Keep.rf
  unfold mX4_leastSize
  refine w_gFc (ji := 0) rfl (congrArg Prod.fst (kl_2 iM)) (show mG M 2 0 = 3 from rd_Solver_0 iM (a := 2) rfl) ?_
  refine w_gK (congrArg Prod.fst (kl_3 iM)) ?_
  refine w_call (s_X6_viewedStories iM) ?_
  intro v4 m4 pp4
  obtain ⟨im4, kk4, e4_0, -⟩ := pp4
  try dsimp only
  replace im4 : I n m4 := im4
  replace kk4 : Keep n W_X6_viewedStories M m4 := kk4
  have km4 : Keep n W_X4_leastSize M m4 := kM.tr kk4 (fun b j z => z.elim)
  replace e4_0 : 0 ≤ v4 ∧ v4 ≤ 255 := e4_0
  refine w_gF (ji := 10) rfl (congrArg Prod.fst (kl_2 im4)) (fun a9 ha9 => ?_)
  have ra9 : (-2147483648) ≤ a9 ∧ a9 ≤ 2147483647 := ha9.tr (P := fun z => (-2147483648) ≤ z ∧ z ≤ 2147483647) (rd_Solver_10 im4 rfl)
  refine w_if (fun c1_ => ?_) (fun c1_ => ?_)
  · skip
    exact s_X4_leastSize_26 ⟨by omega, by omega⟩ im4 km4
  · skip
    refine w_gK (congrArg Prod.fst (kl_2 im4)) ?_
    refine w_call (s_X4_findLeastSizes ⟨by omega, by omega⟩ im4) ?_
    intro v18 m18 pp18
    obtain ⟨im18, kk18, -⟩ := pp18
    try dsimp only
    replace im18 : I n m18 := im18
    replace kk18 : Keep n W_X4_findLeastSizes m4 m18 := kk18
    have km18 : Keep n W_X4_leastSize M m18 := km4.tr kk18 (fun b j z => Or.elim z (fun z => (Or.inl z)) (fun z => Or.elim z (fun z => (Or.inr (Or.inl z))) (fun z => Or.elim z (fun z => (Or.inr (Or.inr (Or.inl z)))) (fun z => Or.elim z (fun z => (Or.inr (Or.inr (Or.inr (Or.inr (Or.inl z)))))) (fun z => Or.elim z (fun z => (Or.inr (Or.inr (Or.inr (Or.inr (Or.inr (Or.inl z))))))) (fun z => Or.elim z (fun z => (Or.inr (Or.inr (Or.inr (Or.inr (Or.inr (Or.inr (Or.inl z)))))))) (fun z => Or.elim z (fun z => (Or.inr (Or.inr (Or.inr (Or.inr (Or.inr (Or.inr (Or.inr (Or.inl z))))))))) (fun z => Or.elim z (fun z => (Or.inr (Or.inr (Or.inr (Or.inr (Or.inr (Or.inr (Or.inr (Or.inr (Or.inl z)))))))))) (fun z => Or.elim z (fun z => (Or.inr (Or.inr (Or.inr (Or.inr (Or.inr (Or.inr (Or.inr (Or.inr (Or.inr (Or.inl z))))))))))) (fun z => (Or.inr (Or.inr (Or.inr (Or.inr (Or.inr (Or.inr (Or.inr (Or.inr (Or.inr (Or.inr z))))))))))))))))))))
    refine w_pF (ji := 10) rfl (congrArg Prod.fst (kl_2 im18)) (fun M23 hM23 => ?_)
    replace hM23 : M23 = mS m18 2 10 v4 := hM23
    have iM23 : I n M23 := wr_Solver_10 im18 rfl ⟨by omega, by omega⟩ hM23
    have kM23 : Keep n W_X4_leastSize M M23 := km18.st hM23 (Or.inl (Or.inr (Or.inr (Or.inr (Or.inl ⟨rfl, rfl⟩)))))
    exact s_X4_leastSize_26 ⟨by omega, by omega⟩ iM23 kM23
def W_X8_least (b j : Int) : Prop := (21 ≤ b ∧ b ≤ 23) ∨ b = 37 ∨ (39 ≤ b ∧ b ≤ 45) ∨ (b = 2 ∧ j = 10) ∨ (b = 20 ∧ j = 0) ∨ (b = 20 ∧ j = 1) ∨ (b = 20 ∧ j = 5) ∨ (b = 36 ∧ j = 1) ∨ (b = 36 ∧ j = 2) ∨ (b = 38 ∧ j = 6) ∨ (b = 38 ∧ j = 7)
theorem s_X8_least {n : Nat} {l1 : Int} {M : Mem} (r_l1 : (-2147483648) ≤ l1 ∧ l1 ≤ 2147483647) (iM : I n M) : wp (mX8_least 1 l1 M) (fun q => I n q.2 ∧ Keep n W_X8_least M q.2 ∧ ((-1) ≤ q.1 ∧ q.1 ≤ 3) ∧ True) := by
  have hn : (169 : Int) ≤ (n : Int) := by have := iM.2.2.2.2.1; omega
  have kM : Keep n W_X8_least M M := Keep.rf
  unfold mX8_least
  refine w_call (s_X3_isKind ⟨by omega, by omega⟩ iM) ?_
  intro v1 m1 pp1
  obtain ⟨im1, kk1, e1_0, e1_1, -⟩ := pp1
  try dsimp only
  replace im1 : I n m1 := im1
  replace kk1 : Keep n W_X3_isKind M m1 := kk1
  have km1 : Keep n W_X8_least M m1 := kM.tr kk1 (fun b j z => z.elim)
  replace e1_0 : 0 ≤ v1 ∧ v1 ≤ 1 := e1_0
  replace e1_1 : v1 = 1 → 0 ≤ l1 ∧ l1 ≤ 2 := e1_1
  refine w_if (fun c1_ => ?_) (fun c1_ => ?_)
  · skip
    exact w_ret ⟨im1, km1, (show (-1) ≤ (-1) ∧ (-1) ≤ 3 from ⟨by omega, by omega⟩), trivial⟩
  · skip
    refine w_gFc (ji := 0) rfl (congrArg Prod.fst (kl_1 im1)) (show mG m1 1 0 = 2 from rd_VS_0 im1 (a := 1) rfl) ?_
    refine w_gK (congrArg Prod.fst (kl_2 im1)) ?_
    refine w_call (s_X4_leastSize ⟨by omega, by omega⟩ im1) ?_
    intro v12 m12 pp12
    obtain ⟨im12, kk12, e12_0, -⟩ := pp12
    try dsimp only
    replace im12 : I n m12 := im12
    replace kk12 : Keep n W_X4_leastSize m1 m12 := kk12
    have km12 : Keep n W_X8_least M m12 := km1.tr kk12 (fun b j z => Or.elim z (fun z => (Or.inl z)) (fun z => Or.elim z (fun z => (Or.inr (Or.inl z))) (fun z => Or.elim z (fun z => (Or.inr (Or.inr (Or.inl z)))) (fun z => Or.elim z (fun z => (Or.inr (Or.inr (Or.inr (Or.inl z))))) (fun z => Or.elim z (fun z => (Or.inr (Or.inr (Or.inr (Or.inr (Or.inl z)))))) (fun z => Or.elim z (fun z => (Or.inr (Or.inr (Or.inr (Or.inr (Or.inr (Or.inl z))))))) (fun z => Or.elim z (fun z => (Or.inr (Or.inr (Or.inr (Or.inr (Or.inr (Or.inr (Or.inl z)))))))) (fun z => Or.elim z (fun z => (Or.inr (Or.inr (Or.inr (Or.inr (Or.inr (Or.inr (Or.inr (Or.inl z))))))))) (fun z => Or.elim z (fun z => (Or.inr (Or.inr (Or.inr (Or.inr (Or.inr (Or.inr (Or.inr (Or.inr (Or.inl z)))))))))) (fun z => Or.elim z (fun z => (Or.inr (Or.inr (Or.inr (Or.inr (Or.inr (Or.inr (Or.inr (Or.inr (Or.inr (Or.inl z))))))))))) (fun z => (Or.inr (Or.inr (Or.inr (Or.inr (Or.inr (Or.inr (Or.inr (Or.inr (Or.inr (Or.inr z)))))))))))))))))))))
    replace e12_0 : (-1) ≤ v12 ∧ v12 ≤ 3 := e12_0
    exact w_ret ⟨im12, km12, (show (-1) ≤ v12 ∧ v12 ≤ 3 from ⟨by omega, by omega⟩), trivial⟩
def W_X7_isNothing (l0 : Int) (b j : Int) : Prop := False
theorem sb_X7_isNothing_2 {n : Nat} {Me : Mem} {l0 : Int} (h_l0 : isWS l0) {k2 : Int → Int → Mem → Option (Int × Mem)} {fu2 : Nat} (hk2 : ∀ (l1 : Int) (M : Mem), (0 ≤ l1 ∧ l1 ≤ 64) → 65 - l1 < (fu2 : Int) → I n M → Keep n (W_X7_isNothing l0) Me M → wp (k2 l0 l1 M) (fun q => I n q.2 ∧ Keep n (W_X7_isNothing l0) Me q.2 ∧ (0 ≤ q.1 ∧ q.1 ≤ 1) ∧ True)) {l1 : Int} {M : Mem} (r_l1 : 0 ≤ l1 ∧ l1 ≤ 64) (hf2 : 65 - l1 < (fu2 : Int) + 1) (iM : I n M) (kM : Keep n (W_X7_isNothing l0) Me M) : wp (bX7_isNothing_2 k2 l0 l1 M) (fun q => I n q.2 ∧ Keep n (W_X7_isNothing l0) Me q.2 ∧ (0 ≤ q.1 ∧ q.1 ≤ 1) ∧ True) := by
  have hn : (169 : Int) ≤ (n : Int) := by have := iM.2.2.2.2.1; omega
  have u_l0 := h_l0
  unfold isWS at u_l0
  unfold bX7_isNothing_2
  refine w_gF (ji := 1) rfl (congrArg Prod.fst (k_WS iM h_l0)) (fun a4 ha4 => ?_)
  have ra4 : 0 ≤ a4 ∧ a4 ≤ 64 := ha4.tr (P := fun z => 0 ≤ z ∧ z ≤ 64) (rd_WS_1 iM (f_WS h_l0))
  refine w_if (fun c1_ => ?_) (fun c1_ => ?_)
  · skip
    exact w_ret ⟨iM, kM, (show 0 ≤ 1 ∧ 1 ≤ 1 from ⟨by omega, by omega⟩), trivial⟩
  · skip
    refine w_gFc (ji := 0) rfl (congrArg Prod.fst (k_WS iM h_l0)) (show mG M l0 0 = (l0 + 1) from rd_WS_0 iM (a := l0) (f_WS h_l0)) ?_
    refine w_aG (k_Wwords iM h_l0) (by omega) (by omega) (fun a15 ha15 => ?_)
    have w2_ := lcmp_0 (a15) (0)
    refine w_if (fun c3_ => ?_) (fun c3_ => ?_)
    · skip
      have w4_ := wI_id (x := (l1 + 1)) (by omega) (by omega)
      exact hk2 _ _ ⟨by omega, by omega⟩ (by omega) iM kM
    · skip
      exact w_ret ⟨iM, kM, (show 0 ≤ 0 ∧ 0 ≤ 1 from ⟨by omega, by omega⟩), trivial⟩
theorem s_X7_isNothing_2 {n : Nat} {Me : Mem} {l0 : Int} (h_l0 : isWS l0) : ∀ (fu : Nat) (l1 : Int) (M : Mem), (0 ≤ l1 ∧ l1 ≤ 64) → 65 - l1 < (fu : Int) → I n M → Keep n (W_X7_isNothing l0) Me M → wp (mX7_isNothing_2 fu l0 l1 M) (fun q => I n q.2 ∧ Keep n (W_X7_isNothing l0) Me q.2 ∧ (0 ≤ q.1 ∧ q.1 ≤ 1) ∧ True) := by
  intro fu
  induction fu with
  | zero =>
    intro l1 M r_l1 hf iM kM
    exfalso
    omega
  | succ fu ih =>
    intro l1 M r_l1 hf iM kM
    exact sb_X7_isNothing_2 h_l0 ih r_l1 (by have e : ((fu + 1 : Nat) : Int) = (fu : Int) + 1 := rfl; rw [e] at hf; exact hf) iM kM
theorem s_X7_isNothing {n : Nat} {l0 : Int} {M : Mem} (h_l0 : isWS l0) (iM : I n M) : wp (mX7_isNothing l0 M) (fun q => I n q.2 ∧ Keep n (W_X7_isNothing l0) M q.2 ∧ (0 ≤ q.1 ∧ q.1 ≤ 1) ∧ True) := by
  have hn : (169 : Int) ≤ (n : Int) := by have := iM.2.2.2.2.1; omega
  have kM : Keep n (W_X7_isNothing l0) M M := Keep.rf
  have u_l0 := h_l0
  unfold isWS at u_l0
  unfold mX7_isNothing
  exact s_X7_isNothing_2 h_l0 FU _ _ ⟨by omega, by omega⟩ (by show _ < (70000 : Int); omega) iM kM
def W_X4_isBefore (b j : Int) : Prop := False
theorem s_X4_isBefore_35 {n : Nat} {Me : Mem} {M : Mem} (iM : I n M) (kM : Keep n W_X4_isBefore Me M) : wp (mX4_isBefore_35 M) (fun q => I n q.2 ∧ Keep n W_X4_isBefore Me q.2 ∧ (0 ≤ q.1 ∧ q.1 ≤ 1) ∧ True) := by
  have hn : (169 : Int) ≤ (n : Int) := by have := iM.2.2.2.2.1; omega
  unfold mX4_isBefore_35
  exact w_ret ⟨iM, kM, (show 0 ≤ 1 ∧ 1 ≤ 1 from ⟨by omega, by omega⟩), trivial⟩
theorem s_X4_isBefore {n : Nat} {l0 l1 : Int} {M : Mem} (r_l0 : 0 ≤ l0 ∧ l0 ≤ 255) (r_l1 : 0 ≤ l1 ∧ l1 ≤ 255) (iM : I n M) : wp (mX4_isBefore l0 l1 M) (fun q => I n q.2 ∧ Keep n W_X4_isBefore M q.2 ∧ (0 ≤ q.1 ∧ q.1 ≤ 1) ∧ True) := by
  have hn : (169 : Int) ≤ (n : Int) := by have := iM.2.2.2.2.1; omega
  have kM : Keep n W_X4_isBefore M M := Keep.rf
  unfold mX4_isBefore
  refine w_call (s_J6_bitCount_0f7a4 ⟨by omega, by omega⟩ iM) ?_
  intro v1 m1 pp1
  obtain ⟨im1, kk1, e1_0, -⟩ := pp1
  try dsimp only
  replace im1 : I n m1 := im1
  replace kk1 : Keep n W_J6_bitCount_0f7a4 M m1 := kk1
  have km1 : Keep n W_X4_isBefore M m1 := kM.tr kk1 (fun b j z => z.elim)
  replace e1_0 : 0 ≤ v1 ∧ v1 ≤ 63 := e1_0
  refine w_call (s_J6_bitCount_0f7a4 ⟨by omega, by omega⟩ im1) ?_
  intro v5 m5 pp5
  obtain ⟨im5, kk5, e5_0, -⟩ := pp5
  try dsimp only
  replace im5 : I n m5 := im5
  replace kk5 : Keep n W_J6_bitCount_0f7a4 m1 m5 := kk5
  have km5 : Keep n W_X4_isBefore M m5 := km1.tr kk5 (fun b j z => z.elim)
  replace e5_0 : 0 ≤ v5 ∧ v5 ≤ 63 := e5_0
  have w1_ := ixor_b (x := l0) (y := l1) (k := 8) (by decide) (by omega) (by omega) (by omega) (by omega)
  have w2_ := And.intro (wI_lo (-(ixor l0 l1))) (wI_hi (-(ixor l0 l1)))
  have w3_ : ineg (ixor l0 l1) = wI (-(ixor l0 l1)) := rfl
  have w4_ := iand_l (x := (ixor l0 l1)) (y := (ineg (ixor l0 l1))) (by omega) (by omega)
  refine w_some (fun b18 hb18 => ?_)
  replace hb18 : b18 = (iand (ixor l0 l1) (ineg (ixor l0 l1))) := hb18
  have w6_ := wI_id (x := (v1 - v5)) (by omega) (by omega)
  refine w_if (fun c7_ => ?_) (fun c7_ => ?_)
  · skip
    exact s_X4_isBefore_35 im5 km5
  · skip
    refine w_if (fun c8_ => ?_) (fun c8_ => ?_)
    · skip
      have w9_ := iand_l (x := l0) (y := b18) (by omega) (by omega)
      have w10_ := iand_r (x := l0) (y := b18) (by omega) (by omega)
      refine w_if (fun c11_ => ?_) (fun c11_ => ?_)
      · skip
        exact w_ret ⟨im5, km5, (show 0 ≤ 0 ∧ 0 ≤ 1 from ⟨by omega, by omega⟩), trivial⟩
      · skip
        exact s_X4_isBefore_35 im5 km5
    · skip
      exact w_ret ⟨im5, km5, (show 0 ≤ 0 ∧ 0 ≤ 1 from ⟨by omega, by omega⟩), trivial⟩
def W_X4_leavesNothing (l1 : Int) (b j : Int) : Prop := False
theorem s_X4_leavesNothing_54 {n : Nat} {Me : Mem} {l1 : Int} (h_l1 : isWS l1) {k2 : Int → Int → Int → Int → Mem → Option (Int × Mem)} {fu2 : Nat} (hk2 : ∀ (l2 l3 : Int) (M : Mem), (0 ≤ l2 ∧ l2 ≤ 255) → (0 ≤ l3 ∧ l3 ≤ 64) → 65 - l3 < (fu2 : Int) → I n M → Keep n (W_X4_leavesNothing l1) Me M → wp (k2 2 l1 l2 l3 M) (fun q => I n q.2 ∧ Keep n (W_X4_leavesNothing l1) Me q.2 ∧ (0 ≤ q.1 ∧ q.1 ≤ 1) ∧ True)) {k21 : Int → Int → Int → Int → Int → Int → Mem → Option (Int × Mem)} {fu21 : Nat} (hk21 : ∀ (l2 l3 l4 l6 : Int) (M : Mem), (0 ≤ l2 ∧ l2 ≤ 255) → (0 ≤ l3 ∧ l3 ≤ 63) → (0 ≤ l6 ∧ l6 ≤ 8) → 65 - l3 < (fu2 : Int) + 1 → 9 - l6 < (fu21 : Int) → I n M → Keep n (W_X4_leavesNothing l1) Me M → wp (k21 2 l1 l2 l3 l4 l6 M) (fun q => I n q.2 ∧ Keep n (W_X4_leavesNothing l1) Me q.2 ∧ (0 ≤ q.1 ∧ q.1 ≤ 1) ∧ True)) {l2 l3 l4 l6 : Int} {M : Mem} (r_l2 : 0 ≤ l2 ∧ l2 ≤ 255) (r_l3 : 0 ≤ l3 ∧ l3 ≤ 63) (r_l6 : 0 ≤ l6 ∧ l6 ≤ 7) (hf2 : 65 - l3 < (fu2 : Int) + 1) (hf21 : 9 - l6 < (fu21 : Int) + 1) (iM : I n M) (kM : Keep n (W_X4_leavesNothing l1) Me M) : wp (mX4_leavesNothing_54 k2 k21 2 l1 l2 l3 l4 l6 M) (fun q => I n q.2 ∧ Keep n (W_X4_leavesNothing l1) Me q.2 ∧ (0 ≤ q.1 ∧ q.1 ≤ 1) ∧ True) := by
  have hn : (169 : Int) ≤ (n : Int) := by have := iM.2.2.2.2.1; omega
  have u_l1 := h_l1
  unfold isWS at u_l1
  unfold mX4_leavesNothing_54
  have w1_ := wI_id (x := (l6 + 1)) (by omega) (by omega)
  exact hk21 _ _ _ _ _ ⟨by omega, by omega⟩ ⟨by omega, by omega⟩ ⟨by omega, by omega⟩ (by omega) (by omega) iM kM
theorem sb_X4_leavesNothing_21 {n : Nat} {Me : Mem} {l1 : Int} (h_l1 : isWS l1) {k2 : Int → Int → Int → Int → Mem → Option (Int × Mem)} {fu2 : Nat} (hk2 : ∀ (l2 l3 : Int) (M : Mem), (0 ≤ l2 ∧ l2 ≤ 255) → (0 ≤ l3 ∧ l3 ≤ 64) → 65 - l3 < (fu2 : Int) → I n M → Keep n (W_X4_leavesNothing l1) Me M → wp (k2 2 l1 l2 l3 M) (fun q => I n q.2 ∧ Keep n (W_X4_leavesNothing l1) Me q.2 ∧ (0 ≤ q.1 ∧ q.1 ≤ 1) ∧ True)) {k21 : Int → Int → Int → Int → Int → Int → Mem → Option (Int × Mem)} {fu21 : Nat} (hk21 : ∀ (l2 l3 l4 l6 : Int) (M : Mem), (0 ≤ l2 ∧ l2 ≤ 255) → (0 ≤ l3 ∧ l3 ≤ 63) → (0 ≤ l6 ∧ l6 ≤ 8) → 65 - l3 < (fu2 : Int) + 1 → 9 - l6 < (fu21 : Int) → I n M → Keep n (W_X4_leavesNothing l1) Me M → wp (k21 2 l1 l2 l3 l4 l6 M) (fun q => I n q.2 ∧ Keep n (W_X4_leavesNothing l1) Me q.2 ∧ (0 ≤ q.1 ∧ q.1 ≤ 1) ∧ True)) {l2 l3 l4 l6 : Int} {M : Mem} (r_l2 : 0 ≤ l2 ∧ l2 ≤ 255) (r_l3 : 0 ≤ l3 ∧ l3 ≤ 63) (r_l6 : 0 ≤ l6 ∧ l6 ≤ 8) (hf2 : 65 - l3 < (fu2 : Int) + 1) (hf21 : 9 - l6 < (fu21 : Int) + 1) (iM : I n M) (kM : Keep n (W_X4_leavesNothing l1) Me M) : wp (bX4_leavesNothing_21 k2 k21 2 l1 l2 l3 l4 l6 M) (fun q => I n q.2 ∧ Keep n (W_X4_leavesNothing l1) Me q.2 ∧ (0 ≤ q.1 ∧ q.1 ≤ 1) ∧ True) := by
  have hn : (169 : Int) ≤ (n : Int) := by have := iM.2.2.2.2.1; omega
  have u_l1 := h_l1
  unfold isWS at u_l1
  unfold bX4_leavesNothing_21
  refine w_if (fun c1_ => ?_) (fun c1_ => ?_)
  · skip
    have w2_ := lcmp_0 (l4) (0)
    refine w_if (fun c3_ => ?_) (fun c3_ => ?_)
    · skip
      have w4_ := wI_id (x := (l3 + 1)) (by omega) (by omega)
      exact hk2 _ _ _ ⟨by omega, by omega⟩ ⟨by omega, by omega⟩ (by omega) iM kM
    · skip
      exact w_ret ⟨iM, kM, (show 0 ≤ 0 ∧ 0 ≤ 1 from ⟨by omega, by omega⟩), trivial⟩
  · skip
    have w5_ := ishr_b (x := l2) (k := l6) (by omega) (by omega) (by omega) (by omega)
    have w6_ := iand_l (x := (ishr l2 l6)) (y := 1) (by omega) (by omega)
    have w7_ := iand_r (x := (ishr l2 l6)) (y := 1) (by omega) (by omega)
    refine w_if (fun c8_ => ?_) (fun c8_ => ?_)
    · skip
      exact s_X4_leavesNothing_54 h_l1 hk2 hk21 ⟨by omega, by omega⟩ ⟨by omega, by omega⟩ ⟨by omega, by omega⟩ (by omega) (by omega) iM kM
    · skip
      refine w_gFc (ji := 3) rfl (congrArg Prod.fst (kl_2 iM)) (show mG M 2 3 = 31 from rd_Solver_3 iM (a := 2) rfl) ?_
      refine w_aG (kl_31 iM) (by omega) (by omega) (fun a45 ha45 => ?_)
      have ra45 : a45 = 47 + 2 * l6 := ha45.tr (P := fun z => z = 47 + 2 * l6) (rd_Vtruths iM rfl (by omega) (by omega))
      have h_a45 : isWS a45 := by unfold isWS; omega
      have u_a45 := h_a45
      unfold isWS at u_a45
      refine w_gFc (ji := 0) rfl (congrArg Prod.fst (k_WS iM h_a45)) (show mG M a45 0 = (a45 + 1) from rd_WS_0 iM (a := a45) (f_WS h_a45)) ?_
      refine w_aG (k_Wwords iM h_a45) (by omega) (by omega) (fun a50 ha50 => ?_)
      exact s_X4_leavesNothing_54 h_l1 hk2 hk21 ⟨by omega, by omega⟩ ⟨by omega, by omega⟩ ⟨by omega, by omega⟩ (by omega) (by omega) iM kM
theorem s_X4_leavesNothing_21 {n : Nat} {Me : Mem} {l1 : Int} (h_l1 : isWS l1) {k2 : Int → Int → Int → Int → Mem → Option (Int × Mem)} {fu2 : Nat} (hk2 : ∀ (l2 l3 : Int) (M : Mem), (0 ≤ l2 ∧ l2 ≤ 255) → (0 ≤ l3 ∧ l3 ≤ 64) → 65 - l3 < (fu2 : Int) → I n M → Keep n (W_X4_leavesNothing l1) Me M → wp (k2 2 l1 l2 l3 M) (fun q => I n q.2 ∧ Keep n (W_X4_leavesNothing l1) Me q.2 ∧ (0 ≤ q.1 ∧ q.1 ≤ 1) ∧ True)) : ∀ (fu : Nat) (l2 l3 l4 l6 : Int) (M : Mem), (0 ≤ l2 ∧ l2 ≤ 255) → (0 ≤ l3 ∧ l3 ≤ 63) → (0 ≤ l6 ∧ l6 ≤ 8) → 65 - l3 < (fu2 : Int) + 1 → 9 - l6 < (fu : Int) → I n M → Keep n (W_X4_leavesNothing l1) Me M → wp (mX4_leavesNothing_21 k2 fu 2 l1 l2 l3 l4 l6 M) (fun q => I n q.2 ∧ Keep n (W_X4_leavesNothing l1) Me q.2 ∧ (0 ≤ q.1 ∧ q.1 ≤ 1) ∧ True) := by
  intro fu
  induction fu with
  | zero =>
    intro l2 l3 l4 l6 M r_l2 r_l3 r_l6 hf2 hf iM kM
    exfalso
    omega
  | succ fu ih =>
    intro l2 l3 l4 l6 M r_l2 r_l3 r_l6 hf2 hf iM kM
    exact sb_X4_leavesNothing_21 h_l1 hk2 ih r_l2 r_l3 r_l6 hf2 (by have e : ((fu + 1 : Nat) : Int) = (fu : Int) + 1 := rfl; rw [e] at hf; exact hf) iM kM
theorem sb_X4_leavesNothing_2 {n : Nat} {Me : Mem} {l1 : Int} (h_l1 : isWS l1) {k2 : Int → Int → Int → Int → Mem → Option (Int × Mem)} {fu2 : Nat} (hk2 : ∀ (l2 l3 : Int) (M : Mem), (0 ≤ l2 ∧ l2 ≤ 255) → (0 ≤ l3 ∧ l3 ≤ 64) → 65 - l3 < (fu2 : Int) → I n M → Keep n (W_X4_leavesNothing l1) Me M → wp (k2 2 l1 l2 l3 M) (fun q => I n q.2 ∧ Keep n (W_X4_leavesNothing l1) Me q.2 ∧ (0 ≤ q.1 ∧ q.1 ≤ 1) ∧ True)) {l2 l3 : Int} {M : Mem} (r_l2 : 0 ≤ l2 ∧ l2 ≤ 255) (r_l3 : 0 ≤ l3 ∧ l3 ≤ 64) (hf2 : 65 - l3 < (fu2 : Int) + 1) (iM : I n M) (kM : Keep n (W_X4_leavesNothing l1) Me M) : wp (bX4_leavesNothing_2 k2 2 l1 l2 l3 M) (fun q => I n q.2 ∧ Keep n (W_X4_leavesNothing l1) Me q.2 ∧ (0 ≤ q.1 ∧ q.1 ≤ 1) ∧ True) := by
  have hn : (169 : Int) ≤ (n : Int) := by have := iM.2.2.2.2.1; omega
  have u_l1 := h_l1
  unfold isWS at u_l1
  unfold bX4_leavesNothing_2
  refine w_gK (congrArg Prod.fst (k_WS iM h_l1)) ?_
  refine w_call (s_X7_usedWords h_l1 iM) ?_
  intro v4 m4 pp4
  obtain ⟨im4, kk4, e4_0, -⟩ := pp4
  try dsimp only
  replace im4 : I n m4 := im4
  replace kk4 : Keep n (W_X7_usedWords l1) M m4 := kk4
  have km4 : Keep n (W_X4_leavesNothing l1) Me m4 := kM.tr kk4 (fun b j z => z.elim)
  replace e4_0 : 0 ≤ v4 ∧ v4 ≤ 64 := e4_0
  refine w_if (fun c1_ => ?_) (fun c1_ => ?_)
  · skip
    exact w_ret ⟨im4, km4, (show 0 ≤ 1 ∧ 1 ≤ 1 from ⟨by omega, by omega⟩), trivial⟩
  · skip
    refine w_gFc (ji := 0) rfl (congrArg Prod.fst (k_WS im4 h_l1)) (show mG m4 l1 0 = (l1 + 1) from rd_WS_0 im4 (a := l1) (f_WS h_l1)) ?_
    refine w_aG (k_Wwords im4 h_l1) (by omega) (by omega) (fun a15 ha15 => ?_)
    exact s_X4_leavesNothing_21 h_l1 hk2 FU _ _ _ _ _ ⟨by omega, by omega⟩ ⟨by omega, by omega⟩ ⟨by omega, by omega⟩ (by omega) (by show _ < (70000 : Int); omega) im4 km4
theorem s_X4_leavesNothing_2 {n : Nat} {Me : Mem} {l1 : Int} (h_l1 : isWS l1) : ∀ (fu : Nat) (l2 l3 : Int) (M : Mem), (0 ≤ l2 ∧ l2 ≤ 255) → (0 ≤ l3 ∧ l3 ≤ 64) → 65 - l3 < (fu : Int) → I n M → Keep n (W_X4_leavesNothing l1) Me M → wp (mX4_leavesNothing_2 fu 2 l1 l2 l3 M) (fun q => I n q.2 ∧ Keep n (W_X4_leavesNothing l1) Me q.2 ∧ (0 ≤ q.1 ∧ q.1 ≤ 1) ∧ True) := by
  intro fu
  induction fu with
  | zero =>
    intro l2 l3 M r_l2 r_l3 hf iM kM
    exfalso
    omega
  | succ fu ih =>
    intro l2 l3 M r_l2 r_l3 hf iM kM
    exact sb_X4_leavesNothing_2 h_l1 ih r_l2 r_l3 (by have e : ((fu + 1 : Nat) : Int) = (fu : Int) + 1 := rfl; rw [e] at hf; exact hf) iM kM
theorem s_X4_leavesNothing {n : Nat} {l1 l2 : Int} {M : Mem} (h_l1 : isWS l1) (r_l2 : 0 ≤ l2 ∧ l2 ≤ 255) (iM : I n M) : wp (mX4_leavesNothing 2 l1 l2 M) (fun q => I n q.2 ∧ Keep n (W_X4_leavesNothing l1) M q.2 ∧ (0 ≤ q.1 ∧ q.1 ≤ 1) ∧ True) := by
  have hn : (169 : Int) ≤ (n : Int) := by have := iM.2.2.2.2.1; omega
  have kM : Keep n (W_X4_leavesNothing l1) M M := Keep.rf
  have u_l1 := h_l1
  unfold isWS at u_l1
  unfold mX4_leavesNothing
  exact s_X4_leavesNothing_2 h_l1 FU _ _ _ ⟨by omega, by omega⟩ ⟨by omega, by omega⟩ (by show _ < (70000 : Int); omega) iM kM
def W_X4_fewestAgainst (l1 : Int) (b j : Int) : Prop := False
theorem s_X4_fewestAgainst_64 {n : Nat} {Me : Mem} {l1 : Int} (h_l1 : isWS l1) {k13 : Int → Int → Int → Int → Int → Mem → Option (Int × Mem)} {fu13 : Nat} (hk13 : ∀ (l2 l3 l4 : Int) (M : Mem), (0 ≤ l2 ∧ l2 ≤ 255) → (0 ≤ l3 ∧ l3 ≤ 255) → (0 ≤ l4 ∧ l4 ≤ 256) → 257 - l4 < (fu13 : Int) → I n M → Keep n (W_X4_fewestAgainst l1) Me M → wp (k13 2 l1 l2 l3 l4 M) (fun q => I n q.2 ∧ Keep n (W_X4_fewestAgainst l1) Me q.2 ∧ (0 ≤ q.1 ∧ q.1 ≤ 255) ∧ True)) {l2 l3 l4 : Int} {M : Mem} (r_l2 : 0 ≤ l2 ∧ l2 ≤ 255) (r_l3 : 0 ≤ l3 ∧ l3 ≤ 255) (r_l4 : 0 ≤ l4 ∧ l4 ≤ 255) (hf13 : 257 - l4 < (fu13 : Int) + 1) (iM : I n M) (kM : Keep n (W_X4_fewestAgainst l1) Me M) : wp (mX4_fewestAgainst_64 k13 2 l1 l2 l3 l4 M) (fun q => I n q.2 ∧ Keep n (W_X4_fewestAgainst l1) Me q.2 ∧ (0 ≤ q.1 ∧ q.1 ≤ 255) ∧ True) := by
  have hn : (169 : Int) ≤ (n : Int) := by have := iM.2.2.2.2.1; omega
  have u_l1 := h_l1
  unfold isWS at u_l1
  unfold mX4_fewestAgainst_64
  have w1_ := wI_id (x := (l4 + 1)) (by omega) (by omega)
  exact hk13 _ _ _ _ ⟨by omega, by omega⟩ ⟨by omega, by omega⟩ ⟨by omega, by omega⟩ (by omega) iM kM
theorem s_X4_fewestAgainst_44 {n : Nat} {Me : Mem} {l1 : Int} (h_l1 : isWS l1) {k13 : Int → Int → Int → Int → Int → Mem → Option (Int × Mem)} {fu13 : Nat} (hk13 : ∀ (l2 l3 l4 : Int) (M : Mem), (0 ≤ l2 ∧ l2 ≤ 255) → (0 ≤ l3 ∧ l3 ≤ 255) → (0 ≤ l4 ∧ l4 ≤ 256) → 257 - l4 < (fu13 : Int) → I n M → Keep n (W_X4_fewestAgainst l1) Me M → wp (k13 2 l1 l2 l3 l4 M) (fun q => I n q.2 ∧ Keep n (W_X4_fewestAgainst l1) Me q.2 ∧ (0 ≤ q.1 ∧ q.1 ≤ 255) ∧ True)) {l2 l3 l4 s0 : Int} {M : Mem} (r_l2 : 0 ≤ l2 ∧ l2 ≤ 255) (r_l3 : 0 ≤ l3 ∧ l3 ≤ 255) (r_l4 : 0 ≤ l4 ∧ l4 ≤ 255) (r_s0 : 0 ≤ s0 ∧ s0 ≤ 1) (hf13 : 257 - l4 < (fu13 : Int) + 1) (iM : I n M) (kM : Keep n (W_X4_fewestAgainst l1) Me M) : wp (mX4_fewestAgainst_44 k13 2 l1 l2 l3 l4 s0 M) (fun q => I n q.2 ∧ Keep n (W_X4_fewestAgainst l1) Me q.2 ∧ (0 ≤ q.1 ∧ q.1 ≤ 255) ∧ True) := by
  have hn : (169 : Int) ≤ (n : Int) := by have := iM.2.2.2.2.1; omega
  have u_l1 := h_l1
  unfold isWS at u_l1
  unfold mX4_fewestAgainst_44
  refine w_if (fun c1_ => ?_) (fun c1_ => ?_)
  · skip
    exact s_X4_fewestAgainst_64 h_l1 hk13 ⟨by omega, by omega⟩ ⟨by omega, by omega⟩ ⟨by omega, by omega⟩ (by omega) iM kM
  · skip
    refine w_gK (congrArg Prod.fst (kl_2 iM)) ?_
    refine w_call (s_X4_leavesNothing h_l1 ⟨by omega, by omega⟩ iM) ?_
    intro v55 m55 pp55
    obtain ⟨im55, kk55, e55_0, -⟩ := pp55
    try dsimp only
    replace im55 : I n m55 := im55
    replace kk55 : Keep n (W_X4_leavesNothing l1) M m55 := kk55
    have km55 : Keep n (W_X4_fewestAgainst l1) Me m55 := kM.tr kk55 (fun b j z => z.elim)
    replace e55_0 : 0 ≤ v55 ∧ v55 ≤ 1 := e55_0
    refine w_if (fun c2_ => ?_) (fun c2_ => ?_)
    · skip
      exact s_X4_fewestAgainst_64 h_l1 hk13 ⟨by omega, by omega⟩ ⟨by omega, by omega⟩ ⟨by omega, by omega⟩ (by omega) im55 km55
    · skip
      exact s_X4_fewestAgainst_64 h_l1 hk13 ⟨by omega, by omega⟩ ⟨by omega, by omega⟩ ⟨by omega, by omega⟩ (by omega) im55 km55
theorem s_X4_fewestAgainst_43 {n : Nat} {Me : Mem} {l1 : Int} (h_l1 : isWS l1) {k13 : Int → Int → Int → Int → Int → Mem → Option (Int × Mem)} {fu13 : Nat} (hk13 : ∀ (l2 l3 l4 : Int) (M : Mem), (0 ≤ l2 ∧ l2 ≤ 255) → (0 ≤ l3 ∧ l3 ≤ 255) → (0 ≤ l4 ∧ l4 ≤ 256) → 257 - l4 < (fu13 : Int) → I n M → Keep n (W_X4_fewestAgainst l1) Me M → wp (k13 2 l1 l2 l3 l4 M) (fun q => I n q.2 ∧ Keep n (W_X4_fewestAgainst l1) Me q.2 ∧ (0 ≤ q.1 ∧ q.1 ≤ 255) ∧ True)) {l2 l3 l4 : Int} {M : Mem} (r_l2 : 0 ≤ l2 ∧ l2 ≤ 255) (r_l3 : 0 ≤ l3 ∧ l3 ≤ 255) (r_l4 : 0 ≤ l4 ∧ l4 ≤ 255) (hf13 : 257 - l4 < (fu13 : Int) + 1) (iM : I n M) (kM : Keep n (W_X4_fewestAgainst l1) Me M) : wp (mX4_fewestAgainst_43 k13 2 l1 l2 l3 l4 M) (fun q => I n q.2 ∧ Keep n (W_X4_fewestAgainst l1) Me q.2 ∧ (0 ≤ q.1 ∧ q.1 ≤ 255) ∧ True) := by
  have hn : (169 : Int) ≤ (n : Int) := by have := iM.2.2.2.2.1; omega
  have u_l1 := h_l1
  unfold isWS at u_l1
  unfold mX4_fewestAgainst_43
  exact s_X4_fewestAgainst_44 h_l1 hk13 ⟨by omega, by omega⟩ ⟨by omega, by omega⟩ ⟨by omega, by omega⟩ ⟨by omega, by omega⟩ (by omega) iM kM
theorem sb_X4_fewestAgainst_13 {n : Nat} {Me : Mem} {l1 : Int} (h_l1 : isWS l1) {k13 : Int → Int → Int → Int → Int → Mem → Option (Int × Mem)} {fu13 : Nat} (hk13 : ∀ (l2 l3 l4 : Int) (M : Mem), (0 ≤ l2 ∧ l2 ≤ 255) → (0 ≤ l3 ∧ l3 ≤ 255) → (0 ≤ l4 ∧ l4 ≤ 256) → 257 - l4 < (fu13 : Int) → I n M → Keep n (W_X4_fewestAgainst l1) Me M → wp (k13 2 l1 l2 l3 l4 M) (fun q => I n q.2 ∧ Keep n (W_X4_fewestAgainst l1) Me q.2 ∧ (0 ≤ q.1 ∧ q.1 ≤ 255) ∧ True)) {l2 l3 l4 : Int} {M : Mem} (r_l2 : 0 ≤ l2 ∧ l2 ≤ 255) (r_l3 : 0 ≤ l3 ∧ l3 ≤ 255) (r_l4 : 0 ≤ l4 ∧ l4 ≤ 256) (hf13 : 257 - l4 < (fu13 : Int) + 1) (iM : I n M) (kM : Keep n (W_X4_fewestAgainst l1) Me M) : wp (bX4_fewestAgainst_13 k13 2 l1 l2 l3 l4 M) (fun q => I n q.2 ∧ Keep n (W_X4_fewestAgainst l1) Me q.2 ∧ (0 ≤ q.1 ∧ q.1 ≤ 255) ∧ True) := by
  have hn : (169 : Int) ≤ (n : Int) := by have := iM.2.2.2.2.1; omega
  have u_l1 := h_l1
  unfold isWS at u_l1
  unfold bX4_fewestAgainst_13
  refine w_if (fun c1_ => ?_) (fun c1_ => ?_)
  · skip
    exact w_ret ⟨iM, kM, (show 0 ≤ l3 ∧ l3 ≤ 255 from ⟨by omega, by omega⟩), trivial⟩
  · skip
    have w2_ := ixor_in l2 (-1)
    have w3_ := iand_l (x := l4) (y := (ixor l2 (-1))) (by omega) (by omega)
    refine w_if (fun c5_ => ?_) (fun c5_ => ?_)
    · skip
      refine w_call (s_X4_isBefore ⟨by omega, by omega⟩ ⟨by omega, by omega⟩ iM) ?_
      intro v33 m33 pp33
      obtain ⟨im33, kk33, e33_0, -⟩ := pp33
      try dsimp only
      replace im33 : I n m33 := im33
      replace kk33 : Keep n W_X4_isBefore M m33 := kk33
      have km33 : Keep n (W_X4_fewestAgainst l1) Me m33 := kM.tr kk33 (fun b j z => z.elim)
      replace e33_0 : 0 ≤ v33 ∧ v33 ≤ 1 := e33_0
      refine w_if (fun c6_ => ?_) (fun c6_ => ?_)
      · skip
        exact s_X4_fewestAgainst_43 h_l1 hk13 ⟨by omega, by omega⟩ ⟨by omega, by omega⟩ ⟨by omega, by omega⟩ (by omega) im33 km33
      · skip
        exact s_X4_fewestAgainst_44 h_l1 hk13 ⟨by omega, by omega⟩ ⟨by omega, by omega⟩ ⟨by omega, by omega⟩ ⟨by omega, by omega⟩ (by omega) im33 km33
    · skip
      exact s_X4_fewestAgainst_43 h_l1 hk13 ⟨by omega, by omega⟩ ⟨by omega, by omega⟩ ⟨by omega, by omega⟩ (by omega) iM kM
theorem s_X4_fewestAgainst_13 {n : Nat} {Me : Mem} {l1 : Int} (h_l1 : isWS l1) : ∀ (fu : Nat) (l2 l3 l4 : Int) (M : Mem), (0 ≤ l2 ∧ l2 ≤ 255) → (0 ≤ l3 ∧ l3 ≤ 255) → (0 ≤ l4 ∧ l4 ≤ 256) → 257 - l4 < (fu : Int) → I n M → Keep n (W_X4_fewestAgainst l1) Me M → wp (mX4_fewestAgainst_13 fu 2 l1 l2 l3 l4 M) (fun q => I n q.2 ∧ Keep n (W_X4_fewestAgainst l1) Me q.2 ∧ (0 ≤ q.1 ∧ q.1 ≤ 255) ∧ True) := by
  intro fu
  induction fu with
  | zero =>
    intro l2 l3 l4 M r_l2 r_l3 r_l4 hf iM kM
    exfalso
    omega
  | succ fu ih =>
    intro l2 l3 l4 M r_l2 r_l3 r_l4 hf iM kM
    exact sb_X4_fewestAgainst_13 h_l1 ih r_l2 r_l3 r_l4 (by have e : ((fu + 1 : Nat) : Int) = (fu : Int) + 1 := rfl; rw [e] at hf; exact hf) iM kM
theorem s_X4_fewestAgainst {n : Nat} {l1 : Int} {M : Mem} (h_l1 : isWS l1) (iM : I n M) : wp (mX4_fewestAgainst 2 l1 M) (fun q => I n q.2 ∧ Keep n (W_X4_fewestAgainst l1) M q.2 ∧ (0 ≤ q.1 ∧ q.1 ≤ 255) ∧ True) := by
  have hn : (169 : Int) ≤ (n : Int) := by have := iM.2.2.2.2.1; omega
  have kM : Keep n (W_X4_fewestAgainst l1) M M := Keep.rf
  have u_l1 := h_l1
  unfold isWS at u_l1
  unfold mX4_fewestAgainst
  refine w_gFc (ji := 0) rfl (congrArg Prod.fst (kl_2 iM)) (show mG M 2 0 = 3 from rd_Solver_0 iM (a := 2) rfl) ?_
  refine w_gK (congrArg Prod.fst (kl_3 iM)) ?_
  refine w_call (s_X6_viewedStories iM) ?_
  intro v4 m4 pp4
  obtain ⟨im4, kk4, e4_0, -⟩ := pp4
  try dsimp only
  replace im4 : I n m4 := im4
  replace kk4 : Keep n W_X6_viewedStories M m4 := kk4
  have km4 : Keep n (W_X4_fewestAgainst l1) M m4 := kM.tr kk4 (fun b j z => z.elim)
  replace e4_0 : 0 ≤ v4 ∧ v4 ≤ 255 := e4_0
  exact s_X4_fewestAgainst_13 h_l1 FU _ _ _ _ ⟨by omega, by omega⟩ ⟨by omega, by omega⟩ ⟨by omega, by omega⟩ (by show _ < (70000 : Int); omega) im4 km4
def W_X4_coreStories (b j : Int) : Prop := (21 ≤ b ∧ b ≤ 23) ∨ b = 33 ∨ b = 35 ∨ isWS (b - 1) ∨ (b = 2 ∧ j = 4) ∨ (b = 20 ∧ j = 0) ∨ (b = 20 ∧ j = 1) ∨ (b = 20 ∧ j = 5) ∨ (b = 32 ∧ j = 1) ∨ (b = 32 ∧ j = 2) ∨ (b = 34 ∧ j = 1) ∨ (b = 34 ∧ j = 2) ∨ (isWS b ∧ j = 1) ∨ (isWS b ∧ j = 2)
theorem s_X4_coreStories {n : Nat} {M : Mem} (iM : I n M) : wp (mX4_coreStories 2 M) (fun q => I n q.2 ∧ Keep n W_X4_coreStories M q.2 ∧ (0 ≤ q.1 ∧ q.1 ≤ 255) ∧ True) := by
  have hn : (169 : Int) ≤ (n : Int) := by have := iM.2.2.2.2.1; omega
  have kM : Keep n W_X4_coreStories M M := Keep.rf
  unfold mX4_coreStories
  refine w_gK (congrArg Prod.fst (kl_2 iM)) ?_
  refine w_call (s_X4_lookUp iM) ?_
  intro v1 m1 pp1
  obtain ⟨im1, kk1, e1_0, -⟩ := pp1
  try dsimp only
  replace im1 : I n m1 := im1
  replace kk1 : Keep n W_X4_lookUp M m1 := kk1
  have km1 : Keep n W_X4_coreStories M m1 := kM.tr kk1 (fun b j z => Or.elim z (fun z => (Or.inl z)) (fun z => Or.elim z (fun z => (Or.inr (Or.inl z))) (fun z => Or.elim z (fun z => (Or.inr (Or.inr (Or.inl z)))) (fun z => Or.elim z (fun z => (Or.inr (Or.inr (Or.inr (Or.inl z))))) (fun z => Or.elim z (fun z => (Or.inr (Or.inr (Or.inr (Or.inr (Or.inl z)))))) (fun z => Or.elim z (fun z => (Or.inr (Or.inr (Or.inr (Or.inr (Or.inr (Or.inl z))))))) (fun z => Or.elim z (fun z => (Or.inr (Or.inr (Or.inr (Or.inr (Or.inr (Or.inr (Or.inl z)))))))) (fun z => Or.elim z (fun z => (Or.inr (Or.inr (Or.inr (Or.inr (Or.inr (Or.inr (Or.inr (Or.inl z))))))))) (fun z => Or.elim z (fun z => (Or.inr (Or.inr (Or.inr (Or.inr (Or.inr (Or.inr (Or.inr (Or.inr (Or.inl z)))))))))) (fun z => Or.elim z (fun z => (Or.inr (Or.inr (Or.inr (Or.inr (Or.inr (Or.inr (Or.inr (Or.inr (Or.inr (Or.inl z))))))))))) (fun z => Or.elim z (fun z => (Or.inr (Or.inr (Or.inr (Or.inr (Or.inr (Or.inr (Or.inr (Or.inr (Or.inr (Or.inr (Or.inl z)))))))))))) (fun z => Or.elim z (fun z => (Or.inr (Or.inr (Or.inr (Or.inr (Or.inr (Or.inr (Or.inr (Or.inr (Or.inr (Or.inr (Or.inr (Or.inl z))))))))))))) (fun z => Or.elim z (fun z => (Or.inr (Or.inr (Or.inr (Or.inr (Or.inr (Or.inr (Or.inr (Or.inr (Or.inr (Or.inr (Or.inr (Or.inr (Or.inl z)))))))))))))) (fun z => (Or.inr (Or.inr (Or.inr (Or.inr (Or.inr (Or.inr (Or.inr (Or.inr (Or.inr (Or.inr (Or.inr (Or.inr (Or.inr z)))))))))))))))))))))))))))
  replace e1_0 : 0 ≤ v1 ∧ v1 ≤ 1 := e1_0
  refine w_if (fun c1_ => ?_) (fun c1_ => ?_)
  · skip
    exact w_ret ⟨im1, km1, (show 0 ≤ 0 ∧ 0 ≤ 255 from ⟨by omega, by omega⟩), trivial⟩
  · skip
    refine w_gFc (ji := 6) rfl (congrArg Prod.fst (kl_2 im1)) (show mG m1 2 6 = 34 from rd_Solver_6 im1 (a := 2) rfl) ?_
    refine w_gK (congrArg Prod.fst (kl_34 im1)) ?_
    refine w_call (s_X7_isNothing (by unfold isWS; omega) im1) ?_
    intro v11 m11 pp11
    obtain ⟨im11, kk11, e11_0, -⟩ := pp11
    try dsimp only
    replace im11 : I n m11 := im11
    replace kk11 : Keep n (W_X7_isNothing 34) m1 m11 := kk11
    have km11 : Keep n W_X4_coreStories M m11 := km1.tr kk11 (fun b j z => z.elim)
    replace e11_0 : 0 ≤ v11 ∧ v11 ≤ 1 := e11_0
    refine w_if (fun c2_ => ?_) (fun c2_ => ?_)
    · skip
      exact w_ret ⟨im11, km11, (show 0 ≤ 0 ∧ 0 ≤ 255 from ⟨by omega, by omega⟩), trivial⟩
    · skip
      refine w_gFc (ji := 5) rfl (congrArg Prod.fst (kl_2 im11)) (show mG m11 2 5 = 32 from rd_Solver_5 im11 (a := 2) rfl) ?_
      refine w_gK (congrArg Prod.fst (kl_2 im11)) ?_
      refine w_call (s_X4_fewestAgainst (by unfold isWS; omega) im11) ?_
      intro v22 m22 pp22
      obtain ⟨im22, kk22, e22_0, -⟩ := pp22
      try dsimp only
      replace im22 : I n m22 := im22
      replace kk22 : Keep n (W_X4_fewestAgainst 32) m11 m22 := kk22
      have km22 : Keep n W_X4_coreStories M m22 := km11.tr kk22 (fun b j z => z.elim)
      replace e22_0 : 0 ≤ v22 ∧ v22 ≤ 255 := e22_0
      exact w_ret ⟨im22, km22, (show 0 ≤ v22 ∧ v22 ≤ 255 from ⟨by omega, by omega⟩), trivial⟩
def W_X8_nthBit (b j : Int) : Prop := False
theorem s_X8_nthBit_27 {n : Nat} {Me : Mem} {k4 : Int → Int → Int → Mem → Option (Int × Mem)} {fu4 : Nat} (hk4 : ∀ (l0 l2 l3 : Int) (M : Mem), (0 ≤ l0 ∧ l0 ≤ 255) → ((-2147483648) ≤ l2 ∧ l2 ≤ 2147483647) → (0 ≤ l3 ∧ l3 ≤ 8) → 9 - l3 < (fu4 : Int) → I n M → Keep n W_X8_nthBit Me M → wp (k4 l0 l2 l3 M) (fun q => I n q.2 ∧ Keep n W_X8_nthBit Me q.2 ∧ ((-1) ≤ q.1 ∧ q.1 ≤ 7) ∧ True)) {l0 l2 l3 : Int} {M : Mem} (r_l0 : 0 ≤ l0 ∧ l0 ≤ 255) (r_l2 : (-2147483648) ≤ l2 ∧ l2 ≤ 2147483647) (r_l3 : 0 ≤ l3 ∧ l3 ≤ 7) (hf4 : 9 - l3 < (fu4 : Int) + 1) (iM : I n M) (kM : Keep n W_X8_nthBit Me M) : wp (mX8_nthBit_27 k4 l0 l2 l3 M) (fun q => I n q.2 ∧ Keep n W_X8_nthBit Me q.2 ∧ ((-1) ≤ q.1 ∧ q.1 ≤ 7) ∧ True) := by
  have hn : (169 : Int) ≤ (n : Int) := by have := iM.2.2.2.2.1; omega
  unfold mX8_nthBit_27
  have w1_ := wI_id (x := (l3 + 1)) (by omega) (by omega)
  exact hk4 _ _ _ _ ⟨by omega, by omega⟩ ⟨by omega, by omega⟩ ⟨by omega, by omega⟩ (by omega) iM kM
theorem sb_X8_nthBit_4 {n : Nat} {Me : Mem} {k4 : Int → Int → Int → Mem → Option (Int × Mem)} {fu4 : Nat} (hk4 : ∀ (l0 l2 l3 : Int) (M : Mem), (0 ≤ l0 ∧ l0 ≤ 255) → ((-2147483648) ≤ l2 ∧ l2 ≤ 2147483647) → (0 ≤ l3 ∧ l3 ≤ 8) → 9 - l3 < (fu4 : Int) → I n M → Keep n W_X8_nthBit Me M → wp (k4 l0 l2 l3 M) (fun q => I n q.2 ∧ Keep n W_X8_nthBit Me q.2 ∧ ((-1) ≤ q.1 ∧ q.1 ≤ 7) ∧ True)) {l0 l2 l3 : Int} {M : Mem} (r_l0 : 0 ≤ l0 ∧ l0 ≤ 255) (r_l2 : (-2147483648) ≤ l2 ∧ l2 ≤ 2147483647) (r_l3 : 0 ≤ l3 ∧ l3 ≤ 8) (hf4 : 9 - l3 < (fu4 : Int) + 1) (iM : I n M) (kM : Keep n W_X8_nthBit Me M) : wp (bX8_nthBit_4 k4 l0 l2 l3 M) (fun q => I n q.2 ∧ Keep n W_X8_nthBit Me q.2 ∧ ((-1) ≤ q.1 ∧ q.1 ≤ 7) ∧ True) := by
  have hn : (169 : Int) ≤ (n : Int) := by have := iM.2.2.2.2.1; omega
  unfold bX8_nthBit_4
  refine w_if (fun c1_ => ?_) (fun c1_ => ?_)
  · skip
    exact w_ret ⟨iM, kM, (show (-1) ≤ (-1) ∧ (-1) ≤ 7 from ⟨by omega, by omega⟩), trivial⟩
  · skip
    have w2_ := ishr_b (x := l0) (k := l3) (by omega) (by omega) (by omega) (by omega)
    have w3_ := iand_l (x := (ishr l0 l3)) (y := 1) (by omega) (by omega)
    have w4_ := iand_r (x := (ishr l0 l3)) (y := 1) (by omega) (by omega)
    refine w_if (fun c5_ => ?_) (fun c5_ => ?_)
    · skip
      exact s_X8_nthBit_27 hk4 ⟨by omega, by omega⟩ ⟨by omega, by omega⟩ ⟨by omega, by omega⟩ (by omega) iM kM
    · skip
      refine w_if (fun c6_ => ?_) (fun c6_ => ?_)
      · skip
        exact w_ret ⟨iM, kM, (show (-1) ≤ l3 ∧ l3 ≤ 7 from ⟨by omega, by omega⟩), trivial⟩
      · skip
        have w7_ := And.intro (wI_lo (l2 + (-1))) (wI_hi (l2 + (-1)))
        exact s_X8_nthBit_27 hk4 ⟨by omega, by omega⟩ ⟨by omega, by omega⟩ ⟨by omega, by omega⟩ (by omega) iM kM
theorem s_X8_nthBit_4 {n : Nat} {Me : Mem} : ∀ (fu : Nat) (l0 l2 l3 : Int) (M : Mem), (0 ≤ l0 ∧ l0 ≤ 255) → ((-2147483648) ≤ l2 ∧ l2 ≤ 2147483647) → (0 ≤ l3 ∧ l3 ≤ 8) → 9 - l3 < (fu : Int) → I n M → Keep n W_X8_nthBit Me M → wp (mX8_nthBit_4 fu l0 l2 l3 M) (fun q => I n q.2 ∧ Keep n W_X8_nthBit Me q.2 ∧ ((-1) ≤ q.1 ∧ q.1 ≤ 7) ∧ True) := by
  intro fu
  induction fu with
  | zero =>
    intro l0 l2 l3 M r_l0 r_l2 r_l3 hf iM kM
    exfalso
    omega
  | succ fu ih =>
    intro l0 l2 l3 M r_l0 r_l2 r_l3 hf iM kM
    exact sb_X8_nthBit_4 ih r_l0 r_l2 r_l3 (by have e : ((fu + 1 : Nat) : Int) = (fu : Int) + 1 := rfl; rw [e] at hf; exact hf) iM kM
theorem s_X8_nthBit {n : Nat} {l0 l1 : Int} {M : Mem} (r_l0 : 0 ≤ l0 ∧ l0 ≤ 255) (r_l1 : (-2147483648) ≤ l1 ∧ l1 ≤ 2147483647) (iM : I n M) : wp (mX8_nthBit l0 l1 M) (fun q => I n q.2 ∧ Keep n W_X8_nthBit M q.2 ∧ ((-1) ≤ q.1 ∧ q.1 ≤ 7) ∧ True) := by
  have hn : (169 : Int) ≤ (n : Int) := by have := iM.2.2.2.2.1; omega
  have kM : Keep n W_X8_nthBit M M := Keep.rf
  unfold mX8_nthBit
  exact s_X8_nthBit_4 FU _ _ _ _ ⟨by omega, by omega⟩ ⟨by omega, by omega⟩ ⟨by omega, by omega⟩ (by show _ < (70000 : Int); omega) iM kM
def W_X8_core (b j : Int) : Prop := (21 ≤ b ∧ b ≤ 23) ∨ b = 33 ∨ b = 35 ∨ isWS (b - 1) ∨ (b = 2 ∧ j = 4) ∨ (b = 20 ∧ j = 0) ∨ (b = 20 ∧ j = 1) ∨ (b = 20 ∧ j = 5) ∨ (b = 32 ∧ j = 1) ∨ (b = 32 ∧ j = 2) ∨ (b = 34 ∧ j = 1) ∨ (b = 34 ∧ j = 2) ∨ (isWS b ∧ j = 1) ∨ (isWS b ∧ j = 2)
theorem s_X8_core {n : Nat} {l1 : Int} {M : Mem} (r_l1 : (-2147483648) ≤ l1 ∧ l1 ≤ 2147483647) (iM : I n M) : wp (mX8_core 1 l1 M) (fun q => I n q.2 ∧ Keep n W_X8_core M q.2 ∧ ((-1) ≤ q.1 ∧ q.1 ≤ 7) ∧ True) := by
  have hn : (169 : Int) ≤ (n : Int) := by have := iM.2.2.2.2.1; omega
  have kM : Keep n W_X8_core M M := Keep.rf
  unfold mX8_core
  refine w_gFc (ji := 0) rfl (congrArg Prod.fst (kl_1 iM)) (show mG M 1 0 = 2 from rd_VS_0 iM (a := 1) rfl) ?_
  refine w_gK (congrArg Prod.fst (kl_2 iM)) ?_
  refine w_call (s_X4_coreStories iM) ?_
  intro v4 m4 pp4
  obtain ⟨im4, kk4, e4_0, -⟩ := pp4
  try dsimp only
  replace im4 : I n m4 := im4
  replace kk4 : Keep n W_X4_coreStories M m4 := kk4
  have km4 : Keep n W_X8_core M m4 := kM.tr kk4 (fun b j z => Or.elim z (fun z => (Or.inl z)) (fun z => Or.elim z (fun z => (Or.inr (Or.inl z))) (fun z => Or.elim z (fun z => (Or.inr (Or.inr (Or.inl z)))) (fun z => Or.elim z (fun z => (Or.inr (Or.inr (Or.inr (Or.inl z))))) (fun z => Or.elim z (fun z => (Or.inr (Or.inr (Or.inr (Or.inr (Or.inl z)))))) (fun z => Or.elim z (fun z => (Or.inr (Or.inr (Or.inr (Or.inr (Or.inr (Or.inl z))))))) (fun z => Or.elim z (fun z => (Or.inr (Or.inr (Or.inr (Or.inr (Or.inr (Or.inr (Or.inl z)))))))) (fun z => Or.elim z (fun z => (Or.inr (Or.inr (Or.inr (Or.inr (Or.inr (Or.inr (Or.inr (Or.inl z))))))))) (fun z => Or.elim z (fun z => (Or.inr (Or.inr (Or.inr (Or.inr (Or.inr (Or.inr (Or.inr (Or.inr (Or.inl z)))))))))) (fun z => Or.elim z (fun z => (Or.inr (Or.inr (Or.inr (Or.inr (Or.inr (Or.inr (Or.inr (Or.inr (Or.inr (Or.inl z))))))))))) (fun z => Or.elim z (fun z => (Or.inr (Or.inr (Or.inr (Or.inr (Or.inr (Or.inr (Or.inr (Or.inr (Or.inr (Or.inr (Or.inl z)))))))))))) (fun z => Or.elim z (fun z => (Or.inr (Or.inr (Or.inr (Or.inr (Or.inr (Or.inr (Or.inr (Or.inr (Or.inr (Or.inr (Or.inr (Or.inl z))))))))))))) (fun z => Or.elim z (fun z => (Or.inr (Or.inr (Or.inr (Or.inr (Or.inr (Or.inr (Or.inr (Or.inr (Or.inr (Or.inr (Or.inr (Or.inr (Or.inl z)))))))))))))) (fun z => (Or.inr (Or.inr (Or.inr (Or.inr (Or.inr (Or.inr (Or.inr (Or.inr (Or.inr (Or.inr (Or.inr (Or.inr (Or.inr z)))))))))))))))))))))))))))
  replace e4_0 : 0 ≤ v4 ∧ v4 ≤ 255 := e4_0
  refine w_call (s_X8_nthBit ⟨by omega, by omega⟩ ⟨by omega, by omega⟩ im4) ?_
  intro v8 m8 pp8
  obtain ⟨im8, kk8, e8_0, -⟩ := pp8
  try dsimp only
  replace im8 : I n m8 := im8
  replace kk8 : Keep n W_X8_nthBit m4 m8 := kk8
  have km8 : Keep n W_X8_core M m8 := km4.tr kk8 (fun b j z => z.elim)
  replace e8_0 : (-1) ≤ v8 ∧ v8 ≤ 7 := e8_0
  exact w_ret ⟨im8, km8, (show (-1) ≤ v8 ∧ v8 ≤ 7 from ⟨by omega, by omega⟩), trivial⟩
def W_X7_countWhere (l0 : Int) (b j : Int) : Prop := False
theorem sb_X7_countWhere_4 {n : Nat} {Me : Mem} {l0 : Int} (h_l0 : isWS l0) {k4 : Int → Int → Int → Int → Mem → Option (Int × Mem)} {fu4 : Nat} (hk4 : ∀ (l1 l2 l3 : Int) (M : Mem), ((-36) ≤ l1 ∧ l1 ≤ 36) → (0 ≤ l2 ∧ l2 ≤ 8128) → (0 ≤ l3 ∧ l3 ≤ 64) → (0 ≤ l2 ∧ l2 ≤ 127 * l3) → 65 - l3 < (fu4 : Int) → I n M → Keep n (W_X7_countWhere l0) Me M → wp (k4 l0 l1 l2 l3 M) (fun q => I n q.2 ∧ Keep n (W_X7_countWhere l0) Me q.2 ∧ (0 ≤ q.1 ∧ q.1 ≤ 8128) ∧ True)) {l1 l2 l3 : Int} {M : Mem} (r_l1 : (-36) ≤ l1 ∧ l1 ≤ 36) (r_l2 : 0 ≤ l2 ∧ l2 ≤ 8128) (r_l3 : 0 ≤ l3 ∧ l3 ≤ 64) (z0 : 0 ≤ l2 ∧ l2 ≤ 127 * l3) (hf4 : 65 - l3 < (fu4 : Int) + 1) (iM : I n M) (kM : Keep n (W_X7_countWhere l0) Me M) : wp (bX7_countWhere_4 k4 l0 l1 l2 l3 M) (fun q => I n q.2 ∧ Keep n (W_X7_countWhere l0) Me q.2 ∧ (0 ≤ q.1 ∧ q.1 ≤ 8128) ∧ True) := by
  have hn : (169 : Int) ≤ (n : Int) := by have := iM.2.2.2.2.1; omega
  have u_l0 := h_l0
  unfold isWS at u_l0
  unfold bX7_countWhere_4
  refine w_gF (ji := 1) rfl (congrArg Prod.fst (k_WS iM h_l0)) (fun a6 ha6 => ?_)
  have ra6 : 0 ≤ a6 ∧ a6 ≤ 64 := ha6.tr (P := fun z => 0 ≤ z ∧ z ≤ 64) (rd_WS_1 iM (f_WS h_l0))
  refine w_if (fun c1_ => ?_) (fun c1_ => ?_)
  · skip
    exact w_ret ⟨iM, kM, (show 0 ≤ l2 ∧ l2 ≤ 8128 from ⟨by omega, by omega⟩), trivial⟩
  · skip
    refine w_gFc (ji := 0) rfl (congrArg Prod.fst (k_WS iM h_l0)) (show mG M l0 0 = (l0 + 1) from rd_WS_0 iM (a := l0) (f_WS h_l0)) ?_
    refine w_aG (k_Wwords iM h_l0) (by omega) (by omega) (fun a18 ha18 => ?_)
    refine w_call (s_X7_soAt ⟨by omega, by omega⟩ ⟨by omega, by omega⟩ iM) ?_
    intro v21 m21 pp21
    obtain ⟨im21, kk21, -⟩ := pp21
    try dsimp only
    replace im21 : I n m21 := im21
    replace kk21 : Keep n W_X7_soAt M m21 := kk21
    have km21 : Keep n (W_X7_countWhere l0) Me m21 := kM.tr kk21 (fun b j z => z.elim)
    refine w_call (s_J13_bitCount_95d88 im21) ?_
    intro v25 m25 pp25
    obtain ⟨im25, kk25, e25_0, -⟩ := pp25
    try dsimp only
    replace im25 : I n m25 := im25
    replace kk25 : Keep n W_J13_bitCount_95d88 m21 m25 := kk25
    have km25 : Keep n (W_X7_countWhere l0) Me m25 := km21.tr kk25 (fun b j z => z.elim)
    replace e25_0 : 0 ≤ v25 ∧ v25 ≤ 127 := e25_0
    have w3_ := wI_id (x := (l2 + v25)) (by omega) (by omega)
    have w4_ := wI_id (x := (l3 + 1)) (by omega) (by omega)
    exact hk4 _ _ _ _ ⟨by omega, by omega⟩ ⟨by omega, by omega⟩ ⟨by omega, by omega⟩ (by all_goals omega) (by omega) im25 km25
theorem s_X7_countWhere_4 {n : Nat} {Me : Mem} {l0 : Int} (h_l0 : isWS l0) : ∀ (fu : Nat) (l1 l2 l3 : Int) (M : Mem), ((-36) ≤ l1 ∧ l1 ≤ 36) → (0 ≤ l2 ∧ l2 ≤ 8128) → (0 ≤ l3 ∧ l3 ≤ 64) → (0 ≤ l2 ∧ l2 ≤ 127 * l3) → 65 - l3 < (fu : Int) → I n M → Keep n (W_X7_countWhere l0) Me M → wp (mX7_countWhere_4 fu l0 l1 l2 l3 M) (fun q => I n q.2 ∧ Keep n (W_X7_countWhere l0) Me q.2 ∧ (0 ≤ q.1 ∧ q.1 ≤ 8128) ∧ True) := by
  intro fu
  induction fu with
  | zero =>
    intro l1 l2 l3 M r_l1 r_l2 r_l3 z0 hf iM kM
    exfalso
    omega
  | succ fu ih =>
    intro l1 l2 l3 M r_l1 r_l2 r_l3 z0 hf iM kM
    exact sb_X7_countWhere_4 h_l0 ih r_l1 r_l2 r_l3 z0 (by have e : ((fu + 1 : Nat) : Int) = (fu : Int) + 1 := rfl; rw [e] at hf; exact hf) iM kM
theorem s_X7_countWhere {n : Nat} {l0 l1 : Int} {M : Mem} (h_l0 : isWS l0) (r_l1 : (-36) ≤ l1 ∧ l1 ≤ 36) (iM : I n M) : wp (mX7_countWhere l0 l1 M) (fun q => I n q.2 ∧ Keep n (W_X7_countWhere l0) M q.2 ∧ (0 ≤ q.1 ∧ q.1 ≤ 8128) ∧ True) := by
  have hn : (169 : Int) ≤ (n : Int) := by have := iM.2.2.2.2.1; omega
  have kM : Keep n (W_X7_countWhere l0) M M := Keep.rf
  have u_l0 := h_l0
  unfold isWS at u_l0
  unfold mX7_countWhere
  exact s_X7_countWhere_4 h_l0 FU _ _ _ _ ⟨by omega, by omega⟩ ⟨by omega, by omega⟩ ⟨by omega, by omega⟩ (by all_goals omega) (by show _ < (70000 : Int); omega) iM kM
def W_X4_sureness (b j : Int) : Prop := (21 ≤ b ∧ b ≤ 23) ∨ b = 33 ∨ b = 35 ∨ isWS (b - 1) ∨ (b = 2 ∧ j = 4) ∨ (b = 20 ∧ j = 0) ∨ (b = 20 ∧ j = 1) ∨ (b = 20 ∧ j = 5) ∨ (b = 32 ∧ j = 1) ∨ (b = 32 ∧ j = 2) ∨ (b = 34 ∧ j = 1) ∨ (b = 34 ∧ j = 2) ∨ (isWS b ∧ j = 1) ∨ (isWS b ∧ j = 2)
theorem s_X4_sureness {n : Nat} {l1 : Int} {M : Mem} (r_l1 : (-1) ≤ l1 ∧ l1 ≤ 35) (iM : I n M) : wp (mX4_sureness 2 l1 M) (fun q => I n q.2 ∧ Keep n W_X4_sureness M q.2 ∧ ((-1) ≤ q.1 ∧ q.1 ≤ 1) ∧ True) := by
  have hn : (169 : Int) ≤ (n : Int) := by have := iM.2.2.2.2.1; omega
  have kM : Keep n W_X4_sureness M M := Keep.rf
  unfold mX4_sureness
  refine w_if (fun c1_ => ?_) (fun c1_ => ?_)
  · skip
    exact w_ret ⟨iM, kM, (show (-1) ≤ (-1) ∧ (-1) ≤ 1 from ⟨by omega, by omega⟩), trivial⟩
  · skip
    refine w_gK (congrArg Prod.fst (kl_2 iM)) ?_
    refine w_call (s_X4_lookUp iM) ?_
    intro v6 m6 pp6
    obtain ⟨im6, kk6, e6_0, -⟩ := pp6
    try dsimp only
    replace im6 : I n m6 := im6
    replace kk6 : Keep n W_X4_lookUp M m6 := kk6
    have km6 : Keep n W_X4_sureness M m6 := kM.tr kk6 (fun b j z => Or.elim z (fun z => (Or.inl z)) (fun z => Or.elim z (fun z => (Or.inr (Or.inl z))) (fun z => Or.elim z (fun z => (Or.inr (Or.inr (Or.inl z)))) (fun z => Or.elim z (fun z => (Or.inr (Or.inr (Or.inr (Or.inl z))))) (fun z => Or.elim z (fun z => (Or.inr (Or.inr (Or.inr (Or.inr (Or.inl z)))))) (fun z => Or.elim z (fun z => (Or.inr (Or.inr (Or.inr (Or.inr (Or.inr (Or.inl z))))))) (fun z => Or.elim z (fun z => (Or.inr (Or.inr (Or.inr (Or.inr (Or.inr (Or.inr (Or.inl z)))))))) (fun z => Or.elim z (fun z => (Or.inr (Or.inr (Or.inr (Or.inr (Or.inr (Or.inr (Or.inr (Or.inl z))))))))) (fun z => Or.elim z (fun z => (Or.inr (Or.inr (Or.inr (Or.inr (Or.inr (Or.inr (Or.inr (Or.inr (Or.inl z)))))))))) (fun z => Or.elim z (fun z => (Or.inr (Or.inr (Or.inr (Or.inr (Or.inr (Or.inr (Or.inr (Or.inr (Or.inr (Or.inl z))))))))))) (fun z => Or.elim z (fun z => (Or.inr (Or.inr (Or.inr (Or.inr (Or.inr (Or.inr (Or.inr (Or.inr (Or.inr (Or.inr (Or.inl z)))))))))))) (fun z => Or.elim z (fun z => (Or.inr (Or.inr (Or.inr (Or.inr (Or.inr (Or.inr (Or.inr (Or.inr (Or.inr (Or.inr (Or.inr (Or.inl z))))))))))))) (fun z => Or.elim z (fun z => (Or.inr (Or.inr (Or.inr (Or.inr (Or.inr (Or.inr (Or.inr (Or.inr (Or.inr (Or.inr (Or.inr (Or.inr (Or.inl z)))))))))))))) (fun z => (Or.inr (Or.inr (Or.inr (Or.inr (Or.inr (Or.inr (Or.inr (Or.inr (Or.inr (Or.inr (Or.inr (Or.inr (Or.inr z)))))))))))))))))))))))))))
    replace e6_0 : 0 ≤ v6 ∧ v6 ≤ 1 := e6_0
    refine w_if (fun c2_ => ?_) (fun c2_ => ?_)
    · skip
      exact w_ret ⟨im6, km6, (show (-1) ≤ (-1) ∧ (-1) ≤ 1 from ⟨by omega, by omega⟩), trivial⟩
    · skip
      refine w_gFc (ji := 6) rfl (congrArg Prod.fst (kl_2 im6)) (show mG m6 2 6 = 34 from rd_Solver_6 im6 (a := 2) rfl) ?_
      refine w_gK (congrArg Prod.fst (kl_34 im6)) ?_
      refine w_call (s_X7_isNothing (by unfold isWS; omega) im6) ?_
      intro v16 m16 pp16
      obtain ⟨im16, kk16, e16_0, -⟩ := pp16
      try dsimp only
      replace im16 : I n m16 := im16
      replace kk16 : Keep n (W_X7_isNothing 34) m6 m16 := kk16
      have km16 : Keep n W_X4_sureness M m16 := km6.tr kk16 (fun b j z => z.elim)
      replace e16_0 : 0 ≤ v16 ∧ v16 ≤ 1 := e16_0
      refine w_if (fun c3_ => ?_) (fun c3_ => ?_)
      · skip
        refine w_gFc (ji := 6) rfl (congrArg Prod.fst (kl_2 im16)) (show mG m16 2 6 = 34 from rd_Solver_6 im16 (a := 2) rfl) ?_
        refine w_gFc (ji := 0) rfl (congrArg Prod.fst (kl_2 im16)) (show mG m16 2 0 = 3 from rd_Solver_0 im16 (a := 2) rfl) ?_
        refine w_gFc (ji := 0) rfl (congrArg Prod.fst (kl_3 im16)) (show mG m16 3 0 = 4 from rd_Told_0 im16 (a := 3) rfl) ?_
        refine w_gK (congrArg Prod.fst (kl_4 im16)) ?_
        refine w_call (s_X3_bit (by unfold isShape; omega) ⟨by omega, by omega⟩ im16) ?_
        intro v36 m36 pp36
        obtain ⟨im36, kk36, e36_0, -⟩ := pp36
        try dsimp only
        replace im36 : I n m36 := im36
        replace kk36 : Keep n (W_X3_bit 4) m16 m36 := kk36
        have km36 : Keep n W_X4_sureness M m36 := km16.tr kk36 (fun b j z => z.elim)
        replace e36_0 : (-36) ≤ v36 ∧ v36 ≤ 36 := e36_0
        refine w_gK (congrArg Prod.fst (kl_34 im36)) ?_
        refine w_call (s_X7_countWhere (by unfold isWS; omega) ⟨by omega, by omega⟩ im36) ?_
        intro v39 m39 pp39
        obtain ⟨im39, kk39, e39_0, -⟩ := pp39
        try dsimp only
        replace im39 : I n m39 := im39
        replace kk39 : Keep n (W_X7_countWhere 34) m36 m39 := kk39
        have km39 : Keep n W_X4_sureness M m39 := km36.tr kk39 (fun b j z => z.elim)
        replace e39_0 : 0 ≤ v39 ∧ v39 ≤ 8128 := e39_0
        refine w_if (fun c4_ => ?_) (fun c4_ => ?_)
        · skip
          exact w_ret ⟨im39, km39, (show (-1) ≤ 0 ∧ 0 ≤ 1 from ⟨by omega, by omega⟩), trivial⟩
        · skip
          refine w_gFc (ji := 6) rfl (congrArg Prod.fst (kl_2 im39)) (show mG m39 2 6 = 34 from rd_Solver_6 im39 (a := 2) rfl) ?_
          refine w_gK (congrArg Prod.fst (kl_34 im39)) ?_
          refine w_call (s_X7_count (by unfold isWS; omega) im39) ?_
          intro v54 m54 pp54
          obtain ⟨im54, kk54, e54_0, -⟩ := pp54
          try dsimp only
          replace im54 : I n m54 := im54
          replace kk54 : Keep n (W_X7_count 34) m39 m54 := kk54
          have km54 : Keep n W_X4_sureness M m54 := km39.tr kk54 (fun b j z => z.elim)
          replace e54_0 : 0 ≤ v54 ∧ v54 ≤ 8128 := e54_0
          refine w_if (fun c5_ => ?_) (fun c5_ => ?_)
          · skip
            exact w_ret ⟨im54, km54, (show (-1) ≤ 1 ∧ 1 ≤ 1 from ⟨by omega, by omega⟩), trivial⟩
          · skip
            exact w_ret ⟨im54, km54, (show (-1) ≤ (-1) ∧ (-1) ≤ 1 from ⟨by omega, by omega⟩), trivial⟩
      · skip
        exact w_ret ⟨im16, km16, (show (-1) ≤ (-1) ∧ (-1) ≤ 1 from ⟨by omega, by omega⟩), trivial⟩
def W_X8_sure (b j : Int) : Prop := (21 ≤ b ∧ b ≤ 23) ∨ b = 33 ∨ b = 35 ∨ isWS (b - 1) ∨ (b = 2 ∧ j = 4) ∨ (b = 20 ∧ j = 0) ∨ (b = 20 ∧ j = 1) ∨ (b = 20 ∧ j = 5) ∨ (b = 32 ∧ j = 1) ∨ (b = 32 ∧ j = 2) ∨ (b = 34 ∧ j = 1) ∨ (b = 34 ∧ j = 2) ∨ (isWS b ∧ j = 1) ∨ (isWS b ∧ j = 2)
theorem s_X8_sure {n : Nat} {l1 l2 l3 : Int} {M : Mem} (r_l1 : (-2147483648) ≤ l1 ∧ l1 ≤ 2147483647) (r_l2 : (-2147483648) ≤ l2 ∧ l2 ≤ 2147483647) (r_l3 : (-2147483648) ≤ l3 ∧ l3 ≤ 2147483647) (iM : I n M) : wp (mX8_sure 1 l1 l2 l3 M) (fun q => I n q.2 ∧ Keep n W_X8_sure M q.2 ∧ ((-1) ≤ q.1 ∧ q.1 ≤ 1) ∧ True) := by
  have hn : (169 : Int) ≤ (n : Int) := by have := iM.2.2.2.2.1; omega
  have kM : Keep n W_X8_sure M M := Keep.rf
  unfold mX8_sure
  refine w_gFc (ji := 0) rfl (congrArg Prod.fst (kl_1 iM)) (show mG M 1 0 = 2 from rd_VS_0 iM (a := 1) rfl) ?_
  refine w_gFc (ji := 1) rfl (congrArg Prod.fst (kl_1 iM)) (show mG M 1 1 = 3 from rd_VS_1 iM (a := 1) rfl) ?_
  refine w_gFc (ji := 0) rfl (congrArg Prod.fst (kl_3 iM)) (show mG M 3 0 = 4 from rd_Told_0 iM (a := 3) rfl) ?_
  refine w_gK (congrArg Prod.fst (kl_4 iM)) ?_
  refine w_call (s_X3_place (by unfold isShape; omega) ⟨by omega, by omega⟩ ⟨by omega, by omega⟩ iM) ?_
  intro v14 m14 pp14
  obtain ⟨im14, kk14, e14_0, -⟩ := pp14
  try dsimp only
  replace im14 : I n m14 := im14
  replace kk14 : Keep n (W_X3_place 4) M m14 := kk14
  have km14 : Keep n W_X8_sure M m14 := kM.tr kk14 (fun b j z => z.elim)
  replace e14_0 : (-1) ≤ v14 ∧ v14 ≤ 35 := e14_0
  refine w_gK (congrArg Prod.fst (kl_2 im14)) ?_
  refine w_call (s_X4_sureness ⟨by omega, by omega⟩ im14) ?_
  intro v17 m17 pp17
  obtain ⟨im17, kk17, e17_0, -⟩ := pp17
  try dsimp only
  replace im17 : I n m17 := im17
  replace kk17 : Keep n W_X4_sureness m14 m17 := kk17
  have km17 : Keep n W_X8_sure M m17 := km14.tr kk17 (fun b j z => Or.elim z (fun z => (Or.inl z)) (fun z => Or.elim z (fun z => (Or.inr (Or.inl z))) (fun z => Or.elim z (fun z => (Or.inr (Or.inr (Or.inl z)))) (fun z => Or.elim z (fun z => (Or.inr (Or.inr (Or.inr (Or.inl z))))) (fun z => Or.elim z (fun z => (Or.inr (Or.inr (Or.inr (Or.inr (Or.inl z)))))) (fun z => Or.elim z (fun z => (Or.inr (Or.inr (Or.inr (Or.inr (Or.inr (Or.inl z))))))) (fun z => Or.elim z (fun z => (Or.inr (Or.inr (Or.inr (Or.inr (Or.inr (Or.inr (Or.inl z)))))))) (fun z => Or.elim z (fun z => (Or.inr (Or.inr (Or.inr (Or.inr (Or.inr (Or.inr (Or.inr (Or.inl z))))))))) (fun z => Or.elim z (fun z => (Or.inr (Or.inr (Or.inr (Or.inr (Or.inr (Or.inr (Or.inr (Or.inr (Or.inl z)))))))))) (fun z => Or.elim z (fun z => (Or.inr (Or.inr (Or.inr (Or.inr (Or.inr (Or.inr (Or.inr (Or.inr (Or.inr (Or.inl z))))))))))) (fun z => Or.elim z (fun z => (Or.inr (Or.inr (Or.inr (Or.inr (Or.inr (Or.inr (Or.inr (Or.inr (Or.inr (Or.inr (Or.inl z)))))))))))) (fun z => Or.elim z (fun z => (Or.inr (Or.inr (Or.inr (Or.inr (Or.inr (Or.inr (Or.inr (Or.inr (Or.inr (Or.inr (Or.inr (Or.inl z))))))))))))) (fun z => Or.elim z (fun z => (Or.inr (Or.inr (Or.inr (Or.inr (Or.inr (Or.inr (Or.inr (Or.inr (Or.inr (Or.inr (Or.inr (Or.inr (Or.inl z)))))))))))))) (fun z => (Or.inr (Or.inr (Or.inr (Or.inr (Or.inr (Or.inr (Or.inr (Or.inr (Or.inr (Or.inr (Or.inr (Or.inr (Or.inr z)))))))))))))))))))))))))))
  replace e17_0 : (-1) ≤ v17 ∧ v17 ≤ 1 := e17_0
  exact w_ret ⟨im17, km17, (show (-1) ≤ v17 ∧ v17 ≤ 1 from ⟨by omega, by omega⟩), trivial⟩
def W_X4_causeStories (b j : Int) : Prop := b = 37 ∨ (b = 36 ∧ j = 1) ∨ (b = 36 ∧ j = 2)
theorem s_X4_causeStories_35 {n : Nat} {Me : Mem} {s1 s2 : Int} {M : Mem} (r_s1 : (-36) ≤ s1 ∧ s1 ≤ 36) (r_s2 : 0 ≤ s2 ∧ s2 ≤ 1) (iM : I n M) (kM : Keep n W_X4_causeStories Me M) : wp (mX4_causeStories_35 2 36 s1 s2 M) (fun q => I n q.2 ∧ Keep n W_X4_causeStories Me q.2 ∧ (0 ≤ q.1 ∧ q.1 ≤ 255) ∧ True) := by
  have hn : (169 : Int) ≤ (n : Int) := by have := iM.2.2.2.2.1; omega
  unfold mX4_causeStories_35
  refine w_gK (congrArg Prod.fst (kl_36 iM)) ?_
  refine w_call (s_X7_keepWhere (by unfold isWS; omega) ⟨by omega, by omega⟩ ⟨by omega, by omega⟩ iM) ?_
  intro v35 m35 pp35
  obtain ⟨im35, kk35, -⟩ := pp35
  try dsimp only
  replace im35 : I n m35 := im35
  replace kk35 : Keep n (W_X7_keepWhere 36) M m35 := kk35
  have km35 : Keep n W_X4_causeStories Me m35 := kM.tr kk35 (fun b j z => by unfold W_X7_keepWhere at z; exact (Or.inl (by omega)))
  refine w_gFc (ji := 7) rfl (congrArg Prod.fst (kl_2 im35)) (show mG m35 2 7 = 36 from rd_Solver_7 im35 (a := 2) rfl) ?_
  refine w_gK (congrArg Prod.fst (kl_2 im35)) ?_
  refine w_call (s_X4_fewestAgainst (by unfold isWS; omega) im35) ?_
  intro v43 m43 pp43
  obtain ⟨im43, kk43, e43_0, -⟩ := pp43
  try dsimp only
  replace im43 : I n m43 := im43
  replace kk43 : Keep n (W_X4_fewestAgainst 36) m35 m43 := kk43
  have km43 : Keep n W_X4_causeStories Me m43 := km35.tr kk43 (fun b j z => z.elim)
  replace e43_0 : 0 ≤ v43 ∧ v43 ≤ 255 := e43_0
  exact w_ret ⟨im43, km43, (show 0 ≤ v43 ∧ v43 ≤ 255 from ⟨by omega, by omega⟩), trivial⟩
theorem s_X4_causeStories {n : Nat} {l1 l2 : Int} {M : Mem} (r_l1 : (-1) ≤ l1 ∧ l1 ≤ 35) (r_l2 : 0 ≤ l2 ∧ l2 ≤ 1) (iM : I n M) : wp (mX4_causeStories 2 l1 l2 M) (fun q => I n q.2 ∧ Keep n W_X4_causeStories M q.2 ∧ (0 ≤ q.1 ∧ q.1 ≤ 255) ∧ True) := by
  have hn : (169 : Int) ≤ (n : Int) := by have := iM.2.2.2.2.1; omega
  have kM : Keep n W_X4_causeStories M M := Keep.rf
  unfold mX4_causeStories
  refine w_gFc (ji := 7) rfl (congrArg Prod.fst (kl_2 iM)) (show mG M 2 7 = 36 from rd_Solver_7 iM (a := 2) rfl) ?_
  refine w_gFc (ji := 5) rfl (congrArg Prod.fst (kl_2 iM)) (show mG M 2 5 = 32 from rd_Solver_5 iM (a := 2) rfl) ?_
  refine w_gK (congrArg Prod.fst (kl_36 iM)) ?_
  refine w_call (s_X7_copy (by unfold isWS; omega) (by unfold isWS; omega) iM) ?_
  intro v8 m8 pp8
  obtain ⟨im8, kk8, -⟩ := pp8
  try dsimp only
  replace im8 : I n m8 := im8
  replace kk8 : Keep n (W_X7_copy 36 32) M m8 := kk8
  have km8 : Keep n W_X4_causeStories M m8 := kM.tr kk8 (fun b j z => Or.elim z (fun z => (Or.inl (by omega))) (fun z => Or.elim z (fun z => (Or.inr (Or.inl ⟨by omega, z.2⟩))) (fun z => (Or.inr (Or.inr ⟨by omega, z.2⟩)))))
  refine w_gFc (ji := 7) rfl (congrArg Prod.fst (kl_2 im8)) (show mG m8 2 7 = 36 from rd_Solver_7 im8 (a := 2) rfl) ?_
  refine w_gFc (ji := 0) rfl (congrArg Prod.fst (kl_2 im8)) (show mG m8 2 0 = 3 from rd_Solver_0 im8 (a := 2) rfl) ?_
  refine w_gFc (ji := 0) rfl (congrArg Prod.fst (kl_3 im8)) (show mG m8 3 0 = 4 from rd_Told_0 im8 (a := 3) rfl) ?_
  refine w_gK (congrArg Prod.fst (kl_4 im8)) ?_
  refine w_call (s_X3_bit (by unfold isShape; omega) ⟨by omega, by omega⟩ im8) ?_
  intro v23 m23 pp23
  obtain ⟨im23, kk23, e23_0, -⟩ := pp23
  try dsimp only
  replace im23 : I n m23 := im23
  replace kk23 : Keep n (W_X3_bit 4) m8 m23 := kk23
  have km23 : Keep n W_X4_causeStories M m23 := km8.tr kk23 (fun b j z => z.elim)
  replace e23_0 : (-36) ≤ v23 ∧ v23 ≤ 36 := e23_0
  refine w_if (fun c1_ => ?_) (fun c1_ => ?_)
  · skip
    exact s_X4_causeStories_35 ⟨by omega, by omega⟩ ⟨by omega, by omega⟩ im23 km23
  · skip
    exact s_X4_causeStories_35 ⟨by omega, by omega⟩ ⟨by omega, by omega⟩ im23 km23
def W_X8_cause (b j : Int) : Prop := (21 ≤ b ∧ b ≤ 23) ∨ b = 33 ∨ b = 35 ∨ b = 37 ∨ isWS (b - 1) ∨ (b = 2 ∧ j = 4) ∨ (b = 20 ∧ j = 0) ∨ (b = 20 ∧ j = 1) ∨ (b = 20 ∧ j = 5) ∨ (b = 32 ∧ j = 1) ∨ (b = 32 ∧ j = 2) ∨ (b = 34 ∧ j = 1) ∨ (b = 34 ∧ j = 2) ∨ (b = 36 ∧ j = 1) ∨ (b = 36 ∧ j = 2) ∨ (isWS b ∧ j = 1) ∨ (isWS b ∧ j = 2)
theorem s_X8_cause {n : Nat} {l1 l2 l3 l4 : Int} {M : Mem} (r_l1 : (-2147483648) ≤ l1 ∧ l1 ≤ 2147483647) (r_l2 : (-2147483648) ≤ l2 ∧ l2 ≤ 2147483647) (r_l3 : (-2147483648) ≤ l3 ∧ l3 ≤ 2147483647) (r_l4 : (-2147483648) ≤ l4 ∧ l4 ≤ 2147483647) (iM : I n M) : wp (mX8_cause 1 l1 l2 l3 l4 M) (fun q => I n q.2 ∧ Keep n W_X8_cause M q.2 ∧ ((-1) ≤ q.1 ∧ q.1 ≤ 7) ∧ True) := by
  have hn : (169 : Int) ≤ (n : Int) := by have := iM.2.2.2.2.1; omega
  have kM : Keep n W_X8_cause M M := Keep.rf
  unfold mX8_cause
  refine w_gFc (ji := 1) rfl (congrArg Prod.fst (kl_1 iM)) (show mG M 1 1 = 3 from rd_VS_1 iM (a := 1) rfl) ?_
  refine w_gFc (ji := 0) rfl (congrArg Prod.fst (kl_3 iM)) (show mG M 3 0 = 4 from rd_Told_0 iM (a := 3) rfl) ?_
  refine w_gK (congrArg Prod.fst (kl_4 iM)) ?_
  refine w_call (s_X3_place (by unfold isShape; omega) ⟨by omega, by omega⟩ ⟨by omega, by omega⟩ iM) ?_
  intro v10 m10 pp10
  obtain ⟨im10, kk10, e10_0, -⟩ := pp10
  try dsimp only
  replace im10 : I n m10 := im10
  replace kk10 : Keep n (W_X3_place 4) M m10 := kk10
  have km10 : Keep n W_X8_cause M m10 := kM.tr kk10 (fun b j z => z.elim)
  replace e10_0 : (-1) ≤ v10 ∧ v10 ≤ 35 := e10_0
  refine w_gFc (ji := 0) rfl (congrArg Prod.fst (kl_1 im10)) (show mG m10 1 0 = 2 from rd_VS_0 im10 (a := 1) rfl) ?_
  refine w_gK (congrArg Prod.fst (kl_2 im10)) ?_
  refine w_call (s_X4_sureness ⟨by omega, by omega⟩ im10) ?_
  intro v21 m21 pp21
  obtain ⟨im21, kk21, e21_0, -⟩ := pp21
  try dsimp only
  replace im21 : I n m21 := im21
  replace kk21 : Keep n W_X4_sureness m10 m21 := kk21
  have km21 : Keep n W_X8_cause M m21 := km10.tr kk21 (fun b j z => Or.elim z (fun z => (Or.inl z)) (fun z => Or.elim z (fun z => (Or.inr (Or.inl z))) (fun z => Or.elim z (fun z => (Or.inr (Or.inr (Or.inl z)))) (fun z => Or.elim z (fun z => (Or.inr (Or.inr (Or.inr (Or.inr (Or.inl z)))))) (fun z => Or.elim z (fun z => (Or.inr (Or.inr (Or.inr (Or.inr (Or.inr (Or.inl z))))))) (fun z => Or.elim z (fun z => (Or.inr (Or.inr (Or.inr (Or.inr (Or.inr (Or.inr (Or.inl z)))))))) (fun z => Or.elim z (fun z => (Or.inr (Or.inr (Or.inr (Or.inr (Or.inr (Or.inr (Or.inr (Or.inl z))))))))) (fun z => Or.elim z (fun z => (Or.inr (Or.inr (Or.inr (Or.inr (Or.inr (Or.inr (Or.inr (Or.inr (Or.inl z)))))))))) (fun z => Or.elim z (fun z => (Or.inr (Or.inr (Or.inr (Or.inr (Or.inr (Or.inr (Or.inr (Or.inr (Or.inr (Or.inl z))))))))))) (fun z => Or.elim z (fun z => (Or.inr (Or.inr (Or.inr (Or.inr (Or.inr (Or.inr (Or.inr (Or.inr (Or.inr (Or.inr (Or.inl z)))))))))))) (fun z => Or.elim z (fun z => (Or.inr (Or.inr (Or.inr (Or.inr (Or.inr (Or.inr (Or.inr (Or.inr (Or.inr (Or.inr (Or.inr (Or.inl z))))))))))))) (fun z => Or.elim z (fun z => (Or.inr (Or.inr (Or.inr (Or.inr (Or.inr (Or.inr (Or.inr (Or.inr (Or.inr (Or.inr (Or.inr (Or.inr (Or.inl z)))))))))))))) (fun z => Or.elim z (fun z => (Or.inr (Or.inr (Or.inr (Or.inr (Or.inr (Or.inr (Or.inr (Or.inr (Or.inr (Or.inr (Or.inr (Or.inr (Or.inr (Or.inr (Or.inr (Or.inl z))))))))))))))))) (fun z => (Or.inr (Or.inr (Or.inr (Or.inr (Or.inr (Or.inr (Or.inr (Or.inr (Or.inr (Or.inr (Or.inr (Or.inr (Or.inr (Or.inr (Or.inr (Or.inr z))))))))))))))))))))))))))))))
  replace e21_0 : (-1) ≤ v21 ∧ v21 ≤ 1 := e21_0
  refine w_if (fun c1_ => ?_) (fun c1_ => ?_)
  · skip
    exact w_ret ⟨im21, km21, (show (-1) ≤ (-1) ∧ (-1) ≤ 7 from ⟨by omega, by omega⟩), trivial⟩
  · skip
    refine w_gFc (ji := 0) rfl (congrArg Prod.fst (kl_1 im21)) (show mG m21 1 0 = 2 from rd_VS_0 im21 (a := 1) rfl) ?_
    refine w_gK (congrArg Prod.fst (kl_2 im21)) ?_
    refine w_call (s_X4_causeStories ⟨by omega, by omega⟩ ⟨by omega, by omega⟩ im21) ?_
    intro v44 m44 pp44
    obtain ⟨im44, kk44, e44_0, -⟩ := pp44
    try dsimp only
    replace im44 : I n m44 := im44
    replace kk44 : Keep n W_X4_causeStories m21 m44 := kk44
    have km44 : Keep n W_X8_cause M m44 := km21.tr kk44 (fun b j z => Or.elim z (fun z => (Or.inr (Or.inr (Or.inr (Or.inl z))))) (fun z => Or.elim z (fun z => (Or.inr (Or.inr (Or.inr (Or.inr (Or.inr (Or.inr (Or.inr (Or.inr (Or.inr (Or.inr (Or.inr (Or.inr (Or.inr (Or.inl z))))))))))))))) (fun z => (Or.inr (Or.inr (Or.inr (Or.inr (Or.inr (Or.inr (Or.inr (Or.inr (Or.inr (Or.inr (Or.inr (Or.inr (Or.inr (Or.inr (Or.inl z))))))))))))))))))
    replace e44_0 : 0 ≤ v44 ∧ v44 ≤ 255 := e44_0
    refine w_call (s_X8_nthBit ⟨by omega, by omega⟩ ⟨by omega, by omega⟩ im44) ?_
    intro v49 m49 pp49
    obtain ⟨im49, kk49, e49_0, -⟩ := pp49
    try dsimp only
    replace im49 : I n m49 := im49
    replace kk49 : Keep n W_X8_nthBit m44 m49 := kk49
    have km49 : Keep n W_X8_cause M m49 := km44.tr kk49 (fun b j z => z.elim)
    replace e49_0 : (-1) ≤ v49 ∧ v49 ≤ 7 := e49_0
    exact w_ret ⟨im49, km49, (show (-1) ≤ v49 ∧ v49 ≤ 7 from ⟨by omega, by omega⟩), trivial⟩
def W_X4_countWithout (b j : Int) : Prop := (21 ≤ b ∧ b ≤ 23) ∨ b = 33 ∨ b = 35 ∨ b = 37 ∨ isWS (b - 1) ∨ (b = 2 ∧ j = 4) ∨ (b = 20 ∧ j = 0) ∨ (b = 20 ∧ j = 1) ∨ (b = 20 ∧ j = 5) ∨ (b = 32 ∧ j = 1) ∨ (b = 32 ∧ j = 2) ∨ (b = 34 ∧ j = 1) ∨ (b = 34 ∧ j = 2) ∨ (b = 36 ∧ j = 1) ∨ (b = 36 ∧ j = 2) ∨ (isWS b ∧ j = 1) ∨ (isWS b ∧ j = 2)
theorem s_X4_countWithout_96 {n : Nat} {Me : Mem} {k60 : Int → Int → Int → Int → Mem → Option (Int × Mem)} {fu60 : Nat} (hk60 : ∀ (l1 l2 l4 : Int) (M : Mem), ((-2147483648) ≤ l1 ∧ l1 ≤ 2147483647) → (0 ≤ l2 ∧ l2 ≤ 255) → (0 ≤ l4 ∧ l4 ≤ 8) → 9 - l4 < (fu60 : Int) → I n M → Keep n W_X4_countWithout Me M → wp (k60 2 l1 l2 l4 M) (fun q => I n q.2 ∧ Keep n W_X4_countWithout Me q.2 ∧ ((-1) ≤ q.1 ∧ q.1 ≤ 8128) ∧ True)) {l1 l2 l4 : Int} {M : Mem} (r_l1 : (-2147483648) ≤ l1 ∧ l1 ≤ 2147483647) (r_l2 : 0 ≤ l2 ∧ l2 ≤ 255) (r_l4 : 0 ≤ l4 ∧ l4 ≤ 7) (hf60 : 9 - l4 < (fu60 : Int) + 1) (iM : I n M) (kM : Keep n W_X4_countWithout Me M) : wp (mX4_countWithout_96 k60 2 l1 l2 l4 M) (fun q => I n q.2 ∧ Keep n W_X4_countWithout Me q.2 ∧ ((-1) ≤ q.1 ∧ q.1 ≤ 8128) ∧ True) := by
  have hn : (169 : Int) ≤ (n : Int) := by have := iM.2.2.2.2.1; omega
  unfold mX4_countWithout_96
  have w1_ := wI_id (x := (l4 + 1)) (by omega) (by omega)
  exact hk60 _ _ _ _ ⟨by omega, by omega⟩ ⟨by omega, by omega⟩ ⟨by omega, by omega⟩ (by omega) iM kM
theorem sb_X4_countWithout_60 {n : Nat} {Me : Mem} {k60 : Int → Int → Int → Int → Mem → Option (Int × Mem)} {fu60 : Nat} (hk60 : ∀ (l1 l2 l4 : Int) (M : Mem), ((-2147483648) ≤ l1 ∧ l1 ≤ 2147483647) → (0 ≤ l2 ∧ l2 ≤ 255) → (0 ≤ l4 ∧ l4 ≤ 8) → 9 - l4 < (fu60 : Int) → I n M → Keep n W_X4_countWithout Me M → wp (k60 2 l1 l2 l4 M) (fun q => I n q.2 ∧ Keep n W_X4_countWithout Me q.2 ∧ ((-1) ≤ q.1 ∧ q.1 ≤ 8128) ∧ True)) {l1 l2 l4 : Int} {M : Mem} (r_l1 : (-2147483648) ≤ l1 ∧ l1 ≤ 2147483647) (r_l2 : 0 ≤ l2 ∧ l2 ≤ 255) (r_l4 : 0 ≤ l4 ∧ l4 ≤ 8) (hf60 : 9 - l4 < (fu60 : Int) + 1) (iM : I n M) (kM : Keep n W_X4_countWithout Me M) : wp (bX4_countWithout_60 k60 2 l1 l2 l4 M) (fun q => I n q.2 ∧ Keep n W_X4_countWithout Me q.2 ∧ ((-1) ≤ q.1 ∧ q.1 ≤ 8128) ∧ True) := by
  have hn : (169 : Int) ≤ (n : Int) := by have := iM.2.2.2.2.1; omega
  unfold bX4_countWithout_60
  refine w_if (fun c1_ => ?_) (fun c1_ => ?_)
  · skip
    refine w_gFc (ji := 7) rfl (congrArg Prod.fst (kl_2 iM)) (show mG M 2 7 = 36 from rd_Solver_7 iM (a := 2) rfl) ?_
    refine w_gK (congrArg Prod.fst (kl_36 iM)) ?_
    refine w_call (s_X7_count (by unfold isWS; omega) iM) ?_
    intro v106 m106 pp106
    obtain ⟨im106, kk106, e106_0, -⟩ := pp106
    try dsimp only
    replace im106 : I n m106 := im106
    replace kk106 : Keep n (W_X7_count 36) M m106 := kk106
    have km106 : Keep n W_X4_countWithout Me m106 := kM.tr kk106 (fun b j z => z.elim)
    replace e106_0 : 0 ≤ v106 ∧ v106 ≤ 8128 := e106_0
    exact w_ret ⟨im106, km106, (show (-1) ≤ v106 ∧ v106 ≤ 8128 from ⟨by omega, by omega⟩), trivial⟩
  · skip
    refine w_if (fun c2_ => ?_) (fun c2_ => ?_)
    · skip
      exact s_X4_countWithout_96 hk60 ⟨by omega, by omega⟩ ⟨by omega, by omega⟩ ⟨by omega, by omega⟩ (by omega) iM kM
    · skip
      have w3_ := ishr_b (x := l2) (k := l4) (by omega) (by omega) (by omega) (by omega)
      have w4_ := iand_l (x := (ishr l2 l4)) (y := 1) (by omega) (by omega)
      have w5_ := iand_r (x := (ishr l2 l4)) (y := 1) (by omega) (by omega)
      refine w_if (fun c6_ => ?_) (fun c6_ => ?_)
      · skip
        exact s_X4_countWithout_96 hk60 ⟨by omega, by omega⟩ ⟨by omega, by omega⟩ ⟨by omega, by omega⟩ (by omega) iM kM
      · skip
        refine w_gFc (ji := 7) rfl (congrArg Prod.fst (kl_2 iM)) (show mG M 2 7 = 36 from rd_Solver_7 iM (a := 2) rfl) ?_
        refine w_gFc (ji := 3) rfl (congrArg Prod.fst (kl_2 iM)) (show mG M 2 3 = 31 from rd_Solver_3 iM (a := 2) rfl) ?_
        refine w_aG (kl_31 iM) (by omega) (by omega) (fun a92 ha92 => ?_)
        have ra92 : a92 = 47 + 2 * l4 := ha92.tr (P := fun z => z = 47 + 2 * l4) (rd_Vtruths iM rfl (by omega) (by omega))
        have h_a92 : isWS a92 := by unfold isWS; omega
        have u_a92 := h_a92
        unfold isWS at u_a92
        refine w_gK (congrArg Prod.fst (kl_36 iM)) ?_
        refine w_call (s_X7_keepOnly (by unfold isWS; omega) h_a92 iM) ?_
        intro v93 m93 pp93
        obtain ⟨im93, kk93, -⟩ := pp93
        try dsimp only
        replace im93 : I n m93 := im93
        replace kk93 : Keep n (W_X7_keepOnly 36 a92) M m93 := kk93
        have km93 : Keep n W_X4_countWithout Me m93 := kM.tr kk93 (fun b j z => by unfold W_X7_keepOnly at z; exact (Or.inr (Or.inr (Or.inr (Or.inl (by omega))))))
        exact s_X4_countWithout_96 hk60 ⟨by omega, by omega⟩ ⟨by omega, by omega⟩ ⟨by omega, by omega⟩ (by omega) im93 km93
theorem s_X4_countWithout_60 {n : Nat} {Me : Mem} : ∀ (fu : Nat) (l1 l2 l4 : Int) (M : Mem), ((-2147483648) ≤ l1 ∧ l1 ≤ 2147483647) → (0 ≤ l2 ∧ l2 ≤ 255) → (0 ≤ l4 ∧ l4 ≤ 8) → 9 - l4 < (fu : Int) → I n M → Keep n W_X4_countWithout Me M → wp (mX4_countWithout_60 fu 2 l1 l2 l4 M) (fun q => I n q.2 ∧ Keep n W_X4_countWithout Me q.2 ∧ ((-1) ≤ q.1 ∧ q.1 ≤ 8128) ∧ True) := by
  intro fu
  induction fu with
  | zero =>
    intro l1 l2 l4 M r_l1 r_l2 r_l4 hf iM kM
    exfalso
    omega
  | succ fu ih =>
    intro l1 l2 l4 M r_l1 r_l2 r_l4 hf iM kM
    exact sb_X4_countWithout_60 ih r_l1 r_l2 r_l4 (by have e : ((fu + 1 : Nat) : Int) = (fu : Int) + 1 := rfl; rw [e] at hf; exact hf) iM kM
theorem s_X4_countWithout_32 {n : Nat} {Me : Mem} {l1 l2 s0 : Int} {M : Mem} (r_l1 : (-2147483648) ≤ l1 ∧ l1 ≤ 2147483647) (r_l2 : 0 ≤ l2 ∧ l2 ≤ 255) (r_s0 : 0 ≤ s0 ∧ s0 ≤ 1) (iM : I n M) (kM : Keep n W_X4_countWithout Me M) : wp (mX4_countWithout_32 2 l1 l2 s0 M) (fun q => I n q.2 ∧ Keep n W_X4_countWithout Me q.2 ∧ ((-1) ≤ q.1 ∧ q.1 ≤ 8128) ∧ True) := by
  have hn : (169 : Int) ≤ (n : Int) := by have := iM.2.2.2.2.1; omega
  unfold mX4_countWithout_32
  refine w_if (fun c1_ => ?_) (fun c1_ => ?_)
  · skip
    exact w_ret ⟨iM, kM, (show (-1) ≤ (-1) ∧ (-1) ≤ 8128 from ⟨by omega, by omega⟩), trivial⟩
  · skip
    refine w_gK (congrArg Prod.fst (kl_2 iM)) ?_
    refine w_call (s_X4_lookUp iM) ?_
    intro v38 m38 pp38
    obtain ⟨im38, kk38, e38_0, -⟩ := pp38
    try dsimp only
    replace im38 : I n m38 := im38
    replace kk38 : Keep n W_X4_lookUp M m38 := kk38
    have km38 : Keep n W_X4_countWithout Me m38 := kM.tr kk38 (fun b j z => Or.elim z (fun z => (Or.inl z)) (fun z => Or.elim z (fun z => (Or.inr (Or.inl z))) (fun z => Or.elim z (fun z => (Or.inr (Or.inr (Or.inl z)))) (fun z => Or.elim z (fun z => (Or.inr (Or.inr (Or.inr (Or.inr (Or.inl z)))))) (fun z => Or.elim z (fun z => (Or.inr (Or.inr (Or.inr (Or.inr (Or.inr (Or.inl z))))))) (fun z => Or.elim z (fun z => (Or.inr (Or.inr (Or.inr (Or.inr (Or.inr (Or.inr (Or.inl z)))))))) (fun z => Or.elim z (fun z => (Or.inr (Or.inr (Or.inr (Or.inr (Or.inr (Or.inr (Or.inr (Or.inl z))))))))) (fun z => Or.elim z (fun z => (Or.inr (Or.inr (Or.inr (Or.inr (Or.inr (Or.inr (Or.inr (Or.inr (Or.inl z)))))))))) (fun z => Or.elim z (fun z => (Or.inr (Or.inr (Or.inr (Or.inr (Or.inr (Or.inr (Or.inr (Or.inr (Or.inr (Or.inl z))))))))))) (fun z => Or.elim z (fun z => (Or.inr (Or.inr (Or.inr (Or.inr (Or.inr (Or.inr (Or.inr (Or.inr (Or.inr (Or.inr (Or.inl z)))))))))))) (fun z => Or.elim z (fun z => (Or.inr (Or.inr (Or.inr (Or.inr (Or.inr (Or.inr (Or.inr (Or.inr (Or.inr (Or.inr (Or.inr (Or.inl z))))))))))))) (fun z => Or.elim z (fun z => (Or.inr (Or.inr (Or.inr (Or.inr (Or.inr (Or.inr (Or.inr (Or.inr (Or.inr (Or.inr (Or.inr (Or.inr (Or.inl z)))))))))))))) (fun z => Or.elim z (fun z => (Or.inr (Or.inr (Or.inr (Or.inr (Or.inr (Or.inr (Or.inr (Or.inr (Or.inr (Or.inr (Or.inr (Or.inr (Or.inr (Or.inr (Or.inr (Or.inl z))))))))))))))))) (fun z => (Or.inr (Or.inr (Or.inr (Or.inr (Or.inr (Or.inr (Or.inr (Or.inr (Or.inr (Or.inr (Or.inr (Or.inr (Or.inr (Or.inr (Or.inr (Or.inr z))))))))))))))))))))))))))))))
    replace e38_0 : 0 ≤ v38 ∧ v38 ≤ 1 := e38_0
    refine w_if (fun c2_ => ?_) (fun c2_ => ?_)
    · skip
      exact w_ret ⟨im38, km38, (show (-1) ≤ (-1) ∧ (-1) ≤ 8128 from ⟨by omega, by omega⟩), trivial⟩
    · skip
      refine w_gFc (ji := 7) rfl (congrArg Prod.fst (kl_2 im38)) (show mG m38 2 7 = 36 from rd_Solver_7 im38 (a := 2) rfl) ?_
      refine w_gFc (ji := 5) rfl (congrArg Prod.fst (kl_2 im38)) (show mG m38 2 5 = 32 from rd_Solver_5 im38 (a := 2) rfl) ?_
      refine w_gK (congrArg Prod.fst (kl_36 im38)) ?_
      refine w_call (s_X7_copy (by unfold isWS; omega) (by unfold isWS; omega) im38) ?_
      intro v54 m54 pp54
      obtain ⟨im54, kk54, -⟩ := pp54
      try dsimp only
      replace im54 : I n m54 := im54
      replace kk54 : Keep n (W_X7_copy 36 32) m38 m54 := kk54
      have km54 : Keep n W_X4_countWithout Me m54 := km38.tr kk54 (fun b j z => Or.elim z (fun z => (Or.inr (Or.inr (Or.inr (Or.inl (by omega)))))) (fun z => Or.elim z (fun z => (Or.inr (Or.inr (Or.inr (Or.inr (Or.inr (Or.inr (Or.inr (Or.inr (Or.inr (Or.inr (Or.inr (Or.inr (Or.inr (Or.inl ⟨by omega, z.2⟩))))))))))))))) (fun z => (Or.inr (Or.inr (Or.inr (Or.inr (Or.inr (Or.inr (Or.inr (Or.inr (Or.inr (Or.inr (Or.inr (Or.inr (Or.inr (Or.inr (Or.inl ⟨by omega, z.2⟩))))))))))))))))))
      exact s_X4_countWithout_60 FU _ _ _ _ ⟨by omega, by omega⟩ ⟨by omega, by omega⟩ ⟨by omega, by omega⟩ (by show _ < (70000 : Int); omega) im54 km54
theorem s_X4_countWithout_31 {n : Nat} {Me : Mem} {l1 l2 : Int} {M : Mem} (r_l1 : (-2147483648) ≤ l1 ∧ l1 ≤ 2147483647) (r_l2 : 0 ≤ l2 ∧ l2 ≤ 255) (iM : I n M) (kM : Keep n W_X4_countWithout Me M) : wp (mX4_countWithout_31 2 l1 l2 M) (fun q => I n q.2 ∧ Keep n W_X4_countWithout Me q.2 ∧ ((-1) ≤ q.1 ∧ q.1 ≤ 8128) ∧ True) := by
  have hn : (169 : Int) ≤ (n : Int) := by have := iM.2.2.2.2.1; omega
  unfold mX4_countWithout_31
  exact s_X4_countWithout_32 ⟨by omega, by omega⟩ ⟨by omega, by omega⟩ ⟨by omega, by omega⟩ iM kM
theorem s_X4_countWithout {n : Nat} {l1 : Int} {M : Mem} (r_l1 : (-2147483648) ≤ l1 ∧ l1 ≤ 2147483647) (iM : I n M) : wp (mX4_countWithout 2 l1 M) (fun q => I n q.2 ∧ Keep n W_X4_countWithout M q.2 ∧ ((-1) ≤ q.1 ∧ q.1 ≤ 8128) ∧ True) := by
  have hn : (169 : Int) ≤ (n : Int) := by have := iM.2.2.2.2.1; omega
  have kM : Keep n W_X4_countWithout M M := Keep.rf
  unfold mX4_countWithout
  refine w_gFc (ji := 0) rfl (congrArg Prod.fst (kl_2 iM)) (show mG M 2 0 = 3 from rd_Solver_0 iM (a := 2) rfl) ?_
  refine w_gK (congrArg Prod.fst (kl_3 iM)) ?_
  refine w_call (s_X6_viewedStories iM) ?_
  intro v4 m4 pp4
  obtain ⟨im4, kk4, e4_0, -⟩ := pp4
  try dsimp only
  replace im4 : I n m4 := im4
  replace kk4 : Keep n W_X6_viewedStories M m4 := kk4
  have km4 : Keep n W_X4_countWithout M m4 := kM.tr kk4 (fun b j z => z.elim)
  replace e4_0 : 0 ≤ v4 ∧ v4 ≤ 255 := e4_0
  refine w_gFc (ji := 0) rfl (congrArg Prod.fst (kl_2 im4)) (show mG m4 2 0 = 3 from rd_Solver_0 im4 (a := 2) rfl) ?_
  refine w_gK (congrArg Prod.fst (kl_3 im4)) ?_
  refine w_call (s_X6_hasStory ⟨by omega, by omega⟩ im4) ?_
  intro v13 m13 pp13
  obtain ⟨im13, kk13, e13_0, e13_1, -⟩ := pp13
  try dsimp only
  replace im13 : I n m13 := im13
  replace kk13 : Keep n W_X6_hasStory m4 m13 := kk13
  have km13 : Keep n W_X4_countWithout M m13 := km4.tr kk13 (fun b j z => z.elim)
  replace e13_0 : 0 ≤ v13 ∧ v13 ≤ 1 := e13_0
  replace e13_1 : v13 = 1 → 0 ≤ l1 ∧ l1 ≤ 7 := e13_1
  refine w_if (fun c1_ => ?_) (fun c1_ => ?_)
  · skip
    exact s_X4_countWithout_31 ⟨by omega, by omega⟩ ⟨by omega, by omega⟩ im13 km13
  · skip
    have w2_ := ishr_b (x := v4) (k := l1) (by omega) (by omega) (by omega) (by omega)
    have w3_ := iand_l (x := (ishr v4 l1)) (y := 1) (by omega) (by omega)
    have w4_ := iand_r (x := (ishr v4 l1)) (y := 1) (by omega) (by omega)
    refine w_if (fun c5_ => ?_) (fun c5_ => ?_)
    · skip
      exact s_X4_countWithout_31 ⟨by omega, by omega⟩ ⟨by omega, by omega⟩ im13 km13
    · skip
      exact s_X4_countWithout_32 ⟨by omega, by omega⟩ ⟨by omega, by omega⟩ ⟨by omega, by omega⟩ im13 km13
