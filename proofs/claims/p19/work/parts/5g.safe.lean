def W_X4_findPossible (b j : Int) : Prop := b = 33 ∨ (b = 32 ∧ j = 1) ∨ (b = 32 ∧ j = 2)
theorem s_X4_findPossible_104 {n : Nat} {Me : Mem} {k21 : Int → Int → Int → Mem → Option (Int × Mem)} {fu21 : Nat} (hk21 : ∀ (l2 : Int) (M : Mem), (0 ≤ l2 ∧ l2 ≤ 4) → 5 - l2 < (fu21 : Int) → I n M → Keep n W_X4_findPossible Me M → wp (k21 2 4 l2 M) (fun q => I n q.2 ∧ Keep n W_X4_findPossible Me q.2 ∧ True)) {k31 : Int → Int → Int → Int → Mem → Option (Int × Mem)} {fu31 : Nat} (hk31 : ∀ (l2 l3 : Int) (M : Mem), (0 ≤ l2 ∧ l2 ≤ 3) → (0 ≤ l3 ∧ l3 ≤ 3) → 5 - l2 < (fu21 : Int) + 1 → 4 - l3 < (fu31 : Int) → I n M → Keep n W_X4_findPossible Me M → wp (k31 2 4 l2 l3 M) (fun q => I n q.2 ∧ Keep n W_X4_findPossible Me q.2 ∧ True)) {k44 : Int → Int → Int → Int → Int → Mem → Option (Int × Mem)} {fu44 : Nat} (hk44 : ∀ (l2 l3 l4 : Int) (M : Mem), (0 ≤ l2 ∧ l2 ≤ 3) → (0 ≤ l3 ∧ l3 ≤ 2) → (0 ≤ l4 ∧ l4 ≤ 3) → 5 - l2 < (fu21 : Int) + 1 → 4 - l3 < (fu31 : Int) + 1 → 4 - l4 < (fu44 : Int) → I n M → Keep n W_X4_findPossible Me M → wp (k44 2 4 l2 l3 l4 M) (fun q => I n q.2 ∧ Keep n W_X4_findPossible Me q.2 ∧ True)) {l2 l3 l4 : Int} {M : Mem} (r_l2 : 0 ≤ l2 ∧ l2 ≤ 3) (r_l3 : 0 ≤ l3 ∧ l3 ≤ 2) (r_l4 : 0 ≤ l4 ∧ l4 ≤ 2) (hf21 : 5 - l2 < (fu21 : Int) + 1) (hf31 : 4 - l3 < (fu31 : Int) + 1) (hf44 : 4 - l4 < (fu44 : Int) + 1) (iM : I n M) (kM : Keep n W_X4_findPossible Me M) : wp (mX4_findPossible_104 k21 k31 k44 2 4 l2 l3 l4 M) (fun q => I n q.2 ∧ Keep n W_X4_findPossible Me q.2 ∧ True) := by
  have hn : (169 : Int) ≤ (n : Int) := by have := iM.2.2.2.2.1; omega
  unfold mX4_findPossible_104
  have w1_ := wI_id (x := (l4 + 1)) (by omega) (by omega)
  exact hk44 _ _ _ _ ⟨by omega, by omega⟩ ⟨by omega, by omega⟩ ⟨by omega, by omega⟩ (by omega) (by omega) (by omega) iM kM
theorem s_X4_findPossible_101 {n : Nat} {Me : Mem} {k21 : Int → Int → Int → Mem → Option (Int × Mem)} {fu21 : Nat} (hk21 : ∀ (l2 : Int) (M : Mem), (0 ≤ l2 ∧ l2 ≤ 4) → 5 - l2 < (fu21 : Int) → I n M → Keep n W_X4_findPossible Me M → wp (k21 2 4 l2 M) (fun q => I n q.2 ∧ Keep n W_X4_findPossible Me q.2 ∧ True)) {k31 : Int → Int → Int → Int → Mem → Option (Int × Mem)} {fu31 : Nat} (hk31 : ∀ (l2 l3 : Int) (M : Mem), (0 ≤ l2 ∧ l2 ≤ 3) → (0 ≤ l3 ∧ l3 ≤ 3) → 5 - l2 < (fu21 : Int) + 1 → 4 - l3 < (fu31 : Int) → I n M → Keep n W_X4_findPossible Me M → wp (k31 2 4 l2 l3 M) (fun q => I n q.2 ∧ Keep n W_X4_findPossible Me q.2 ∧ True)) {k44 : Int → Int → Int → Int → Int → Mem → Option (Int × Mem)} {fu44 : Nat} (hk44 : ∀ (l2 l3 l4 : Int) (M : Mem), (0 ≤ l2 ∧ l2 ≤ 3) → (0 ≤ l3 ∧ l3 ≤ 2) → (0 ≤ l4 ∧ l4 ≤ 3) → 5 - l2 < (fu21 : Int) + 1 → 4 - l3 < (fu31 : Int) + 1 → 4 - l4 < (fu44 : Int) → I n M → Keep n W_X4_findPossible Me M → wp (k44 2 4 l2 l3 l4 M) (fun q => I n q.2 ∧ Keep n W_X4_findPossible Me q.2 ∧ True)) {l2 l3 l4 s1 s2 : Int} {M : Mem} (r_l2 : 0 ≤ l2 ∧ l2 ≤ 3) (r_l3 : 0 ≤ l3 ∧ l3 ≤ 2) (r_l4 : 0 ≤ l4 ∧ l4 ≤ 2) (r_s1 : (-36) ≤ s1 ∧ s1 ≤ 36) (r_s2 : 0 ≤ s2 ∧ s2 ≤ 1) (hf21 : 5 - l2 < (fu21 : Int) + 1) (hf31 : 4 - l3 < (fu31 : Int) + 1) (hf44 : 4 - l4 < (fu44 : Int) + 1) (iM : I n M) (kM : Keep n W_X4_findPossible Me M) : wp (mX4_findPossible_101 k21 k31 k44 2 4 l2 l3 l4 32 s1 s2 M) (fun q => I n q.2 ∧ Keep n W_X4_findPossible Me q.2 ∧ True) := by
  have hn : (169 : Int) ≤ (n : Int) := by have := iM.2.2.2.2.1; omega
  unfold mX4_findPossible_101
  refine w_gK (congrArg Prod.fst (kl_32 iM)) ?_
  refine w_call (s_X7_keepWhere (by unfold isWS; omega) ⟨by omega, by omega⟩ ⟨by omega, by omega⟩ iM) ?_
  intro v101 m101 pp101
  obtain ⟨im101, kk101, -⟩ := pp101
  try dsimp only
  replace im101 : I n m101 := im101
  replace kk101 : Keep n (W_X7_keepWhere 32) M m101 := kk101
  have km101 : Keep n W_X4_findPossible Me m101 := kM.tr kk101 (fun b j z => by unfold W_X7_keepWhere at z; exact (Or.inl (by omega)))
  exact s_X4_findPossible_104 hk21 hk31 hk44 ⟨by omega, by omega⟩ ⟨by omega, by omega⟩ ⟨by omega, by omega⟩ (by omega) (by omega) (by omega) im101 km101
theorem sb_X4_findPossible_44 {n : Nat} {Me : Mem} {k21 : Int → Int → Int → Mem → Option (Int × Mem)} {fu21 : Nat} (hk21 : ∀ (l2 : Int) (M : Mem), (0 ≤ l2 ∧ l2 ≤ 4) → 5 - l2 < (fu21 : Int) → I n M → Keep n W_X4_findPossible Me M → wp (k21 2 4 l2 M) (fun q => I n q.2 ∧ Keep n W_X4_findPossible Me q.2 ∧ True)) {k31 : Int → Int → Int → Int → Mem → Option (Int × Mem)} {fu31 : Nat} (hk31 : ∀ (l2 l3 : Int) (M : Mem), (0 ≤ l2 ∧ l2 ≤ 3) → (0 ≤ l3 ∧ l3 ≤ 3) → 5 - l2 < (fu21 : Int) + 1 → 4 - l3 < (fu31 : Int) → I n M → Keep n W_X4_findPossible Me M → wp (k31 2 4 l2 l3 M) (fun q => I n q.2 ∧ Keep n W_X4_findPossible Me q.2 ∧ True)) {k44 : Int → Int → Int → Int → Int → Mem → Option (Int × Mem)} {fu44 : Nat} (hk44 : ∀ (l2 l3 l4 : Int) (M : Mem), (0 ≤ l2 ∧ l2 ≤ 3) → (0 ≤ l3 ∧ l3 ≤ 2) → (0 ≤ l4 ∧ l4 ≤ 3) → 5 - l2 < (fu21 : Int) + 1 → 4 - l3 < (fu31 : Int) + 1 → 4 - l4 < (fu44 : Int) → I n M → Keep n W_X4_findPossible Me M → wp (k44 2 4 l2 l3 l4 M) (fun q => I n q.2 ∧ Keep n W_X4_findPossible Me q.2 ∧ True)) {l2 l3 l4 : Int} {M : Mem} (r_l2 : 0 ≤ l2 ∧ l2 ≤ 3) (r_l3 : 0 ≤ l3 ∧ l3 ≤ 2) (r_l4 : 0 ≤ l4 ∧ l4 ≤ 3) (hf21 : 5 - l2 < (fu21 : Int) + 1) (hf31 : 4 - l3 < (fu31 : Int) + 1) (hf44 : 4 - l4 < (fu44 : Int) + 1) (iM : I n M) (kM : Keep n W_X4_findPossible Me M) : wp (bX4_findPossible_44 k21 k31 k44 2 4 l2 l3 l4 M) (fun q => I n q.2 ∧ Keep n W_X4_findPossible Me q.2 ∧ True) := by
  have hn : (169 : Int) ≤ (n : Int) := by have := iM.2.2.2.2.1; omega
  unfold bX4_findPossible_44
  refine w_gFc (ji := 5) rfl (congrArg Prod.fst (kl_4 iM)) (show mG M 4 5 = 10 from rd_Shape_5 iM (a := 4) rfl) ?_
  refine w_aG (kl_10 iM) (by omega) (by omega) (fun a51 ha51 => ?_)
  have ra51 : 0 ≤ a51 ∧ a51 ≤ 3 := ha51.tr (P := fun z => 0 ≤ z ∧ z ≤ 3) (rd_Swidth iM rfl)
  refine w_if (fun c1_ => ?_) (fun c1_ => ?_)
  · skip
    have w2_ := wI_id (x := (l3 + 1)) (by omega) (by omega)
    exact hk31 _ _ _ ⟨by omega, by omega⟩ ⟨by omega, by omega⟩ (by omega) (by omega) iM kM
  · skip
    refine w_gFc (ji := 0) rfl (congrArg Prod.fst (kl_2 iM)) (show mG M 2 0 = 3 from rd_Solver_0 iM (a := 2) rfl) ?_
    refine w_gK (congrArg Prod.fst (kl_3 iM)) ?_
    refine w_call (s_X6_knownOf ⟨by omega, by omega⟩ ⟨by omega, by omega⟩ ⟨by omega, by omega⟩ iM) ?_
    intro v63 m63 pp63
    obtain ⟨im63, kk63, e63_0, -⟩ := pp63
    try dsimp only
    replace im63 : I n m63 := im63
    replace kk63 : Keep n W_X6_knownOf M m63 := kk63
    have km63 : Keep n W_X4_findPossible Me m63 := kM.tr kk63 (fun b j z => z.elim)
    replace e63_0 : (-1) ≤ v63 ∧ v63 ≤ 1 := e63_0
    refine w_if (fun c3_ => ?_) (fun c3_ => ?_)
    · skip
      exact s_X4_findPossible_104 hk21 hk31 hk44 ⟨by omega, by omega⟩ ⟨by omega, by omega⟩ ⟨by omega, by omega⟩ (by omega) (by omega) (by omega) im63 km63
    · skip
      refine w_gFc (ji := 5) rfl (congrArg Prod.fst (kl_2 im63)) (show mG m63 2 5 = 32 from rd_Solver_5 im63 (a := 2) rfl) ?_
      refine w_gK (congrArg Prod.fst (kl_4 im63)) ?_
      refine w_call (s_X3_place (by unfold isShape; omega) ⟨by omega, by omega⟩ ⟨by omega, by omega⟩ im63) ?_
      intro v84 m84 pp84
      obtain ⟨im84, kk84, e84_0, -⟩ := pp84
      try dsimp only
      replace im84 : I n m84 := im84
      replace kk84 : Keep n (W_X3_place 4) m63 m84 := kk84
      have km84 : Keep n W_X4_findPossible Me m84 := km63.tr kk84 (fun b j z => z.elim)
      replace e84_0 : (-1) ≤ v84 ∧ v84 ≤ 35 := e84_0
      refine w_gK (congrArg Prod.fst (kl_4 im84)) ?_
      refine w_call (s_X3_bit (by unfold isShape; omega) ⟨by omega, by omega⟩ im84) ?_
      intro v87 m87 pp87
      obtain ⟨im87, kk87, e87_0, -⟩ := pp87
      try dsimp only
      replace im87 : I n m87 := im87
      replace kk87 : Keep n (W_X3_bit 4) m84 m87 := kk87
      have km87 : Keep n W_X4_findPossible Me m87 := km84.tr kk87 (fun b j z => z.elim)
      replace e87_0 : (-36) ≤ v87 ∧ v87 ≤ 36 := e87_0
      refine w_if (fun c4_ => ?_) (fun c4_ => ?_)
      · skip
        exact s_X4_findPossible_101 hk21 hk31 hk44 ⟨by omega, by omega⟩ ⟨by omega, by omega⟩ ⟨by omega, by omega⟩ ⟨by omega, by omega⟩ ⟨by omega, by omega⟩ (by omega) (by omega) (by omega) im87 km87
      · skip
        exact s_X4_findPossible_101 hk21 hk31 hk44 ⟨by omega, by omega⟩ ⟨by omega, by omega⟩ ⟨by omega, by omega⟩ ⟨by omega, by omega⟩ ⟨by omega, by omega⟩ (by omega) (by omega) (by omega) im87 km87
theorem s_X4_findPossible_44 {n : Nat} {Me : Mem} {k21 : Int → Int → Int → Mem → Option (Int × Mem)} {fu21 : Nat} (hk21 : ∀ (l2 : Int) (M : Mem), (0 ≤ l2 ∧ l2 ≤ 4) → 5 - l2 < (fu21 : Int) → I n M → Keep n W_X4_findPossible Me M → wp (k21 2 4 l2 M) (fun q => I n q.2 ∧ Keep n W_X4_findPossible Me q.2 ∧ True)) {k31 : Int → Int → Int → Int → Mem → Option (Int × Mem)} {fu31 : Nat} (hk31 : ∀ (l2 l3 : Int) (M : Mem), (0 ≤ l2 ∧ l2 ≤ 3) → (0 ≤ l3 ∧ l3 ≤ 3) → 5 - l2 < (fu21 : Int) + 1 → 4 - l3 < (fu31 : Int) → I n M → Keep n W_X4_findPossible Me M → wp (k31 2 4 l2 l3 M) (fun q => I n q.2 ∧ Keep n W_X4_findPossible Me q.2 ∧ True)) : ∀ (fu : Nat) (l2 l3 l4 : Int) (M : Mem), (0 ≤ l2 ∧ l2 ≤ 3) → (0 ≤ l3 ∧ l3 ≤ 2) → (0 ≤ l4 ∧ l4 ≤ 3) → 5 - l2 < (fu21 : Int) + 1 → 4 - l3 < (fu31 : Int) + 1 → 4 - l4 < (fu : Int) → I n M → Keep n W_X4_findPossible Me M → wp (mX4_findPossible_44 k21 k31 fu 2 4 l2 l3 l4 M) (fun q => I n q.2 ∧ Keep n W_X4_findPossible Me q.2 ∧ True) := by
  intro fu
  induction fu with
  | zero =>
    intro l2 l3 l4 M r_l2 r_l3 r_l4 hf21 hf31 hf iM kM
    exfalso
    omega
  | succ fu ih =>
    intro l2 l3 l4 M r_l2 r_l3 r_l4 hf21 hf31 hf iM kM
    exact sb_X4_findPossible_44 hk21 hk31 ih r_l2 r_l3 r_l4 hf21 hf31 (by have e : ((fu + 1 : Nat) : Int) = (fu : Int) + 1 := rfl; rw [e] at hf; exact hf) iM kM
theorem sb_X4_findPossible_31 {n : Nat} {Me : Mem} {k21 : Int → Int → Int → Mem → Option (Int × Mem)} {fu21 : Nat} (hk21 : ∀ (l2 : Int) (M : Mem), (0 ≤ l2 ∧ l2 ≤ 4) → 5 - l2 < (fu21 : Int) → I n M → Keep n W_X4_findPossible Me M → wp (k21 2 4 l2 M) (fun q => I n q.2 ∧ Keep n W_X4_findPossible Me q.2 ∧ True)) {k31 : Int → Int → Int → Int → Mem → Option (Int × Mem)} {fu31 : Nat} (hk31 : ∀ (l2 l3 : Int) (M : Mem), (0 ≤ l2 ∧ l2 ≤ 3) → (0 ≤ l3 ∧ l3 ≤ 3) → 5 - l2 < (fu21 : Int) + 1 → 4 - l3 < (fu31 : Int) → I n M → Keep n W_X4_findPossible Me M → wp (k31 2 4 l2 l3 M) (fun q => I n q.2 ∧ Keep n W_X4_findPossible Me q.2 ∧ True)) {l2 l3 : Int} {M : Mem} (r_l2 : 0 ≤ l2 ∧ l2 ≤ 3) (r_l3 : 0 ≤ l3 ∧ l3 ≤ 3) (hf21 : 5 - l2 < (fu21 : Int) + 1) (hf31 : 4 - l3 < (fu31 : Int) + 1) (iM : I n M) (kM : Keep n W_X4_findPossible Me M) : wp (bX4_findPossible_31 k21 k31 2 4 l2 l3 M) (fun q => I n q.2 ∧ Keep n W_X4_findPossible Me q.2 ∧ True) := by
  have hn : (169 : Int) ≤ (n : Int) := by have := iM.2.2.2.2.1; omega
  unfold bX4_findPossible_31
  refine w_gFc (ji := 4) rfl (congrArg Prod.fst (kl_4 iM)) (show mG M 4 4 = 9 from rd_Shape_4 iM (a := 4) rfl) ?_
  refine w_aG (kl_9 iM) (by omega) (by omega) (fun a37 ha37 => ?_)
  have ra37 : 0 ≤ a37 ∧ a37 ≤ 3 := ha37.tr (P := fun z => 0 ≤ z ∧ z ≤ 3) (rd_Sheight iM rfl)
  refine w_if (fun c1_ => ?_) (fun c1_ => ?_)
  · skip
    have w2_ := wI_id (x := (l2 + 1)) (by omega) (by omega)
    exact hk21 _ _ ⟨by omega, by omega⟩ (by omega) iM kM
  · skip
    exact s_X4_findPossible_44 hk21 hk31 FU _ _ _ _ ⟨by omega, by omega⟩ ⟨by omega, by omega⟩ ⟨by omega, by omega⟩ (by omega) (by omega) (by show _ < (70000 : Int); omega) iM kM
theorem s_X4_findPossible_31 {n : Nat} {Me : Mem} {k21 : Int → Int → Int → Mem → Option (Int × Mem)} {fu21 : Nat} (hk21 : ∀ (l2 : Int) (M : Mem), (0 ≤ l2 ∧ l2 ≤ 4) → 5 - l2 < (fu21 : Int) → I n M → Keep n W_X4_findPossible Me M → wp (k21 2 4 l2 M) (fun q => I n q.2 ∧ Keep n W_X4_findPossible Me q.2 ∧ True)) : ∀ (fu : Nat) (l2 l3 : Int) (M : Mem), (0 ≤ l2 ∧ l2 ≤ 3) → (0 ≤ l3 ∧ l3 ≤ 3) → 5 - l2 < (fu21 : Int) + 1 → 4 - l3 < (fu : Int) → I n M → Keep n W_X4_findPossible Me M → wp (mX4_findPossible_31 k21 fu 2 4 l2 l3 M) (fun q => I n q.2 ∧ Keep n W_X4_findPossible Me q.2 ∧ True) := by
  intro fu
  induction fu with
  | zero =>
    intro l2 l3 M r_l2 r_l3 hf21 hf iM kM
    exfalso
    omega
  | succ fu ih =>
    intro l2 l3 M r_l2 r_l3 hf21 hf iM kM
    exact sb_X4_findPossible_31 hk21 ih r_l2 r_l3 hf21 (by have e : ((fu + 1 : Nat) : Int) = (fu : Int) + 1 := rfl; rw [e] at hf; exact hf) iM kM
theorem sb_X4_findPossible_21 {n : Nat} {Me : Mem} {k21 : Int → Int → Int → Mem → Option (Int × Mem)} {fu21 : Nat} (hk21 : ∀ (l2 : Int) (M : Mem), (0 ≤ l2 ∧ l2 ≤ 4) → 5 - l2 < (fu21 : Int) → I n M → Keep n W_X4_findPossible Me M → wp (k21 2 4 l2 M) (fun q => I n q.2 ∧ Keep n W_X4_findPossible Me q.2 ∧ True)) {l2 : Int} {M : Mem} (r_l2 : 0 ≤ l2 ∧ l2 ≤ 4) (hf21 : 5 - l2 < (fu21 : Int) + 1) (iM : I n M) (kM : Keep n W_X4_findPossible Me M) : wp (bX4_findPossible_21 k21 2 4 l2 M) (fun q => I n q.2 ∧ Keep n W_X4_findPossible Me q.2 ∧ True) := by
  have hn : (169 : Int) ≤ (n : Int) := by have := iM.2.2.2.2.1; omega
  unfold bX4_findPossible_21
  refine w_gF (ji := 6) rfl (congrArg Prod.fst (kl_4 iM)) (fun a23 ha23 => ?_)
  have ra23 : 0 ≤ a23 ∧ a23 ≤ 4 := ha23.tr (P := fun z => 0 ≤ z ∧ z ≤ 4) (rd_Shape_6 iM rfl)
  refine w_if (fun c1_ => ?_) (fun c1_ => ?_)
  · skip
    exact w_ret ⟨iM, kM, trivial⟩
  · skip
    exact s_X4_findPossible_31 hk21 FU _ _ _ ⟨by omega, by omega⟩ ⟨by omega, by omega⟩ (by omega) (by show _ < (70000 : Int); omega) iM kM
theorem s_X4_findPossible_21 {n : Nat} {Me : Mem} : ∀ (fu : Nat) (l2 : Int) (M : Mem), (0 ≤ l2 ∧ l2 ≤ 4) → 5 - l2 < (fu : Int) → I n M → Keep n W_X4_findPossible Me M → wp (mX4_findPossible_21 fu 2 4 l2 M) (fun q => I n q.2 ∧ Keep n W_X4_findPossible Me q.2 ∧ True) := by
  intro fu
  induction fu with
  | zero =>
    intro l2 M r_l2 hf iM kM
    exfalso
    omega
  | succ fu ih =>
    intro l2 M r_l2 hf iM kM
    exact sb_X4_findPossible_21 ih r_l2 (by have e : ((fu + 1 : Nat) : Int) = (fu : Int) + 1 := rfl; rw [e] at hf; exact hf) iM kM
theorem s_X4_findPossible {n : Nat} {M : Mem} (iM : I n M) : wp (mX4_findPossible 2 M) (fun q => I n q.2 ∧ Keep n W_X4_findPossible M q.2 ∧ True) := by
  have hn : (169 : Int) ≤ (n : Int) := by have := iM.2.2.2.2.1; omega
  have kM : Keep n W_X4_findPossible M M := Keep.rf
  unfold mX4_findPossible
  refine w_gFc (ji := 0) rfl (congrArg Prod.fst (kl_2 iM)) (show mG M 2 0 = 3 from rd_Solver_0 iM (a := 2) rfl) ?_
  refine w_gFc (ji := 0) rfl (congrArg Prod.fst (kl_3 iM)) (show mG M 3 0 = 4 from rd_Told_0 iM (a := 3) rfl) ?_
  refine w_gFc (ji := 5) rfl (congrArg Prod.fst (kl_2 iM)) (show mG M 2 5 = 32 from rd_Solver_5 iM (a := 2) rfl) ?_
  refine w_gF (ji := 7) rfl (congrArg Prod.fst (kl_4 iM)) (fun a13 ha13 => ?_)
  have ra13 : 0 ≤ a13 ∧ a13 ≤ 36 := ha13.tr (P := fun z => 0 ≤ z ∧ z ≤ 36) (rd_Shape_7 iM rfl)
  refine w_gK (congrArg Prod.fst (kl_32 iM)) ?_
  refine w_call (s_X7_takeAll (by unfold isWS; omega) ⟨by omega, by omega⟩ iM) ?_
  intro v16 m16 pp16
  obtain ⟨im16, kk16, -⟩ := pp16
  try dsimp only
  replace im16 : I n m16 := im16
  replace kk16 : Keep n (W_X7_takeAll 32) M m16 := kk16
  have km16 : Keep n W_X4_findPossible M m16 := kM.tr kk16 (fun b j z => Or.elim z (fun z => (Or.inl (by omega))) (fun z => Or.elim z (fun z => (Or.inr (Or.inl ⟨by omega, z.2⟩))) (fun z => (Or.inr (Or.inr ⟨by omega, z.2⟩)))))
  exact s_X4_findPossible_21 FU _ _ ⟨by omega, by omega⟩ (by show _ < (70000 : Int); omega) im16 km16
def W_X7_copy (l0 : Int) (l1 : Int) (b j : Int) : Prop := b = (l0 + 1) ∨ (b = l0 ∧ j = 1) ∨ (b = l0 ∧ j = 2)
theorem s_X7_copy {n : Nat} {l0 l1 : Int} {M : Mem} (h_l0 : isWS l0) (h_l1 : isWS l1) (iM : I n M) : wp (mX7_copy l0 l1 M) (fun q => I n q.2 ∧ Keep n (W_X7_copy l0 l1) M q.2 ∧ True) := by
  have hn : (169 : Int) ≤ (n : Int) := by have := iM.2.2.2.2.1; omega
  have kM : Keep n (W_X7_copy l0 l1) M M := Keep.rf
  have u_l0 := h_l0
  unfold isWS at u_l0
  have u_l1 := h_l1
  unfold isWS at u_l1
  unfold mX7_copy
  refine w_gF (ji := 2) rfl (congrArg Prod.fst (k_WS iM h_l1)) (fun a2 ha2 => ?_)
  have ra2 : 0 ≤ a2 ∧ a2 ≤ 12 := ha2.tr (P := fun z => 0 ≤ z ∧ z ≤ 12) (rd_WS_2 iM (f_WS h_l1))
  refine w_pF (ji := 2) rfl (congrArg Prod.fst (k_WS iM h_l0)) (fun M5 hM5 => ?_)
  replace hM5 : M5 = mS M l0 2 a2 := hM5
  have iM5 : I n M5 := wr_WS_2 iM (f_WS h_l0) ⟨by omega, by omega⟩ hM5
  have kM5 : Keep n (W_X7_copy l0 l1) M M5 := kM.st hM5 (Or.inl (Or.inr (Or.inr ⟨rfl, rfl⟩)))
  refine w_gF (ji := 1) rfl (congrArg Prod.fst (k_WS iM5 h_l1)) (fun a10 ha10 => ?_)
  have ra10 : 0 ≤ a10 ∧ a10 ≤ 64 := ha10.tr (P := fun z => 0 ≤ z ∧ z ≤ 64) (rd_WS_1 iM5 (f_WS h_l1))
  refine w_pF (ji := 1) rfl (congrArg Prod.fst (k_WS iM5 h_l0)) (fun M13 hM13 => ?_)
  replace hM13 : M13 = mS M5 l0 1 a10 := hM13
  have iM13 : I n M13 := wr_WS_1 iM5 (f_WS h_l0) ⟨by omega, by omega⟩ hM13
  have kM13 : Keep n (W_X7_copy l0 l1) M M13 := kM5.st hM13 (Or.inl (Or.inr (Or.inl ⟨rfl, rfl⟩)))
  refine w_gFc (ji := 0) rfl (congrArg Prod.fst (k_WS iM13 h_l1)) (show mG M13 l1 0 = (l1 + 1) from rd_WS_0 iM13 (a := l1) (f_WS h_l1)) ?_
  refine w_gFc (ji := 0) rfl (congrArg Prod.fst (k_WS iM13 h_l0)) (show mG M13 l0 0 = (l0 + 1) from rd_WS_0 iM13 (a := l0) (f_WS h_l0)) ?_
  refine w_gFc (ji := 1) rfl (congrArg Prod.fst (k_WS iM13 h_l0)) (show mG M13 l0 1 = a10 from (show mG M13 l0 1 = a10 from (st_eq hM13))) ?_
  refine w_aC (k_Wwords iM13 h_l1) (k_Wwords iM13 h_l0) ⟨by omega, by omega, by omega, by omega, by omega⟩ (fun M30 hM30 => ?_)
  replace hM30 : M30 = mC M13 (l1 + 1) 0 (l0 + 1) 0 a10 := hM30
  have iM30 : I n M30 := iM13.cp hM30 (f_Wwords h_l0) (fun j j0 j1 => trivial) (by decide)
  have kM30 : Keep n (W_X7_copy l0 l1) M M30 := kM13.cp hM30 (fun j => (Or.inl rfl))
  exact w_ret ⟨iM30, kM30, trivial⟩
def W_X6_viewedStories (b j : Int) : Prop := False
theorem s_X6_viewedStories_64 {n : Nat} {Me : Mem} {k4 : Int → Int → Int → Mem → Option (Int × Mem)} {fu4 : Nat} (hk4 : ∀ (l1 l2 : Int) (M : Mem), (0 ≤ l1 ∧ l1 ≤ 255) → (0 ≤ l2 ∧ l2 ≤ 8) → 9 - l2 < (fu4 : Int) → I n M → Keep n W_X6_viewedStories Me M → wp (k4 3 l1 l2 M) (fun q => I n q.2 ∧ Keep n W_X6_viewedStories Me q.2 ∧ (0 ≤ q.1 ∧ q.1 ≤ 255) ∧ True)) {l1 l2 : Int} {M : Mem} (r_l1 : 0 ≤ l1 ∧ l1 ≤ 255) (r_l2 : 0 ≤ l2 ∧ l2 ≤ 7) (hf4 : 9 - l2 < (fu4 : Int) + 1) (iM : I n M) (kM : Keep n W_X6_viewedStories Me M) : wp (mX6_viewedStories_64 k4 3 l1 l2 M) (fun q => I n q.2 ∧ Keep n W_X6_viewedStories Me q.2 ∧ (0 ≤ q.1 ∧ q.1 ≤ 255) ∧ True) := by
  have hn : (169 : Int) ≤ (n : Int) := by have := iM.2.2.2.2.1; omega
  unfold mX6_viewedStories_64
  have w1_ := wI_id (x := (l2 + 1)) (by omega) (by omega)
  exact hk4 _ _ _ ⟨by omega, by omega⟩ ⟨by omega, by omega⟩ (by omega) iM kM
theorem s_X6_viewedStories_40 {n : Nat} {Me : Mem} {k4 : Int → Int → Int → Mem → Option (Int × Mem)} {fu4 : Nat} (hk4 : ∀ (l1 l2 : Int) (M : Mem), (0 ≤ l1 ∧ l1 ≤ 255) → (0 ≤ l2 ∧ l2 ≤ 8) → 9 - l2 < (fu4 : Int) → I n M → Keep n W_X6_viewedStories Me M → wp (k4 3 l1 l2 M) (fun q => I n q.2 ∧ Keep n W_X6_viewedStories Me q.2 ∧ (0 ≤ q.1 ∧ q.1 ≤ 255) ∧ True)) {l1 l2 s0 : Int} {M : Mem} (r_l1 : 0 ≤ l1 ∧ l1 ≤ 255) (r_l2 : 0 ≤ l2 ∧ l2 ≤ 7) (r_s0 : 0 ≤ s0 ∧ s0 ≤ 1) (hf4 : 9 - l2 < (fu4 : Int) + 1) (iM : I n M) (kM : Keep n W_X6_viewedStories Me M) : wp (mX6_viewedStories_40 k4 3 l1 l2 s0 M) (fun q => I n q.2 ∧ Keep n W_X6_viewedStories Me q.2 ∧ (0 ≤ q.1 ∧ q.1 ≤ 255) ∧ True) := by
  have hn : (169 : Int) ≤ (n : Int) := by have := iM.2.2.2.2.1; omega
  unfold mX6_viewedStories_40
  refine w_gFc (ji := 9) rfl (congrArg Prod.fst (kl_3 iM)) (show mG M 3 9 = 15 from rd_Told_9 iM (a := 3) rfl) ?_
  refine w_aG (kl_15 iM) (by omega) (by omega) (fun a46 ha46 => ?_)
  have ra46 : 0 ≤ a46 ∧ a46 ≤ 999 := ha46.tr (P := fun z => 0 ≤ z ∧ z ≤ 999) (rd_TtoldOn iM rfl)
  refine w_gK (congrArg Prod.fst (kl_3 iM)) ?_
  refine w_call (s_X6_viewedDay iM) ?_
  intro v48 m48 pp48
  obtain ⟨im48, kk48, e48_0, -⟩ := pp48
  try dsimp only
  replace im48 : I n m48 := im48
  replace kk48 : Keep n W_X6_viewedDay M m48 := kk48
  have km48 : Keep n W_X6_viewedStories Me m48 := kM.tr kk48 (fun b j z => z.elim)
  replace e48_0 : 0 ≤ v48 ∧ v48 ≤ 999 := e48_0
  refine w_if (fun c1_ => ?_) (fun c1_ => ?_)
  · skip
    exact s_X6_viewedStories_64 hk4 ⟨by omega, by omega⟩ ⟨by omega, by omega⟩ (by omega) im48 km48
  · skip
    refine w_if (fun c2_ => ?_) (fun c2_ => ?_)
    · skip
      have w3_ := ishl1_b (k := l2) (B := 7) (by omega) (by omega) (by decide)
      have w4_ := ior_b (x := l1) (y := (ishl 1 l2)) (k := 8) (by decide) (by omega) (by omega) (by omega) (by omega)
      exact s_X6_viewedStories_64 hk4 ⟨by omega, by omega⟩ ⟨by omega, by omega⟩ (by omega) im48 km48
    · skip
      exact s_X6_viewedStories_64 hk4 ⟨by omega, by omega⟩ ⟨by omega, by omega⟩ (by omega) im48 km48
theorem s_X6_viewedStories_39 {n : Nat} {Me : Mem} {k4 : Int → Int → Int → Mem → Option (Int × Mem)} {fu4 : Nat} (hk4 : ∀ (l1 l2 : Int) (M : Mem), (0 ≤ l1 ∧ l1 ≤ 255) → (0 ≤ l2 ∧ l2 ≤ 8) → 9 - l2 < (fu4 : Int) → I n M → Keep n W_X6_viewedStories Me M → wp (k4 3 l1 l2 M) (fun q => I n q.2 ∧ Keep n W_X6_viewedStories Me q.2 ∧ (0 ≤ q.1 ∧ q.1 ≤ 255) ∧ True)) {l1 l2 : Int} {M : Mem} (r_l1 : 0 ≤ l1 ∧ l1 ≤ 255) (r_l2 : 0 ≤ l2 ∧ l2 ≤ 7) (hf4 : 9 - l2 < (fu4 : Int) + 1) (iM : I n M) (kM : Keep n W_X6_viewedStories Me M) : wp (mX6_viewedStories_39 k4 3 l1 l2 M) (fun q => I n q.2 ∧ Keep n W_X6_viewedStories Me q.2 ∧ (0 ≤ q.1 ∧ q.1 ≤ 255) ∧ True) := by
  have hn : (169 : Int) ≤ (n : Int) := by have := iM.2.2.2.2.1; omega
  unfold mX6_viewedStories_39
  exact s_X6_viewedStories_40 hk4 ⟨by omega, by omega⟩ ⟨by omega, by omega⟩ ⟨by omega, by omega⟩ (by omega) iM kM
theorem sb_X6_viewedStories_4 {n : Nat} {Me : Mem} {k4 : Int → Int → Int → Mem → Option (Int × Mem)} {fu4 : Nat} (hk4 : ∀ (l1 l2 : Int) (M : Mem), (0 ≤ l1 ∧ l1 ≤ 255) → (0 ≤ l2 ∧ l2 ≤ 8) → 9 - l2 < (fu4 : Int) → I n M → Keep n W_X6_viewedStories Me M → wp (k4 3 l1 l2 M) (fun q => I n q.2 ∧ Keep n W_X6_viewedStories Me q.2 ∧ (0 ≤ q.1 ∧ q.1 ≤ 255) ∧ True)) {l1 l2 : Int} {M : Mem} (r_l1 : 0 ≤ l1 ∧ l1 ≤ 255) (r_l2 : 0 ≤ l2 ∧ l2 ≤ 8) (hf4 : 9 - l2 < (fu4 : Int) + 1) (iM : I n M) (kM : Keep n W_X6_viewedStories Me M) : wp (bX6_viewedStories_4 k4 3 l1 l2 M) (fun q => I n q.2 ∧ Keep n W_X6_viewedStories Me q.2 ∧ (0 ≤ q.1 ∧ q.1 ≤ 255) ∧ True) := by
  have hn : (169 : Int) ≤ (n : Int) := by have := iM.2.2.2.2.1; omega
  unfold bX6_viewedStories_4
  refine w_gF (ji := 11) rfl (congrArg Prod.fst (kl_3 iM)) (fun a6 ha6 => ?_)
  have ra6 : 0 ≤ a6 ∧ a6 ≤ 8 := ha6.tr (P := fun z => 0 ≤ z ∧ z ≤ 8) (rd_Told_11 iM rfl)
  refine w_if (fun c1_ => ?_) (fun c1_ => ?_)
  · skip
    exact w_ret ⟨iM, kM, (show 0 ≤ l1 ∧ l1 ≤ 255 from ⟨by omega, by omega⟩), trivial⟩
  · skip
    refine w_gFc (ji := 10) rfl (congrArg Prod.fst (kl_3 iM)) (show mG M 3 10 = 16 from rd_Told_10 iM (a := 3) rfl) ?_
    refine w_aG (kl_16 iM) (by omega) (by omega) (fun a17 ha17 => ?_)
    have ra17 : (-1) ≤ a17 ∧ a17 ≤ 999 := ha17.tr (P := fun z => (-1) ≤ z ∧ z ≤ 999) (rd_TstruckOn iM rfl)
    refine w_if (fun c2_ => ?_) (fun c2_ => ?_)
    · skip
      exact s_X6_viewedStories_39 hk4 ⟨by omega, by omega⟩ ⟨by omega, by omega⟩ (by omega) iM kM
    · skip
      refine w_gFc (ji := 10) rfl (congrArg Prod.fst (kl_3 iM)) (show mG M 3 10 = 16 from rd_Told_10 iM (a := 3) rfl) ?_
      refine w_aGc (kl_16 iM) (by omega) (by omega) (show mG M 16 l2 = a17 from (show mG M 16 l2 = a17 from ha17)) ?_
      refine w_gK (congrArg Prod.fst (kl_3 iM)) ?_
      refine w_call (s_X6_viewedDay iM) ?_
      intro v29 m29 pp29
      obtain ⟨im29, kk29, e29_0, -⟩ := pp29
      try dsimp only
      replace im29 : I n m29 := im29
      replace kk29 : Keep n W_X6_viewedDay M m29 := kk29
      have km29 : Keep n W_X6_viewedStories Me m29 := kM.tr kk29 (fun b j z => z.elim)
      replace e29_0 : 0 ≤ v29 ∧ v29 ≤ 999 := e29_0
      refine w_if (fun c3_ => ?_) (fun c3_ => ?_)
      · skip
        exact s_X6_viewedStories_39 hk4 ⟨by omega, by omega⟩ ⟨by omega, by omega⟩ (by omega) im29 km29
      · skip
        exact s_X6_viewedStories_40 hk4 ⟨by omega, by omega⟩ ⟨by omega, by omega⟩ ⟨by omega, by omega⟩ (by omega) im29 km29
theorem s_X6_viewedStories_4 {n : Nat} {Me : Mem} : ∀ (fu : Nat) (l1 l2 : Int) (M : Mem), (0 ≤ l1 ∧ l1 ≤ 255) → (0 ≤ l2 ∧ l2 ≤ 8) → 9 - l2 < (fu : Int) → I n M → Keep n W_X6_viewedStories Me M → wp (mX6_viewedStories_4 fu 3 l1 l2 M) (fun q => I n q.2 ∧ Keep n W_X6_viewedStories Me q.2 ∧ (0 ≤ q.1 ∧ q.1 ≤ 255) ∧ True) := by
  intro fu
  induction fu with
  | zero =>
    intro l1 l2 M r_l1 r_l2 hf iM kM
    exfalso
    omega
  | succ fu ih =>
    intro l1 l2 M r_l1 r_l2 hf iM kM
    exact sb_X6_viewedStories_4 ih r_l1 r_l2 (by have e : ((fu + 1 : Nat) : Int) = (fu : Int) + 1 := rfl; rw [e] at hf; exact hf) iM kM
theorem s_X6_viewedStories {n : Nat} {M : Mem} (iM : I n M) : wp (mX6_viewedStories 3 M) (fun q => I n q.2 ∧ Keep n W_X6_viewedStories M q.2 ∧ (0 ≤ q.1 ∧ q.1 ≤ 255) ∧ True) := by
  have hn : (169 : Int) ≤ (n : Int) := by have := iM.2.2.2.2.1; omega
  have kM : Keep n W_X6_viewedStories M M := Keep.rf
  unfold mX6_viewedStories
  exact s_X6_viewedStories_4 FU _ _ _ ⟨by omega, by omega⟩ ⟨by omega, by omega⟩ (by show _ < (70000 : Int); omega) iM kM
def W_X7_usedWords (l0 : Int) (b j : Int) : Prop := False
theorem s_X7_usedWords {n : Nat} {l0 : Int} {M : Mem} (h_l0 : isWS l0) (iM : I n M) : wp (mX7_usedWords l0 M) (fun q => I n q.2 ∧ Keep n (W_X7_usedWords l0) M q.2 ∧ (0 ≤ q.1 ∧ q.1 ≤ 64) ∧ True) := by
  have hn : (169 : Int) ≤ (n : Int) := by have := iM.2.2.2.2.1; omega
  have kM : Keep n (W_X7_usedWords l0) M M := Keep.rf
  have u_l0 := h_l0
  unfold isWS at u_l0
  unfold mX7_usedWords
  refine w_gF (ji := 1) rfl (congrArg Prod.fst (k_WS iM h_l0)) (fun a1 ha1 => ?_)
  have ra1 : 0 ≤ a1 ∧ a1 ≤ 64 := ha1.tr (P := fun z => 0 ≤ z ∧ z ≤ 64) (rd_WS_1 iM (f_WS h_l0))
  exact w_ret ⟨iM, kM, (show 0 ≤ a1 ∧ a1 ≤ 64 from ⟨by omega, by omega⟩), trivial⟩
def W_X0_soInWord (l1 : Int) (b j : Int) : Prop := (21 ≤ b ∧ b ≤ 23) ∨ (b = 20 ∧ j = 0) ∨ (b = 20 ∧ j = 1) ∨ (b = 20 ∧ j = 5)
theorem s_X0_soInWord_63 {n : Nat} {Me : Mem} {l1 : Int} (h_l1 : isShape l1) {M : Mem} (p_JS : JS M) (p_JT : JT M) (iM : I n M) (kM : Keep n (W_X0_soInWord l1) Me M) : wp (mX0_soInWord_63 20 M) (fun q => I n q.2 ∧ Keep n (W_X0_soInWord l1) Me q.2 ∧ True) := by
  have hn : (169 : Int) ≤ (n : Int) := by have := iM.2.2.2.2.1; omega
  have u_l1 := h_l1
  unfold isShape at u_l1
  unfold mX0_soInWord_63
  refine w_gK (congrArg Prod.fst (kl_20 iM)) ?_
  refine w_call (s_gX0_judged ⟨by omega, by omega⟩ ⟨by omega, by omega⟩ (by all_goals omega) p_JS p_JT iM) ?_
  intro v66 m66 pp66
  obtain ⟨im66, kk66, -⟩ := pp66
  try dsimp only
  replace im66 : I n m66 := im66
  replace kk66 : Keep n W_X0_judged M m66 := kk66
  have km66 : Keep n (W_X0_soInWord l1) Me m66 := kM.tr kk66 (fun b j z => Or.elim z (fun z => (Or.inl ⟨by omega, by omega⟩)) (fun z => (Or.inr (Or.inr (Or.inr z)))))
  exact w_ret ⟨im66, km66, trivial⟩
theorem sb_X0_soInWord_18 {n : Nat} {Me : Mem} {l1 : Int} (h_l1 : isShape l1) {k18 : Int → Int → Int → Mem → Option (Int × Mem)} {fu18 : Nat} (hk18 : ∀ (l3 l4 : Int) (M : Mem), (0 ≤ l3 ∧ l3 ≤ 63) → (0 ≤ l4 ∧ l4 ≤ 36) → (JS M) → (JT M) → 37 - l4 < (fu18 : Int) → I n M → Keep n (W_X0_soInWord l1) Me M → wp (k18 20 l3 l4 M) (fun q => I n q.2 ∧ Keep n (W_X0_soInWord l1) Me q.2 ∧ True)) {l3 l4 : Int} {M : Mem} (r_l3 : 0 ≤ l3 ∧ l3 ≤ 63) (r_l4 : 0 ≤ l4 ∧ l4 ≤ 36) (p_JS : JS M) (p_JT : JT M) (hf18 : 37 - l4 < (fu18 : Int) + 1) (iM : I n M) (kM : Keep n (W_X0_soInWord l1) Me M) : wp (bX0_soInWord_18 k18 20 l3 l4 M) (fun q => I n q.2 ∧ Keep n (W_X0_soInWord l1) Me q.2 ∧ True) := by
  have hn : (169 : Int) ≤ (n : Int) := by have := iM.2.2.2.2.1; omega
  have u_l1 := h_l1
  unfold isShape at u_l1
  unfold bX0_soInWord_18
  refine w_gF (ji := 0) rfl (congrArg Prod.fst (kl_20 iM)) (fun a21 ha21 => ?_)
  have h_a21 : isShape a21 := by rw [← ha21.e]; exact p_JS
  have u_a21 := h_a21
  unfold isShape at u_a21
  refine w_gF (ji := 7) rfl (congrArg Prod.fst (k_Shape iM h_a21)) (fun a24 ha24 => ?_)
  have ra24 : 0 ≤ a24 ∧ a24 ≤ 36 := ha24.tr (P := fun z => 0 ≤ z ∧ z ≤ 36) (rd_Shape_7 iM (f_Shape h_a21))
  refine w_if (fun c1_ => ?_) (fun c1_ => ?_)
  · skip
    exact s_X0_soInWord_63 h_l1 p_JS p_JT iM kM
  · skip
    refine w_if (fun c2_ => ?_) (fun c2_ => ?_)
    · exfalso; omega
    · skip
      refine w_gFc (ji := 2) rfl (congrArg Prod.fst (kl_20 iM)) (show mG M 20 2 = 21 from rd_Judge_2 iM (a := 20) rfl) ?_
      refine w_gFc (ji := 0) rfl (congrArg Prod.fst (kl_20 iM)) (show mG M 20 0 = a21 from (show mG M 20 0 = a21 from ha21)) ?_
      refine w_gK (congrArg Prod.fst (k_Shape iM h_a21)) ?_
      refine w_call (s_X3_bit h_a21 ⟨by omega, by omega⟩ iM) ?_
      intro v49 m49 pp49
      obtain ⟨im49, kk49, e49_0, -⟩ := pp49
      try dsimp only
      replace im49 : I n m49 := im49
      replace kk49 : Keep n (W_X3_bit a21) M m49 := kk49
      have km49 : Keep n (W_X0_soInWord l1) Me m49 := kM.tr kk49 (fun b j z => z.elim)
      replace e49_0 : (-36) ≤ v49 ∧ v49 ≤ 36 := e49_0
      refine w_call (s_X7_soAt ⟨by omega, by omega⟩ ⟨by omega, by omega⟩ im49) ?_
      intro v53 m53 pp53
      obtain ⟨im53, kk53, -⟩ := pp53
      try dsimp only
      replace im53 : I n m53 := im53
      replace kk53 : Keep n W_X7_soAt m49 m53 := kk53
      have km53 : Keep n (W_X0_soInWord l1) Me m53 := km49.tr kk53 (fun b j z => z.elim)
      refine w_aS (kl_21 im53) (by omega) (by omega) (fun M56 hM56 => ?_)
      replace hM56 : M56 = mS m53 21 l4 v53 := hM56
      have iM56 : I n M56 := wr_Jfacts im53 rfl hM56
      have kM56 : Keep n (W_X0_soInWord l1) Me M56 := km53.st hM56 (Or.inl (Or.inl ⟨by decide, by decide⟩))
      have w3_ := wI_id (x := (l4 + 1)) (by omega) (by omega)
      have ppJS_M56 : JS M56 := (JS_of (JS_of (JS_of p_JS (kk49.2.2 20 0 (by omega) (fun z => z))) (kk53.2.2 20 0 (by omega) (fun z => z))) (st_ne hM56 (fun z => ne_fam rfl rfl (by decide) z.1)))
      have ppJT_M56 : JT M56 := (JT_of (JT_of (JT_of p_JT (kk49.2.2 20 1 (by omega) (fun z => z))) (kk53.2.2 20 1 (by omega) (fun z => z))) (st_ne hM56 (fun z => ne_fam rfl rfl (by decide) z.1)))
      exact hk18 _ _ _ ⟨by omega, by omega⟩ ⟨by omega, by omega⟩ ppJS_M56 ppJT_M56 (by omega) iM56 kM56
theorem s_X0_soInWord_18 {n : Nat} {Me : Mem} {l1 : Int} (h_l1 : isShape l1) : ∀ (fu : Nat) (l3 l4 : Int) (M : Mem), (0 ≤ l3 ∧ l3 ≤ 63) → (0 ≤ l4 ∧ l4 ≤ 36) → (JS M) → (JT M) → 37 - l4 < (fu : Int) → I n M → Keep n (W_X0_soInWord l1) Me M → wp (mX0_soInWord_18 fu 20 l3 l4 M) (fun q => I n q.2 ∧ Keep n (W_X0_soInWord l1) Me q.2 ∧ True) := by
  intro fu
  induction fu with
  | zero =>
    intro l3 l4 M r_l3 r_l4 p_JS p_JT hf iM kM
    exfalso
    omega
  | succ fu ih =>
    intro l3 l4 M r_l3 r_l4 p_JS p_JT hf iM kM
    exact sb_X0_soInWord_18 h_l1 ih r_l3 r_l4 p_JS p_JT (by have e : ((fu + 1 : Nat) : Int) = (fu : Int) + 1 := rfl; rw [e] at hf; exact hf) iM kM
theorem s_X0_soInWord {n : Nat} {l1 l2 l3 : Int} {M : Mem} (h_l1 : isShape l1) (x_l2 : TX n M l2) (n_l2 : ¬ l2 = 0) (r_l3 : 0 ≤ l3 ∧ l3 ≤ 63) (iM : I n M) : wp (mX0_soInWord 20 l1 l2 l3 M) (fun q => I n q.2 ∧ Keep n (W_X0_soInWord l1) M q.2 ∧ True) := by
  have hn : (169 : Int) ≤ (n : Int) := by have := iM.2.2.2.2.1; omega
  have kM : Keep n (W_X0_soInWord l1) M M := Keep.rf
  have u_l1 := h_l1
  unfold isShape at u_l1
  obtain ⟨q_l2, m_l2, t_l2⟩ := TX.nn x_l2 n_l2
  unfold mX0_soInWord
  refine w_pF (ji := 0) rfl (congrArg Prod.fst (kl_20 iM)) (fun M2 hM2 => ?_)
  replace hM2 : M2 = mS M 20 0 l1 := hM2
  have iM2 : I n M2 := wr_Judge_0 iM rfl (Or.inr h_l1) hM2
  have kM2 : Keep n (W_X0_soInWord l1) M M2 := kM.st hM2 (Or.inl (Or.inr (Or.inl ⟨rfl, rfl⟩)))
  have pJS_M2 : JS M2 := by unfold JS; rw [st_eq hM2]; exact h_l1
  have x1_ : TX n M2 l2 := (TX.ot x_l2 (otx_st hM2 (by omega)))
  have t5_ : TextN M2 l2 m_l2 := (TextN.ot (n := n) t_l2 (otx_st hM2 (by omega)) (by omega) (by omega))
  refine w_pF (ji := 1) rfl (congrArg Prod.fst (kl_20 iM2)) (fun M7 hM7 => ?_)
  replace hM7 : M7 = mS M2 20 1 l2 := hM7
  have iM7 : I n M7 := wr_Judge_1 iM2 rfl x1_ hM7
  have kM7 : Keep n (W_X0_soInWord l1) M M7 := kM2.st hM7 (Or.inl (Or.inr (Or.inr (Or.inl ⟨rfl, rfl⟩))))
  have x6_ : TX n M7 l2 := (TX.ot x1_ (otx_st hM7 (by omega)))
  have pJT_M7 : JT M7 := by unfold JT; rw [st_eq hM7]; exact n_l2
  refine w_pF (ji := 5) rfl (congrArg Prod.fst (kl_20 iM7)) (fun M12 hM12 => ?_)
  replace hM12 : M12 = mS M7 20 5 0 := hM12
  have iM12 : I n M12 := wr_Judge_5 iM7 rfl ⟨by omega, by omega⟩ hM12
  have kM12 : Keep n (W_X0_soInWord l1) M M12 := kM7.st hM12 (Or.inl (Or.inr (Or.inr (Or.inr ⟨rfl, rfl⟩))))
  have ppJS_M12 : JS M12 := (JS_of (JS_of pJS_M2 (st_ne hM7 (fun z => absurd z.2 (by decide)))) (st_ne hM12 (fun z => absurd z.2 (by decide))))
  have ppJT_M12 : JT M12 := (JT_of pJT_M7 (st_ne hM12 (fun z => absurd z.2 (by decide))))
  exact s_X0_soInWord_18 h_l1 FU _ _ _ ⟨by omega, by omega⟩ ⟨by omega, by omega⟩ ppJS_M12 ppJT_M12 (by show _ < (70000 : Int); omega) iM12 kM12
def W_X4_truth (b j : Int) : Prop := (21 ≤ b ∧ b ≤ 23) ∨ isWS (b - 1) ∨ (b = 2 ∧ j = 4) ∨ (b = 20 ∧ j = 0) ∨ (b = 20 ∧ j = 1) ∨ (b = 20 ∧ j = 5) ∨ (isWS b ∧ j = 1) ∨ (isWS b ∧ j = 2)
theorem s_X4_truth_90 {n : Nat} {Me : Mem} {l3 : Int} {M : Mem} (h_l3 : isWS l3) (iM : I n M) (kM : Keep n W_X4_truth Me M) : wp (mX4_truth_90 l3 M) (fun q => I n q.2 ∧ Keep n W_X4_truth Me q.2 ∧ (isWS q.1) ∧ True) := by
  have hn : (169 : Int) ≤ (n : Int) := by have := iM.2.2.2.2.1; omega
  have u_l3 := h_l3
  unfold isWS at u_l3
  unfold mX4_truth_90
  exact w_ret ⟨iM, kM, (show isWS l3 from h_l3), trivial⟩
theorem sb_X4_truth_39 {n : Nat} {Me : Mem} {k39 : Int → Int → Int → Int → Int → Mem → Option (Int × Mem)} {fu39 : Nat} (hk39 : ∀ (l1 l2 l3 l4 : Int) (M : Mem), (0 ≤ l1 ∧ l1 ≤ 8) → (TX n M l2) → (¬ l2 = 0) → (isWS l3) → (0 ≤ l4 ∧ l4 ≤ 64) → 65 - l4 < (fu39 : Int) → I n M → Keep n W_X4_truth Me M → wp (k39 2 l1 l2 l3 l4 M) (fun q => I n q.2 ∧ Keep n W_X4_truth Me q.2 ∧ (isWS q.1) ∧ True)) {l1 l2 l3 l4 : Int} {M : Mem} (r_l1 : 0 ≤ l1 ∧ l1 ≤ 8) (x_l2 : TX n M l2) (n_l2 : ¬ l2 = 0) (h_l3 : isWS l3) (r_l4 : 0 ≤ l4 ∧ l4 ≤ 64) (hf39 : 65 - l4 < (fu39 : Int) + 1) (iM : I n M) (kM : Keep n W_X4_truth Me M) : wp (bX4_truth_39 k39 2 l1 l2 l3 l4 M) (fun q => I n q.2 ∧ Keep n W_X4_truth Me q.2 ∧ (isWS q.1) ∧ True) := by
  have hn : (169 : Int) ≤ (n : Int) := by have := iM.2.2.2.2.1; omega
  obtain ⟨q_l2, m_l2, t_l2⟩ := TX.nn x_l2 n_l2
  have u_l3 := h_l3
  unfold isWS at u_l3
  unfold bX4_truth_39
  refine w_gK (congrArg Prod.fst (k_WS iM h_l3)) ?_
  refine w_call (s_X7_usedWords h_l3 iM) ?_
  intro v42 m42 pp42
  obtain ⟨im42, kk42, e42_0, -⟩ := pp42
  try dsimp only
  replace im42 : I n m42 := im42
  replace kk42 : Keep n (W_X7_usedWords l3) M m42 := kk42
  have km42 : Keep n W_X4_truth Me m42 := kM.tr kk42 (fun b j z => z.elim)
  replace e42_0 : 0 ≤ v42 ∧ v42 ≤ 64 := e42_0
  refine w_if (fun c1_ => ?_) (fun c1_ => ?_)
  · skip
    refine w_gF (ji := 4) rfl (congrArg Prod.fst (kl_2 im42)) (fun a80 ha80 => ?_)
    have ra80 : (-2147483648) ≤ a80 ∧ a80 ≤ 2147483647 := ha80.tr (P := fun z => (-2147483648) ≤ z ∧ z ≤ 2147483647) (rd_Solver_4 im42 rfl)
    have w2_ := ishl1_b (k := l1) (B := 8) (by omega) (by omega) (by decide)
    have w3_ := ior_in a80 (ishl 1 l1)
    refine w_pF (ji := 4) rfl (congrArg Prod.fst (kl_2 im42)) (fun M87 hM87 => ?_)
    replace hM87 : M87 = mS m42 2 4 (ior a80 (ishl 1 l1)) := hM87
    have iM87 : I n M87 := wr_Solver_4 im42 rfl ⟨by omega, by omega⟩ hM87
    have kM87 : Keep n W_X4_truth Me M87 := km42.st hM87 (Or.inl (Or.inr (Or.inr (Or.inl ⟨rfl, rfl⟩))))
    obtain ⟨svM87, esvM87⟩ : ∃ z, z = (ior a80 (ishl 1 l1)) := ⟨_, rfl⟩
    exact s_X4_truth_90 h_l3 iM87 kM87
  · skip
    refine w_gFc (ji := 0) rfl (congrArg Prod.fst (k_WS im42 h_l3)) (show mG m42 l3 0 = (l3 + 1) from rd_WS_0 im42 (a := l3) (f_WS h_l3)) ?_
    refine w_gFc (ji := 1) rfl (congrArg Prod.fst (kl_2 im42)) (show mG m42 2 1 = 20 from rd_Solver_1 im42 (a := 2) rfl) ?_
    refine w_gFc (ji := 0) rfl (congrArg Prod.fst (kl_2 im42)) (show mG m42 2 0 = 3 from rd_Solver_0 im42 (a := 2) rfl) ?_
    refine w_gFc (ji := 0) rfl (congrArg Prod.fst (kl_3 im42)) (show mG m42 3 0 = 4 from rd_Told_0 im42 (a := 3) rfl) ?_
    refine w_gK (congrArg Prod.fst (kl_20 im42)) ?_
    have x4_ : TX n m42 l2 := (TX.ot x_l2 (otx_kp kk42 (fun b j z => z.elim)))
    refine w_call (s_X0_soInWord (by unfold isShape; omega) x4_ n_l2 ⟨by omega, by omega⟩ im42) ?_
    intro v68 m68 pp68
    obtain ⟨im68, kk68, -⟩ := pp68
    try dsimp only
    replace im68 : I n m68 := im68
    replace kk68 : Keep n (W_X0_soInWord 4) m42 m68 := kk68
    have km68 : Keep n W_X4_truth Me m68 := km42.tr kk68 (fun b j z => Or.elim z (fun z => (Or.inl z)) (fun z => Or.elim z (fun z => (Or.inr (Or.inr (Or.inr (Or.inl z))))) (fun z => Or.elim z (fun z => (Or.inr (Or.inr (Or.inr (Or.inr (Or.inl z)))))) (fun z => (Or.inr (Or.inr (Or.inr (Or.inr (Or.inr (Or.inl z))))))))))
    refine w_aS (k_Wwords im68 h_l3) (by omega) (by omega) (fun M71 hM71 => ?_)
    replace hM71 : M71 = mS m68 (l3 + 1) l4 v68 := hM71
    have iM71 : I n M71 := wr_Wwords im68 (f_Wwords h_l3) hM71
    have kM71 : Keep n W_X4_truth Me M71 := km68.st hM71 (Or.inl (Or.inr (Or.inl (by unfold isWS; omega))))
    have w5_ := wI_id (x := (l4 + 1)) (by omega) (by omega)
    have x6_ : TX n M71 l2 := (TX.ot (TX.ot x4_ (otx_kp kk68 (fun b j z => by unfold W_X0_soInWord at z; (try unfold isWS at z); (try unfold isShape at z); (try unfold isTold at z); (try dsimp only at z); omega))) (otx_st hM71 (by omega)))
    exact hk39 _ _ _ _ _ ⟨by omega, by omega⟩ x6_ n_l2 h_l3 ⟨by omega, by omega⟩ (by omega) iM71 kM71
theorem s_X4_truth_39 {n : Nat} {Me : Mem} : ∀ (fu : Nat) (l1 l2 l3 l4 : Int) (M : Mem), (0 ≤ l1 ∧ l1 ≤ 8) → (TX n M l2) → (¬ l2 = 0) → (isWS l3) → (0 ≤ l4 ∧ l4 ≤ 64) → 65 - l4 < (fu : Int) → I n M → Keep n W_X4_truth Me M → wp (mX4_truth_39 fu 2 l1 l2 l3 l4 M) (fun q => I n q.2 ∧ Keep n W_X4_truth Me q.2 ∧ (isWS q.1) ∧ True) := by
  intro fu
  induction fu with
  | zero =>
    intro l1 l2 l3 l4 M r_l1 x_l2 n_l2 h_l3 r_l4 hf iM kM
    exfalso
    omega
  | succ fu ih =>
    intro l1 l2 l3 l4 M r_l1 x_l2 n_l2 h_l3 r_l4 hf iM kM
    exact sb_X4_truth_39 ih r_l1 x_l2 n_l2 h_l3 r_l4 (by have e : ((fu + 1 : Nat) : Int) = (fu : Int) + 1 := rfl; rw [e] at hf; exact hf) iM kM
theorem s_X4_truth {n : Nat} {l1 l2 : Int} {M : Mem} (r_l1 : 0 ≤ l1 ∧ l1 ≤ 8) (x_l2 : TX n M l2) (iM : I n M) : wp (mX4_truth 2 l1 l2 M) (fun q => I n q.2 ∧ Keep n W_X4_truth M q.2 ∧ (isWS q.1) ∧ True) := by
  have hn : (169 : Int) ≤ (n : Int) := by have := iM.2.2.2.2.1; omega
  have kM : Keep n W_X4_truth M M := Keep.rf
  unfold mX4_truth
  refine w_gFc (ji := 3) rfl (congrArg Prod.fst (kl_2 iM)) (show mG M 2 3 = 31 from rd_Solver_3 iM (a := 2) rfl) ?_
  refine w_aG (kl_31 iM) (by omega) (by omega) (fun a5 ha5 => ?_)
  have ra5 : a5 = 47 + 2 * l1 := ha5.tr (P := fun z => z = 47 + 2 * l1) (rd_Vtruths iM rfl (by omega) (by omega))
  have h_a5 : isWS a5 := by unfold isWS; omega
  have u_a5 := h_a5
  unfold isWS at u_a5
  refine w_if (fun c1_ => ?_) (fun c1_ => ?_)
  · skip
    exact s_X4_truth_90 h_a5 iM kM
  · skip
    obtain ⟨q2_, m3_, t4_⟩ := TX.nn x_l2 c1_
    refine w_gF (ji := 4) rfl (congrArg Prod.fst (kl_2 iM)) (fun a12 ha12 => ?_)
    have ra12 : (-2147483648) ≤ a12 ∧ a12 ≤ 2147483647 := ha12.tr (P := fun z => (-2147483648) ≤ z ∧ z ≤ 2147483647) (rd_Solver_4 iM rfl)
    have w5_ := ishr_in a12 l1
    have w6_ := iand_r (x := (ishr a12 l1)) (y := 1) (by omega) (by omega)
    refine w_if (fun c7_ => ?_) (fun c7_ => ?_)
    · skip
      refine w_gFc (ji := 0) rfl (congrArg Prod.fst (kl_2 iM)) (show mG M 2 0 = 3 from rd_Solver_0 iM (a := 2) rfl) ?_
      refine w_gFc (ji := 0) rfl (congrArg Prod.fst (kl_3 iM)) (show mG M 3 0 = 4 from rd_Told_0 iM (a := 3) rfl) ?_
      refine w_gF (ji := 7) rfl (congrArg Prod.fst (kl_4 iM)) (fun a30 ha30 => ?_)
      have ra30 : 0 ≤ a30 ∧ a30 ≤ 36 := ha30.tr (P := fun z => 0 ≤ z ∧ z ≤ 36) (rd_Shape_7 iM rfl)
      refine w_gK (congrArg Prod.fst (k_WS iM h_a5)) ?_
      refine w_call (s_X7_takeNone h_a5 ⟨by omega, by omega⟩ iM) ?_
      intro v33 m33 pp33
      obtain ⟨im33, kk33, -⟩ := pp33
      try dsimp only
      replace im33 : I n m33 := im33
      replace kk33 : Keep n (W_X7_takeNone a5) M m33 := kk33
      have km33 : Keep n W_X4_truth M m33 := kM.tr kk33 (fun b j z => Or.elim z (fun z => (Or.inr (Or.inl (by unfold isWS; omega)))) (fun z => Or.elim z (fun z => (Or.inr (Or.inr (Or.inr (Or.inr (Or.inr (Or.inr (Or.inl ⟨(by unfold isWS; omega), z.2⟩)))))))) (fun z => (Or.inr (Or.inr (Or.inr (Or.inr (Or.inr (Or.inr (Or.inr ⟨(by unfold isWS; omega), z.2⟩))))))))))
      have x8_ : TX n m33 l2 := (TX.ot x_l2 (otx_kp kk33 (fun b j z => by unfold W_X7_takeNone at z; (try unfold isWS at z); (try unfold isShape at z); (try unfold isTold at z); (try dsimp only at z); omega)))
      exact s_X4_truth_39 FU _ _ _ _ _ ⟨by omega, by omega⟩ x8_ c1_ h_a5 ⟨by omega, by omega⟩ (by show _ < (70000 : Int); omega) im33 km33
    · skip
      exact s_X4_truth_90 h_a5 iM kM
def W_X7_keepOnly (l0 : Int) (l1 : Int) (b j : Int) : Prop := b = (l0 + 1)
theorem sb_X7_keepOnly_2 {n : Nat} {Me : Mem} {l0 l1 : Int} (h_l0 : isWS l0) (h_l1 : isWS l1) {k2 : Int → Int → Int → Mem → Option (Int × Mem)} {fu2 : Nat} (hk2 : ∀ (l2 : Int) (M : Mem), (0 ≤ l2 ∧ l2 ≤ 64) → 65 - l2 < (fu2 : Int) → I n M → Keep n (W_X7_keepOnly l0 l1) Me M → wp (k2 l0 l1 l2 M) (fun q => I n q.2 ∧ Keep n (W_X7_keepOnly l0 l1) Me q.2 ∧ True)) {l2 : Int} {M : Mem} (r_l2 : 0 ≤ l2 ∧ l2 ≤ 64) (hf2 : 65 - l2 < (fu2 : Int) + 1) (iM : I n M) (kM : Keep n (W_X7_keepOnly l0 l1) Me M) : wp (bX7_keepOnly_2 k2 l0 l1 l2 M) (fun q => I n q.2 ∧ Keep n (W_X7_keepOnly l0 l1) Me q.2 ∧ True) := by
  have hn : (169 : Int) ≤ (n : Int) := by have := iM.2.2.2.2.1; omega
  have u_l0 := h_l0
  unfold isWS at u_l0
  have u_l1 := h_l1
  unfold isWS at u_l1
  unfold bX7_keepOnly_2
  refine w_gF (ji := 1) rfl (congrArg Prod.fst (k_WS iM h_l0)) (fun a4 ha4 => ?_)
  have ra4 : 0 ≤ a4 ∧ a4 ≤ 64 := ha4.tr (P := fun z => 0 ≤ z ∧ z ≤ 64) (rd_WS_1 iM (f_WS h_l0))
  refine w_if (fun c1_ => ?_) (fun c1_ => ?_)
  · skip
    exact w_ret ⟨iM, kM, trivial⟩
  · skip
    refine w_gFc (ji := 0) rfl (congrArg Prod.fst (k_WS iM h_l0)) (show mG M l0 0 = (l0 + 1) from rd_WS_0 iM (a := l0) (f_WS h_l0)) ?_
    refine w_aG (k_Wwords iM h_l0) (by omega) (by omega) (fun a16 ha16 => ?_)
    refine w_gFc (ji := 0) rfl (congrArg Prod.fst (k_WS iM h_l1)) (show mG M l1 0 = (l1 + 1) from rd_WS_0 iM (a := l1) (f_WS h_l1)) ?_
    refine w_aG (k_Wwords iM h_l1) (by omega) (by omega) (fun a22 ha22 => ?_)
    refine w_aS (k_Wwords iM h_l0) (by omega) (by omega) (fun M24 hM24 => ?_)
    replace hM24 : M24 = mS M (l0 + 1) l2 (land a16 a22) := hM24
    have iM24 : I n M24 := wr_Wwords iM (f_Wwords h_l0) hM24
    have kM24 : Keep n (W_X7_keepOnly l0 l1) Me M24 := kM.st hM24 (Or.inl rfl)
    obtain ⟨svM24, esvM24⟩ : ∃ z, z = (land a16 a22) := ⟨_, rfl⟩
    have w3_ := wI_id (x := (l2 + 1)) (by omega) (by omega)
    exact hk2 _ _ ⟨by omega, by omega⟩ (by omega) iM24 kM24
theorem s_X7_keepOnly_2 {n : Nat} {Me : Mem} {l0 l1 : Int} (h_l0 : isWS l0) (h_l1 : isWS l1) : ∀ (fu : Nat) (l2 : Int) (M : Mem), (0 ≤ l2 ∧ l2 ≤ 64) → 65 - l2 < (fu : Int) → I n M → Keep n (W_X7_keepOnly l0 l1) Me M → wp (mX7_keepOnly_2 fu l0 l1 l2 M) (fun q => I n q.2 ∧ Keep n (W_X7_keepOnly l0 l1) Me q.2 ∧ True) := by
  intro fu
  induction fu with
  | zero =>
    intro l2 M r_l2 hf iM kM
    exfalso
    omega
  | succ fu ih =>
    intro l2 M r_l2 hf iM kM
    exact sb_X7_keepOnly_2 h_l0 h_l1 ih r_l2 (by have e : ((fu + 1 : Nat) : Int) = (fu : Int) + 1 := rfl; rw [e] at hf; exact hf) iM kM
theorem s_X7_keepOnly {n : Nat} {l0 l1 : Int} {M : Mem} (h_l0 : isWS l0) (h_l1 : isWS l1) (iM : I n M) : wp (mX7_keepOnly l0 l1 M) (fun q => I n q.2 ∧ Keep n (W_X7_keepOnly l0 l1) M q.2 ∧ True) := by
  have hn : (169 : Int) ≤ (n : Int) := by have := iM.2.2.2.2.1; omega
  have kM : Keep n (W_X7_keepOnly l0 l1) M M := Keep.rf
  have u_l0 := h_l0
  unfold isWS at u_l0
  have u_l1 := h_l1
  unfold isWS at u_l1
  unfold mX7_keepOnly
  exact s_X7_keepOnly_2 h_l0 h_l1 FU _ _ ⟨by omega, by omega⟩ (by show _ < (70000 : Int); omega) iM kM
def W_X4_lookUp (b j : Int) : Prop := (21 ≤ b ∧ b ≤ 23) ∨ b = 33 ∨ b = 35 ∨ isWS (b - 1) ∨ (b = 2 ∧ j = 4) ∨ (b = 20 ∧ j = 0) ∨ (b = 20 ∧ j = 1) ∨ (b = 20 ∧ j = 5) ∨ (b = 32 ∧ j = 1) ∨ (b = 32 ∧ j = 2) ∨ (b = 34 ∧ j = 1) ∨ (b = 34 ∧ j = 2) ∨ (isWS b ∧ j = 1) ∨ (isWS b ∧ j = 2)
theorem s_X4_lookUp_69 {n : Nat} {Me : Mem} {k34 : Int → Int → Int → Mem → Option (Int × Mem)} {fu34 : Nat} (hk34 : ∀ (l1 l2 : Int) (M : Mem), (0 ≤ l1 ∧ l1 ≤ 255) → (0 ≤ l2 ∧ l2 ≤ 8) → 9 - l2 < (fu34 : Int) → I n M → Keep n W_X4_lookUp Me M → wp (k34 2 l1 l2 M) (fun q => I n q.2 ∧ Keep n W_X4_lookUp Me q.2 ∧ (0 ≤ q.1 ∧ q.1 ≤ 1) ∧ True)) {l1 l2 : Int} {M : Mem} (r_l1 : 0 ≤ l1 ∧ l1 ≤ 255) (r_l2 : 0 ≤ l2 ∧ l2 ≤ 7) (hf34 : 9 - l2 < (fu34 : Int) + 1) (iM : I n M) (kM : Keep n W_X4_lookUp Me M) : wp (mX4_lookUp_69 k34 2 l1 l2 M) (fun q => I n q.2 ∧ Keep n W_X4_lookUp Me q.2 ∧ (0 ≤ q.1 ∧ q.1 ≤ 1) ∧ True) := by
  have hn : (169 : Int) ≤ (n : Int) := by have := iM.2.2.2.2.1; omega
  unfold mX4_lookUp_69
  have w1_ := wI_id (x := (l2 + 1)) (by omega) (by omega)
  exact hk34 _ _ _ ⟨by omega, by omega⟩ ⟨by omega, by omega⟩ (by omega) iM kM
theorem sb_X4_lookUp_34 {n : Nat} {Me : Mem} {k34 : Int → Int → Int → Mem → Option (Int × Mem)} {fu34 : Nat} (hk34 : ∀ (l1 l2 : Int) (M : Mem), (0 ≤ l1 ∧ l1 ≤ 255) → (0 ≤ l2 ∧ l2 ≤ 8) → 9 - l2 < (fu34 : Int) → I n M → Keep n W_X4_lookUp Me M → wp (k34 2 l1 l2 M) (fun q => I n q.2 ∧ Keep n W_X4_lookUp Me q.2 ∧ (0 ≤ q.1 ∧ q.1 ≤ 1) ∧ True)) {l1 l2 : Int} {M : Mem} (r_l1 : 0 ≤ l1 ∧ l1 ≤ 255) (r_l2 : 0 ≤ l2 ∧ l2 ≤ 8) (hf34 : 9 - l2 < (fu34 : Int) + 1) (iM : I n M) (kM : Keep n W_X4_lookUp Me M) : wp (bX4_lookUp_34 k34 2 l1 l2 M) (fun q => I n q.2 ∧ Keep n W_X4_lookUp Me q.2 ∧ (0 ≤ q.1 ∧ q.1 ≤ 1) ∧ True) := by
  have hn : (169 : Int) ≤ (n : Int) := by have := iM.2.2.2.2.1; omega
  unfold bX4_lookUp_34
  refine w_if (fun c1_ => ?_) (fun c1_ => ?_)
  · skip
    exact w_ret ⟨iM, kM, (show 0 ≤ 1 ∧ 1 ≤ 1 from ⟨by omega, by omega⟩), trivial⟩
  · skip
    have w2_ := ishr_b (x := l1) (k := l2) (by omega) (by omega) (by omega) (by omega)
    have w3_ := iand_l (x := (ishr l1 l2)) (y := 1) (by omega) (by omega)
    have w4_ := iand_r (x := (ishr l1 l2)) (y := 1) (by omega) (by omega)
    refine w_if (fun c5_ => ?_) (fun c5_ => ?_)
    · skip
      exact s_X4_lookUp_69 hk34 ⟨by omega, by omega⟩ ⟨by omega, by omega⟩ (by omega) iM kM
    · skip
      refine w_gFc (ji := 6) rfl (congrArg Prod.fst (kl_2 iM)) (show mG M 2 6 = 34 from rd_Solver_6 iM (a := 2) rfl) ?_
      refine w_gFc (ji := 0) rfl (congrArg Prod.fst (kl_2 iM)) (show mG M 2 0 = 3 from rd_Solver_0 iM (a := 2) rfl) ?_
      refine w_gFc (ji := 8) rfl (congrArg Prod.fst (kl_3 iM)) (show mG M 3 8 = 14 from rd_Told_8 iM (a := 3) rfl) ?_
      refine w_aG (kl_14 iM) (by omega) (by omega) (fun a62 ha62 => ?_)
      have xa62 : TX n M a62 := by rw [← ha62.e]; exact iM.2.2.1.1 3 l2 (by unfold isTold; omega) (by omega) (by omega)
      refine w_gK (congrArg Prod.fst (kl_2 iM)) ?_
      refine w_call (s_X4_truth ⟨by omega, by omega⟩ xa62 iM) ?_
      intro v63 m63 pp63
      obtain ⟨im63, kk63, e63_0, -⟩ := pp63
      try dsimp only
      replace im63 : I n m63 := im63
      replace kk63 : Keep n W_X4_truth M m63 := kk63
      have km63 : Keep n W_X4_lookUp Me m63 := kM.tr kk63 (fun b j z => Or.elim z (fun z => (Or.inl z)) (fun z => Or.elim z (fun z => (Or.inr (Or.inr (Or.inr (Or.inl z))))) (fun z => Or.elim z (fun z => (Or.inr (Or.inr (Or.inr (Or.inr (Or.inl z)))))) (fun z => Or.elim z (fun z => (Or.inr (Or.inr (Or.inr (Or.inr (Or.inr (Or.inl z))))))) (fun z => Or.elim z (fun z => (Or.inr (Or.inr (Or.inr (Or.inr (Or.inr (Or.inr (Or.inl z)))))))) (fun z => Or.elim z (fun z => (Or.inr (Or.inr (Or.inr (Or.inr (Or.inr (Or.inr (Or.inr (Or.inl z))))))))) (fun z => Or.elim z (fun z => (Or.inr (Or.inr (Or.inr (Or.inr (Or.inr (Or.inr (Or.inr (Or.inr (Or.inr (Or.inr (Or.inr (Or.inr (Or.inl z)))))))))))))) (fun z => (Or.inr (Or.inr (Or.inr (Or.inr (Or.inr (Or.inr (Or.inr (Or.inr (Or.inr (Or.inr (Or.inr (Or.inr (Or.inr z)))))))))))))))))))))
      replace e63_0 : isWS v63 := e63_0
      have u_v63 := e63_0
      unfold isWS at u_v63
      refine w_gK (congrArg Prod.fst (kl_34 im63)) ?_
      refine w_call (s_X7_keepOnly (by unfold isWS; omega) e63_0 im63) ?_
      intro v66 m66 pp66
      obtain ⟨im66, kk66, -⟩ := pp66
      try dsimp only
      replace im66 : I n m66 := im66
      replace kk66 : Keep n (W_X7_keepOnly 34 v63) m63 m66 := kk66
      have km66 : Keep n W_X4_lookUp Me m66 := km63.tr kk66 (fun b j z => by unfold W_X7_keepOnly at z; exact (Or.inr (Or.inr (Or.inl (by omega)))))
      exact s_X4_lookUp_69 hk34 ⟨by omega, by omega⟩ ⟨by omega, by omega⟩ (by omega) im66 km66
theorem s_X4_lookUp_34 {n : Nat} {Me : Mem} : ∀ (fu : Nat) (l1 l2 : Int) (M : Mem), (0 ≤ l1 ∧ l1 ≤ 255) → (0 ≤ l2 ∧ l2 ≤ 8) → 9 - l2 < (fu : Int) → I n M → Keep n W_X4_lookUp Me M → wp (mX4_lookUp_34 fu 2 l1 l2 M) (fun q => I n q.2 ∧ Keep n W_X4_lookUp Me q.2 ∧ (0 ≤ q.1 ∧ q.1 ≤ 1) ∧ True) := by
  intro fu
  induction fu with
  | zero =>
    intro l1 l2 M r_l1 r_l2 hf iM kM
    exfalso
    omega
  | succ fu ih =>
    intro l1 l2 M r_l1 r_l2 hf iM kM
    exact sb_X4_lookUp_34 ih r_l1 r_l2 (by have e : ((fu + 1 : Nat) : Int) = (fu : Int) + 1 := rfl; rw [e] at hf; exact hf) iM kM
theorem s_X4_lookUp {n : Nat} {M : Mem} (iM : I n M) : wp (mX4_lookUp 2 M) (fun q => I n q.2 ∧ Keep n W_X4_lookUp M q.2 ∧ (0 ≤ q.1 ∧ q.1 ≤ 1) ∧ True) := by
  have hn : (169 : Int) ≤ (n : Int) := by have := iM.2.2.2.2.1; omega
  have kM : Keep n W_X4_lookUp M M := Keep.rf
  unfold mX4_lookUp
  refine w_gK (congrArg Prod.fst (kl_2 iM)) ?_
  refine w_call (s_X4_canTell iM) ?_
  intro v1 m1 pp1
  obtain ⟨im1, kk1, e1_0, -⟩ := pp1
  try dsimp only
  replace im1 : I n m1 := im1
  replace kk1 : Keep n W_X4_canTell M m1 := kk1
  have km1 : Keep n W_X4_lookUp M m1 := kM.tr kk1 (fun b j z => z.elim)
  replace e1_0 : 0 ≤ v1 ∧ v1 ≤ 1 := e1_0
  refine w_if (fun c1_ => ?_) (fun c1_ => ?_)
  · skip
    exact w_ret ⟨im1, km1, (show 0 ≤ 0 ∧ 0 ≤ 1 from ⟨by omega, by omega⟩), trivial⟩
  · skip
    refine w_gK (congrArg Prod.fst (kl_2 im1)) ?_
    refine w_call (s_X4_findPossible im1) ?_
    intro v10 m10 pp10
    obtain ⟨im10, kk10, -⟩ := pp10
    try dsimp only
    replace im10 : I n m10 := im10
    replace kk10 : Keep n W_X4_findPossible m1 m10 := kk10
    have km10 : Keep n W_X4_lookUp M m10 := km1.tr kk10 (fun b j z => Or.elim z (fun z => (Or.inr (Or.inl z))) (fun z => Or.elim z (fun z => (Or.inr (Or.inr (Or.inr (Or.inr (Or.inr (Or.inr (Or.inr (Or.inr (Or.inl z)))))))))) (fun z => (Or.inr (Or.inr (Or.inr (Or.inr (Or.inr (Or.inr (Or.inr (Or.inr (Or.inr (Or.inl z)))))))))))))
    refine w_gFc (ji := 6) rfl (congrArg Prod.fst (kl_2 im10)) (show mG m10 2 6 = 34 from rd_Solver_6 im10 (a := 2) rfl) ?_
    refine w_gFc (ji := 5) rfl (congrArg Prod.fst (kl_2 im10)) (show mG m10 2 5 = 32 from rd_Solver_5 im10 (a := 2) rfl) ?_
    refine w_gK (congrArg Prod.fst (kl_34 im10)) ?_
    refine w_call (s_X7_copy (by unfold isWS; omega) (by unfold isWS; omega) im10) ?_
    intro v21 m21 pp21
    obtain ⟨im21, kk21, -⟩ := pp21
    try dsimp only
    replace im21 : I n m21 := im21
    replace kk21 : Keep n (W_X7_copy 34 32) m10 m21 := kk21
    have km21 : Keep n W_X4_lookUp M m21 := km10.tr kk21 (fun b j z => Or.elim z (fun z => (Or.inr (Or.inr (Or.inl (by omega))))) (fun z => Or.elim z (fun z => (Or.inr (Or.inr (Or.inr (Or.inr (Or.inr (Or.inr (Or.inr (Or.inr (Or.inr (Or.inr (Or.inl ⟨by omega, z.2⟩)))))))))))) (fun z => (Or.inr (Or.inr (Or.inr (Or.inr (Or.inr (Or.inr (Or.inr (Or.inr (Or.inr (Or.inr (Or.inr (Or.inl ⟨by omega, z.2⟩)))))))))))))))
    refine w_gFc (ji := 0) rfl (congrArg Prod.fst (kl_2 im21)) (show mG m21 2 0 = 3 from rd_Solver_0 im21 (a := 2) rfl) ?_
    refine w_gK (congrArg Prod.fst (kl_3 im21)) ?_
    refine w_call (s_X6_viewedStories im21) ?_
    intro v28 m28 pp28
    obtain ⟨im28, kk28, e28_0, -⟩ := pp28
    try dsimp only
    replace im28 : I n m28 := im28
    replace kk28 : Keep n W_X6_viewedStories m21 m28 := kk28
    have km28 : Keep n W_X4_lookUp M m28 := km21.tr kk28 (fun b j z => z.elim)
    replace e28_0 : 0 ≤ v28 ∧ v28 ≤ 255 := e28_0
    exact s_X4_lookUp_34 FU _ _ _ ⟨by omega, by omega⟩ ⟨by omega, by omega⟩ (by show _ < (70000 : Int); omega) im28 km28
def W_J13_bitCount_95d88 (b j : Int) : Prop := False
theorem s_J13_bitCount_95d88 {n : Nat} {l0 : Int} {M : Mem} (iM : I n M) : wp (mJ13_bitCount_95d88 l0 M) (fun q => I n q.2 ∧ Keep n W_J13_bitCount_95d88 M q.2 ∧ (0 ≤ q.1 ∧ q.1 ≤ 127) ∧ True) := by
  have hn : (169 : Int) ≤ (n : Int) := by have := iM.2.2.2.2.1; omega
  have kM : Keep n W_J13_bitCount_95d88 M M := Keep.rf
  unfold mJ13_bitCount_95d88
  refine w_some (fun b9 hb9 => ?_)
  replace hb9 : b9 = (wL (l0 - (land (lus l0 1) 6148914691236517205))) := hb9
  refine w_some (fun b23 hb23 => ?_)
  replace hb23 : b23 = (wL ((land b9 3689348814741910323) + (land (lus b9 2) 3689348814741910323))) := hb23
  refine w_some (fun b33 hb33 => ?_)
  replace hb33 : b33 = (land (wL (b23 + (lus b23 4))) 1085102592571150095) := hb33
  refine w_some (fun b47 hb47 => ?_)
  replace hb47 : b47 = (wL ((wL (b33 + (lus b33 8))) + (lus (wL (b33 + (lus b33 8))) 16))) := hb47
  refine w_some (fun b54 hb54 => ?_)
  replace hb54 : b54 = (wL (b47 + (lus b47 32))) := hb54
  have w17_ := l2i_in b54
  have w18_ := iand_r (x := (l2i b54)) (y := 127) (by omega) (by omega)
  exact w_ret ⟨iM, kM, (show 0 ≤ (iand (l2i b54) 127) ∧ (iand (l2i b54) 127) ≤ 127 from ⟨by omega, by omega⟩), trivial⟩
def W_X7_count (l0 : Int) (b j : Int) : Prop := False
theorem sb_X7_count_4 {n : Nat} {Me : Mem} {l0 : Int} (h_l0 : isWS l0) {k4 : Int → Int → Int → Mem → Option (Int × Mem)} {fu4 : Nat} (hk4 : ∀ (l1 l2 : Int) (M : Mem), (0 ≤ l1 ∧ l1 ≤ 8128) → (0 ≤ l2 ∧ l2 ≤ 64) → (0 ≤ l1 ∧ l1 ≤ 127 * l2) → 65 - l2 < (fu4 : Int) → I n M → Keep n (W_X7_count l0) Me M → wp (k4 l0 l1 l2 M) (fun q => I n q.2 ∧ Keep n (W_X7_count l0) Me q.2 ∧ (0 ≤ q.1 ∧ q.1 ≤ 8128) ∧ True)) {l1 l2 : Int} {M : Mem} (r_l1 : 0 ≤ l1 ∧ l1 ≤ 8128) (r_l2 : 0 ≤ l2 ∧ l2 ≤ 64) (z0 : 0 ≤ l1 ∧ l1 ≤ 127 * l2) (hf4 : 65 - l2 < (fu4 : Int) + 1) (iM : I n M) (kM : Keep n (W_X7_count l0) Me M) : wp (bX7_count_4 k4 l0 l1 l2 M) (fun q => I n q.2 ∧ Keep n (W_X7_count l0) Me q.2 ∧ (0 ≤ q.1 ∧ q.1 ≤ 8128) ∧ True) := by
  have hn : (169 : Int) ≤ (n : Int) := by have := iM.2.2.2.2.1; omega
  have u_l0 := h_l0
  unfold isWS at u_l0
  unfold bX7_count_4
  refine w_gF (ji := 1) rfl (congrArg Prod.fst (k_WS iM h_l0)) (fun a6 ha6 => ?_)
  have ra6 : 0 ≤ a6 ∧ a6 ≤ 64 := ha6.tr (P := fun z => 0 ≤ z ∧ z ≤ 64) (rd_WS_1 iM (f_WS h_l0))
  refine w_if (fun c1_ => ?_) (fun c1_ => ?_)
  · skip
    exact w_ret ⟨iM, kM, (show 0 ≤ l1 ∧ l1 ≤ 8128 from ⟨by omega, by omega⟩), trivial⟩
  · skip
    refine w_gFc (ji := 0) rfl (congrArg Prod.fst (k_WS iM h_l0)) (show mG M l0 0 = (l0 + 1) from rd_WS_0 iM (a := l0) (f_WS h_l0)) ?_
    refine w_aG (k_Wwords iM h_l0) (by omega) (by omega) (fun a18 ha18 => ?_)
    refine w_call (s_J13_bitCount_95d88 iM) ?_
    intro v19 m19 pp19
    obtain ⟨im19, kk19, e19_0, -⟩ := pp19
    try dsimp only
    replace im19 : I n m19 := im19
    replace kk19 : Keep n W_J13_bitCount_95d88 M m19 := kk19
    have km19 : Keep n (W_X7_count l0) Me m19 := kM.tr kk19 (fun b j z => z.elim)
    replace e19_0 : 0 ≤ v19 ∧ v19 ≤ 127 := e19_0
    have w2_ := wI_id (x := (l1 + v19)) (by omega) (by omega)
    have w3_ := wI_id (x := (l2 + 1)) (by omega) (by omega)
    exact hk4 _ _ _ ⟨by omega, by omega⟩ ⟨by omega, by omega⟩ (by all_goals omega) (by omega) im19 km19
theorem s_X7_count_4 {n : Nat} {Me : Mem} {l0 : Int} (h_l0 : isWS l0) : ∀ (fu : Nat) (l1 l2 : Int) (M : Mem), (0 ≤ l1 ∧ l1 ≤ 8128) → (0 ≤ l2 ∧ l2 ≤ 64) → (0 ≤ l1 ∧ l1 ≤ 127 * l2) → 65 - l2 < (fu : Int) → I n M → Keep n (W_X7_count l0) Me M → wp (mX7_count_4 fu l0 l1 l2 M) (fun q => I n q.2 ∧ Keep n (W_X7_count l0) Me q.2 ∧ (0 ≤ q.1 ∧ q.1 ≤ 8128) ∧ True) := by
  intro fu
  induction fu with
  | zero =>
    intro l1 l2 M r_l1 r_l2 z0 hf iM kM
    exfalso
    omega
  | succ fu ih =>
    intro l1 l2 M r_l1 r_l2 z0 hf iM kM
    exact sb_X7_count_4 h_l0 ih r_l1 r_l2 z0 (by have e : ((fu + 1 : Nat) : Int) = (fu : Int) + 1 := rfl; rw [e] at hf; exact hf) iM kM
theorem s_X7_count {n : Nat} {l0 : Int} {M : Mem} (h_l0 : isWS l0) (iM : I n M) : wp (mX7_count l0 M) (fun q => I n q.2 ∧ Keep n (W_X7_count l0) M q.2 ∧ (0 ≤ q.1 ∧ q.1 ≤ 8128) ∧ True) := by
  have hn : (169 : Int) ≤ (n : Int) := by have := iM.2.2.2.2.1; omega
  have kM : Keep n (W_X7_count l0) M M := Keep.rf
  have u_l0 := h_l0
  unfold isWS at u_l0
  unfold mX7_count
  exact s_X7_count_4 h_l0 FU _ _ _ ⟨by omega, by omega⟩ ⟨by omega, by omega⟩ (by all_goals omega) (by show _ < (70000 : Int); omega) iM kM
def W_X4_countWorlds (b j : Int) : Prop := (21 ≤ b ∧ b ≤ 23) ∨ b = 33 ∨ b = 35 ∨ isWS (b - 1) ∨ (b = 2 ∧ j = 4) ∨ (b = 20 ∧ j = 0) ∨ (b = 20 ∧ j = 1) ∨ (b = 20 ∧ j = 5) ∨ (b = 32 ∧ j = 1) ∨ (b = 32 ∧ j = 2) ∨ (b = 34 ∧ j = 1) ∨ (b = 34 ∧ j = 2) ∨ (isWS b ∧ j = 1) ∨ (isWS b ∧ j = 2)
theorem s_X4_countWorlds {n : Nat} {M : Mem} (iM : I n M) : wp (mX4_countWorlds 2 M) (fun q => I n q.2 ∧ Keep n W_X4_countWorlds M q.2 ∧ ((-1) ≤ q.1 ∧ q.1 ≤ 8128) ∧ True) := by
  have hn : (169 : Int) ≤ (n : Int) := by have := iM.2.2.2.2.1; omega
  have kM : Keep n W_X4_countWorlds M M := Keep.rf
  unfold mX4_countWorlds
  refine w_gK (congrArg Prod.fst (kl_2 iM)) ?_
  refine w_call (s_X4_lookUp iM) ?_
  intro v1 m1 pp1
  obtain ⟨im1, kk1, e1_0, -⟩ := pp1
  try dsimp only
  replace im1 : I n m1 := im1
  replace kk1 : Keep n W_X4_lookUp M m1 := kk1
  have km1 : Keep n W_X4_countWorlds M m1 := kM.tr kk1 (fun b j z => Or.elim z (fun z => (Or.inl z)) (fun z => Or.elim z (fun z => (Or.inr (Or.inl z))) (fun z => Or.elim z (fun z => (Or.inr (Or.inr (Or.inl z)))) (fun z => Or.elim z (fun z => (Or.inr (Or.inr (Or.inr (Or.inl z))))) (fun z => Or.elim z (fun z => (Or.inr (Or.inr (Or.inr (Or.inr (Or.inl z)))))) (fun z => Or.elim z (fun z => (Or.inr (Or.inr (Or.inr (Or.inr (Or.inr (Or.inl z))))))) (fun z => Or.elim z (fun z => (Or.inr (Or.inr (Or.inr (Or.inr (Or.inr (Or.inr (Or.inl z)))))))) (fun z => Or.elim z (fun z => (Or.inr (Or.inr (Or.inr (Or.inr (Or.inr (Or.inr (Or.inr (Or.inl z))))))))) (fun z => Or.elim z (fun z => (Or.inr (Or.inr (Or.inr (Or.inr (Or.inr (Or.inr (Or.inr (Or.inr (Or.inl z)))))))))) (fun z => Or.elim z (fun z => (Or.inr (Or.inr (Or.inr (Or.inr (Or.inr (Or.inr (Or.inr (Or.inr (Or.inr (Or.inl z))))))))))) (fun z => Or.elim z (fun z => (Or.inr (Or.inr (Or.inr (Or.inr (Or.inr (Or.inr (Or.inr (Or.inr (Or.inr (Or.inr (Or.inl z)))))))))))) (fun z => Or.elim z (fun z => (Or.inr (Or.inr (Or.inr (Or.inr (Or.inr (Or.inr (Or.inr (Or.inr (Or.inr (Or.inr (Or.inr (Or.inl z))))))))))))) (fun z => Or.elim z (fun z => (Or.inr (Or.inr (Or.inr (Or.inr (Or.inr (Or.inr (Or.inr (Or.inr (Or.inr (Or.inr (Or.inr (Or.inr (Or.inl z)))))))))))))) (fun z => (Or.inr (Or.inr (Or.inr (Or.inr (Or.inr (Or.inr (Or.inr (Or.inr (Or.inr (Or.inr (Or.inr (Or.inr (Or.inr z)))))))))))))))))))))))))))
  replace e1_0 : 0 ≤ v1 ∧ v1 ≤ 1 := e1_0
  refine w_if (fun c1_ => ?_) (fun c1_ => ?_)
  · skip
    exact w_ret ⟨im1, km1, (show (-1) ≤ (-1) ∧ (-1) ≤ 8128 from ⟨by omega, by omega⟩), trivial⟩
  · skip
    refine w_gFc (ji := 6) rfl (congrArg Prod.fst (kl_2 im1)) (show mG m1 2 6 = 34 from rd_Solver_6 im1 (a := 2) rfl) ?_
    refine w_gK (congrArg Prod.fst (kl_34 im1)) ?_
    refine w_call (s_X7_count (by unfold isWS; omega) im1) ?_
    intro v11 m11 pp11
    obtain ⟨im11, kk11, e11_0, -⟩ := pp11
    try dsimp only
    replace im11 : I n m11 := im11
    replace kk11 : Keep n (W_X7_count 34) m1 m11 := kk11
    have km11 : Keep n W_X4_countWorlds M m11 := km1.tr kk11 (fun b j z => z.elim)
    replace e11_0 : 0 ≤ v11 ∧ v11 ≤ 8128 := e11_0
    exact w_ret ⟨im11, km11, (show (-1) ≤ v11 ∧ v11 ≤ 8128 from ⟨by omega, by omega⟩), trivial⟩
def W_X8_worlds (b j : Int) : Prop := (21 ≤ b ∧ b ≤ 23) ∨ b = 33 ∨ b = 35 ∨ isWS (b - 1) ∨ (b = 2 ∧ j = 4) ∨ (b = 20 ∧ j = 0) ∨ (b = 20 ∧ j = 1) ∨ (b = 20 ∧ j = 5) ∨ (b = 32 ∧ j = 1) ∨ (b = 32 ∧ j = 2) ∨ (b = 34 ∧ j = 1) ∨ (b = 34 ∧ j = 2) ∨ (isWS b ∧ j = 1) ∨ (isWS b ∧ j = 2)
theorem s_X8_worlds {n : Nat} {M : Mem} (iM : I n M) : wp (mX8_worlds 1 M) (fun q => I n q.2 ∧ Keep n W_X8_worlds M q.2 ∧ ((-1) ≤ q.1 ∧ q.1 ≤ 8128) ∧ True) := by
  have hn : (169 : Int) ≤ (n : Int) := by have := iM.2.2.2.2.1; omega
  have kM : Keep n W_X8_worlds M M := Keep.rf
  unfold mX8_worlds
  refine w_gFc (ji := 0) rfl (congrArg Prod.fst (kl_1 iM)) (show mG M 1 0 = 2 from rd_VS_0 iM (a := 1) rfl) ?_
  refine w_gK (congrArg Prod.fst (kl_2 iM)) ?_
  refine w_call (s_X4_countWorlds iM) ?_
  intro v4 m4 pp4
  obtain ⟨im4, kk4, e4_0, -⟩ := pp4
  try dsimp only
  replace im4 : I n m4 := im4
  replace kk4 : Keep n W_X4_countWorlds M m4 := kk4
  have km4 : Keep n W_X8_worlds M m4 := kM.tr kk4 (fun b j z => Or.elim z (fun z => (Or.inl z)) (fun z => Or.elim z (fun z => (Or.inr (Or.inl z))) (fun z => Or.elim z (fun z => (Or.inr (Or.inr (Or.inl z)))) (fun z => Or.elim z (fun z => (Or.inr (Or.inr (Or.inr (Or.inl z))))) (fun z => Or.elim z (fun z => (Or.inr (Or.inr (Or.inr (Or.inr (Or.inl z)))))) (fun z => Or.elim z (fun z => (Or.inr (Or.inr (Or.inr (Or.inr (Or.inr (Or.inl z))))))) (fun z => Or.elim z (fun z => (Or.inr (Or.inr (Or.inr (Or.inr (Or.inr (Or.inr (Or.inl z)))))))) (fun z => Or.elim z (fun z => (Or.inr (Or.inr (Or.inr (Or.inr (Or.inr (Or.inr (Or.inr (Or.inl z))))))))) (fun z => Or.elim z (fun z => (Or.inr (Or.inr (Or.inr (Or.inr (Or.inr (Or.inr (Or.inr (Or.inr (Or.inl z)))))))))) (fun z => Or.elim z (fun z => (Or.inr (Or.inr (Or.inr (Or.inr (Or.inr (Or.inr (Or.inr (Or.inr (Or.inr (Or.inl z))))))))))) (fun z => Or.elim z (fun z => (Or.inr (Or.inr (Or.inr (Or.inr (Or.inr (Or.inr (Or.inr (Or.inr (Or.inr (Or.inr (Or.inl z)))))))))))) (fun z => Or.elim z (fun z => (Or.inr (Or.inr (Or.inr (Or.inr (Or.inr (Or.inr (Or.inr (Or.inr (Or.inr (Or.inr (Or.inr (Or.inl z))))))))))))) (fun z => Or.elim z (fun z => (Or.inr (Or.inr (Or.inr (Or.inr (Or.inr (Or.inr (Or.inr (Or.inr (Or.inr (Or.inr (Or.inr (Or.inr (Or.inl z)))))))))))))) (fun z => (Or.inr (Or.inr (Or.inr (Or.inr (Or.inr (Or.inr (Or.inr (Or.inr (Or.inr (Or.inr (Or.inr (Or.inr (Or.inr z)))))))))))))))))))))))))))
  replace e4_0 : (-1) ≤ v4 ∧ v4 ≤ 8128 := e4_0
  exact w_ret ⟨im4, km4, (show (-1) ≤ v4 ∧ v4 ≤ 8128 from ⟨by omega, by omega⟩), trivial⟩
def W_X7_most (l0 : Int) (b j : Int) : Prop := False
theorem s_X7_most {n : Nat} {l0 : Int} {M : Mem} (h_l0 : isWS l0) (iM : I n M) : wp (mX7_most l0 M) (fun q => I n q.2 ∧ Keep n (W_X7_most l0) M q.2 ∧ (1 ≤ q.1 ∧ q.1 ≤ 4096) ∧ True) := by
  have hn : (169 : Int) ≤ (n : Int) := by have := iM.2.2.2.2.1; omega
  have kM : Keep n (W_X7_most l0) M M := Keep.rf
  have u_l0 := h_l0
  unfold isWS at u_l0
  unfold mX7_most
  refine w_gF (ji := 2) rfl (congrArg Prod.fst (k_WS iM h_l0)) (fun a2 ha2 => ?_)
  have ra2 : 0 ≤ a2 ∧ a2 ≤ 12 := ha2.tr (P := fun z => 0 ≤ z ∧ z ≤ 12) (rd_WS_2 iM (f_WS h_l0))
  have w1_ := ishl1_b (k := a2) (B := 12) (by omega) (by omega) (by decide)
  exact w_ret ⟨iM, kM, (show 1 ≤ (ishl 1 a2) ∧ (ishl 1 a2) ≤ 4096 from ⟨by omega, by omega⟩), trivial⟩
def W_X7_has (l0 : Int) (b j : Int) : Prop := False
theorem s_X7_has {n : Nat} {l0 l1 : Int} {M : Mem} (h_l0 : isWS l0) (r_l1 : 0 ≤ l1 ∧ l1 ≤ 4095) (iM : I n M) : wp (mX7_has l0 l1 M) (fun q => I n q.2 ∧ Keep n (W_X7_has l0) M q.2 ∧ (0 ≤ q.1 ∧ q.1 ≤ 1) ∧ True) := by
  have hn : (169 : Int) ≤ (n : Int) := by have := iM.2.2.2.2.1; omega
  have kM : Keep n (W_X7_has l0) M M := Keep.rf
  have u_l0 := h_l0
  unfold isWS at u_l0
  unfold mX7_has
  refine w_if (fun c1_ => ?_) (fun c1_ => ?_)
  · exfalso; omega
  · skip
    refine w_gK (congrArg Prod.fst (k_WS iM h_l0)) ?_
    refine w_call (s_X7_most h_l0 iM) ?_
    intro v6 m6 pp6
    obtain ⟨im6, kk6, e6_0, -⟩ := pp6
    try dsimp only
    replace im6 : I n m6 := im6
    replace kk6 : Keep n (W_X7_most l0) M m6 := kk6
    have km6 : Keep n (W_X7_has l0) M m6 := kM.tr kk6 (fun b j z => z.elim)
    replace e6_0 : 1 ≤ v6 ∧ v6 ≤ 4096 := e6_0
    refine w_if (fun c2_ => ?_) (fun c2_ => ?_)
    · skip
      exact w_ret ⟨im6, km6, (show 0 ≤ 0 ∧ 0 ≤ 1 from ⟨by omega, by omega⟩), trivial⟩
    · skip
      refine w_gFc (ji := 0) rfl (congrArg Prod.fst (k_WS im6 h_l0)) (show mG m6 l0 0 = (l0 + 1) from rd_WS_0 im6 (a := l0) (f_WS h_l0)) ?_
      have w3_ := ishr_e (x := l1) (k := 6) (by omega) (by omega) (by decide)
      have w4_ : ishr l1 6 = l1 / 64 := w3_
      refine w_aG (k_Wwords im6 h_l0) (by omega) (by omega) (fun a20 ha20 => ?_)
      have w7_ := lcmp_0 ((land (lshr a20 l1) 1)) (0)
      refine w_if (fun c8_ => ?_) (fun c8_ => ?_)
      · skip
        exact w_ret ⟨im6, km6, (show 0 ≤ 0 ∧ 0 ≤ 1 from ⟨by omega, by omega⟩), trivial⟩
      · skip
        exact w_ret ⟨im6, km6, (show 0 ≤ 1 ∧ 1 ≤ 1 from ⟨by omega, by omega⟩), trivial⟩
def W_X7_add (l0 : Int) (b j : Int) : Prop := b = (l0 + 1)
theorem s_X7_add {n : Nat} {l0 l1 : Int} {M : Mem} (h_l0 : isWS l0) (r_l1 : (-2147483648) ≤ l1 ∧ l1 ≤ 2147483647) (iM : I n M) : wp (mX7_add l0 l1 M) (fun q => I n q.2 ∧ Keep n (W_X7_add l0) M q.2 ∧ True) := by
  have hn : (169 : Int) ≤ (n : Int) := by have := iM.2.2.2.2.1; omega
  have kM : Keep n (W_X7_add l0) M M := Keep.rf
  have u_l0 := h_l0
  unfold isWS at u_l0
  unfold mX7_add
  refine w_if (fun c1_ => ?_) (fun c1_ => ?_)
  · skip
    exact w_ret ⟨iM, kM, trivial⟩
  · skip
    refine w_gK (congrArg Prod.fst (k_WS iM h_l0)) ?_
    refine w_call (s_X7_most h_l0 iM) ?_
    intro v6 m6 pp6
    obtain ⟨im6, kk6, e6_0, -⟩ := pp6
    try dsimp only
    replace im6 : I n m6 := im6
    replace kk6 : Keep n (W_X7_most l0) M m6 := kk6
    have km6 : Keep n (W_X7_add l0) M m6 := kM.tr kk6 (fun b j z => z.elim)
    replace e6_0 : 1 ≤ v6 ∧ v6 ≤ 4096 := e6_0
    refine w_if (fun c2_ => ?_) (fun c2_ => ?_)
    · skip
      exact w_ret ⟨im6, km6, trivial⟩
    · skip
      refine w_gFc (ji := 0) rfl (congrArg Prod.fst (k_WS im6 h_l0)) (show mG m6 l0 0 = (l0 + 1) from rd_WS_0 im6 (a := l0) (f_WS h_l0)) ?_
      have w3_ := ishr_e (x := l1) (k := 6) (by omega) (by omega) (by decide)
      have w4_ : ishr l1 6 = l1 / 64 := w3_
      refine w_aG (k_Wwords im6 h_l0) (by omega) (by omega) (fun a21 ha21 => ?_)
      refine w_aS (k_Wwords im6 h_l0) (by omega) (by omega) (fun M26 hM26 => ?_)
      replace hM26 : M26 = mS m6 (l0 + 1) (ishr l1 6) (lor a21 (lshl 1 l1)) := hM26
      have iM26 : I n M26 := wr_Wwords im6 (f_Wwords h_l0) hM26
      have kM26 : Keep n (W_X7_add l0) M M26 := km6.st hM26 (Or.inl rfl)
      obtain ⟨svM26, esvM26⟩ : ∃ z, z = (lor a21 (lshl 1 l1)) := ⟨_, rfl⟩
      exact w_ret ⟨iM26, kM26, trivial⟩
def W_X1_markLeastOnes (b j : Int) : Prop := b = 28 ∨ b = 30 ∨ (b = 27 ∧ j = 1) ∨ (b = 27 ∧ j = 2) ∨ (b = 29 ∧ j = 1) ∨ (b = 29 ∧ j = 2)
theorem s_X1_markLeastOnes_83 {n : Nat} {Me : Mem} {k24 : Int → Int → Mem → Option (Int × Mem)} {fu24 : Nat} (hk24 : ∀ (l1 : Int) (M : Mem), (0 ≤ l1 ∧ l1 ≤ 4096) → 4097 - l1 < (fu24 : Int) → I n M → Keep n W_X1_markLeastOnes Me M → wp (k24 24 l1 M) (fun q => I n q.2 ∧ Keep n W_X1_markLeastOnes Me q.2 ∧ True)) {l1 : Int} {M : Mem} (r_l1 : 0 ≤ l1 ∧ l1 ≤ 4095) (hf24 : 4097 - l1 < (fu24 : Int) + 1) (iM : I n M) (kM : Keep n W_X1_markLeastOnes Me M) : wp (mX1_markLeastOnes_83 k24 24 l1 M) (fun q => I n q.2 ∧ Keep n W_X1_markLeastOnes Me q.2 ∧ True) := by
  have hn : (169 : Int) ≤ (n : Int) := by have := iM.2.2.2.2.1; omega
  unfold mX1_markLeastOnes_83
  have w1_ := wI_id (x := (l1 + 1)) (by omega) (by omega)
  exact hk24 _ _ ⟨by omega, by omega⟩ (by omega) iM kM
theorem sb_X1_markLeastOnes_56 {n : Nat} {Me : Mem} {k24 : Int → Int → Mem → Option (Int × Mem)} {fu24 : Nat} (hk24 : ∀ (l1 : Int) (M : Mem), (0 ≤ l1 ∧ l1 ≤ 4096) → 4097 - l1 < (fu24 : Int) → I n M → Keep n W_X1_markLeastOnes Me M → wp (k24 24 l1 M) (fun q => I n q.2 ∧ Keep n W_X1_markLeastOnes Me q.2 ∧ True)) {k56 : Int → Int → Int → Mem → Option (Int × Mem)} {fu56 : Nat} (hk56 : ∀ (l1 l2 : Int) (M : Mem), (0 ≤ l1 ∧ l1 ≤ 4095) → (0 ≤ l2 ∧ l2 ≤ 216) → 4097 - l1 < (fu24 : Int) + 1 → 217 - l2 < (fu56 : Int) → I n M → Keep n W_X1_markLeastOnes Me M → wp (k56 24 l1 l2 M) (fun q => I n q.2 ∧ Keep n W_X1_markLeastOnes Me q.2 ∧ True)) {l1 l2 : Int} {M : Mem} (r_l1 : 0 ≤ l1 ∧ l1 ≤ 4095) (r_l2 : 0 ≤ l2 ∧ l2 ≤ 216) (hf24 : 4097 - l1 < (fu24 : Int) + 1) (hf56 : 217 - l2 < (fu56 : Int) + 1) (iM : I n M) (kM : Keep n W_X1_markLeastOnes Me M) : wp (bX1_markLeastOnes_56 k24 k56 24 l1 l2 M) (fun q => I n q.2 ∧ Keep n W_X1_markLeastOnes Me q.2 ∧ True) := by
  have hn : (169 : Int) ≤ (n : Int) := by have := iM.2.2.2.2.1; omega
  unfold bX1_markLeastOnes_56
  refine w_gF (ji := 4) rfl (congrArg Prod.fst (kl_24 iM)) (fun a58 ha58 => ?_)
  have ra58 : 0 ≤ a58 ∧ a58 ≤ 216 := ha58.tr (P := fun z => 0 ≤ z ∧ z ≤ 216) (rd_Others_4 iM rfl)
  refine w_if (fun c1_ => ?_) (fun c1_ => ?_)
  · skip
    exact s_X1_markLeastOnes_83 hk24 ⟨by omega, by omega⟩ (by omega) iM kM
  · skip
    refine w_gFc (ji := 3) rfl (congrArg Prod.fst (kl_24 iM)) (show mG M 24 3 = 29 from rd_Others_3 iM (a := 24) rfl) ?_
    refine w_gK (congrArg Prod.fst (kl_24 iM)) ?_
    refine w_call (s_X1_renumbered ⟨by omega, by omega⟩ ⟨by omega, by omega⟩ iM) ?_
    intro v71 m71 pp71
    obtain ⟨im71, kk71, e71_0, -⟩ := pp71
    try dsimp only
    replace im71 : I n m71 := im71
    replace kk71 : Keep n W_X1_renumbered M m71 := kk71
    have km71 : Keep n W_X1_markLeastOnes Me m71 := kM.tr kk71 (fun b j z => z.elim)
    replace e71_0 : (-2147483648) ≤ v71 ∧ v71 ≤ 2147483647 := e71_0
    refine w_gK (congrArg Prod.fst (kl_29 im71)) ?_
    refine w_call (s_X7_add (by unfold isWS; omega) ⟨by omega, by omega⟩ im71) ?_
    intro v74 m74 pp74
    obtain ⟨im74, kk74, -⟩ := pp74
    try dsimp only
    replace im74 : I n m74 := im74
    replace kk74 : Keep n (W_X7_add 29) m71 m74 := kk74
    have km74 : Keep n W_X1_markLeastOnes Me m74 := km71.tr kk74 (fun b j z => by unfold W_X7_add at z; exact (Or.inr (Or.inl (by omega))))
    have w2_ := wI_id (x := (l2 + 1)) (by omega) (by omega)
    exact hk56 _ _ _ ⟨by omega, by omega⟩ ⟨by omega, by omega⟩ (by omega) (by omega) im74 km74
theorem s_X1_markLeastOnes_56 {n : Nat} {Me : Mem} {k24 : Int → Int → Mem → Option (Int × Mem)} {fu24 : Nat} (hk24 : ∀ (l1 : Int) (M : Mem), (0 ≤ l1 ∧ l1 ≤ 4096) → 4097 - l1 < (fu24 : Int) → I n M → Keep n W_X1_markLeastOnes Me M → wp (k24 24 l1 M) (fun q => I n q.2 ∧ Keep n W_X1_markLeastOnes Me q.2 ∧ True)) : ∀ (fu : Nat) (l1 l2 : Int) (M : Mem), (0 ≤ l1 ∧ l1 ≤ 4095) → (0 ≤ l2 ∧ l2 ≤ 216) → 4097 - l1 < (fu24 : Int) + 1 → 217 - l2 < (fu : Int) → I n M → Keep n W_X1_markLeastOnes Me M → wp (mX1_markLeastOnes_56 k24 fu 24 l1 l2 M) (fun q => I n q.2 ∧ Keep n W_X1_markLeastOnes Me q.2 ∧ True) := by
  intro fu
  induction fu with
  | zero =>
    intro l1 l2 M r_l1 r_l2 hf24 hf iM kM
    exfalso
    omega
  | succ fu ih =>
    intro l1 l2 M r_l1 r_l2 hf24 hf iM kM
    exact sb_X1_markLeastOnes_56 hk24 ih r_l1 r_l2 hf24 (by have e : ((fu + 1 : Nat) : Int) = (fu : Int) + 1 := rfl; rw [e] at hf; exact hf) iM kM
theorem sb_X1_markLeastOnes_24 {n : Nat} {Me : Mem} {k24 : Int → Int → Mem → Option (Int × Mem)} {fu24 : Nat} (hk24 : ∀ (l1 : Int) (M : Mem), (0 ≤ l1 ∧ l1 ≤ 4096) → 4097 - l1 < (fu24 : Int) → I n M → Keep n W_X1_markLeastOnes Me M → wp (k24 24 l1 M) (fun q => I n q.2 ∧ Keep n W_X1_markLeastOnes Me q.2 ∧ True)) {l1 : Int} {M : Mem} (r_l1 : 0 ≤ l1 ∧ l1 ≤ 4096) (hf24 : 4097 - l1 < (fu24 : Int) + 1) (iM : I n M) (kM : Keep n W_X1_markLeastOnes Me M) : wp (bX1_markLeastOnes_24 k24 24 l1 M) (fun q => I n q.2 ∧ Keep n W_X1_markLeastOnes Me q.2 ∧ True) := by
  have hn : (169 : Int) ≤ (n : Int) := by have := iM.2.2.2.2.1; omega
  unfold bX1_markLeastOnes_24
  refine w_gFc (ji := 3) rfl (congrArg Prod.fst (kl_24 iM)) (show mG M 24 3 = 29 from rd_Others_3 iM (a := 24) rfl) ?_
  refine w_gK (congrArg Prod.fst (kl_29 iM)) ?_
  refine w_call (s_X7_most (by unfold isWS; omega) iM) ?_
  intro v29 m29 pp29
  obtain ⟨im29, kk29, e29_0, -⟩ := pp29
  try dsimp only
  replace im29 : I n m29 := im29
  replace kk29 : Keep n (W_X7_most 29) M m29 := kk29
  have km29 : Keep n W_X1_markLeastOnes Me m29 := kM.tr kk29 (fun b j z => z.elim)
  replace e29_0 : 1 ≤ v29 ∧ v29 ≤ 4096 := e29_0
  refine w_if (fun c1_ => ?_) (fun c1_ => ?_)
  · skip
    exact w_ret ⟨im29, km29, trivial⟩
  · skip
    refine w_gFc (ji := 3) rfl (congrArg Prod.fst (kl_24 im29)) (show mG m29 24 3 = 29 from rd_Others_3 im29 (a := 24) rfl) ?_
    refine w_gK (congrArg Prod.fst (kl_29 im29)) ?_
    refine w_call (s_X7_has (by unfold isWS; omega) ⟨by omega, by omega⟩ im29) ?_
    intro v40 m40 pp40
    obtain ⟨im40, kk40, e40_0, -⟩ := pp40
    try dsimp only
    replace im40 : I n m40 := im40
    replace kk40 : Keep n (W_X7_has 29) m29 m40 := kk40
    have km40 : Keep n W_X1_markLeastOnes Me m40 := km29.tr kk40 (fun b j z => z.elim)
    replace e40_0 : 0 ≤ v40 ∧ v40 ≤ 1 := e40_0
    refine w_if (fun c2_ => ?_) (fun c2_ => ?_)
    · skip
      refine w_gFc (ji := 2) rfl (congrArg Prod.fst (kl_24 im40)) (show mG m40 24 2 = 27 from rd_Others_2 im40 (a := 24) rfl) ?_
      refine w_gK (congrArg Prod.fst (kl_27 im40)) ?_
      refine w_call (s_X7_add (by unfold isWS; omega) ⟨by omega, by omega⟩ im40) ?_
      intro v51 m51 pp51
      obtain ⟨im51, kk51, -⟩ := pp51
      try dsimp only
      replace im51 : I n m51 := im51
      replace kk51 : Keep n (W_X7_add 27) m40 m51 := kk51
      have km51 : Keep n W_X1_markLeastOnes Me m51 := km40.tr kk51 (fun b j z => by unfold W_X7_add at z; exact (Or.inl (by omega)))
      exact s_X1_markLeastOnes_56 hk24 FU _ _ _ ⟨by omega, by omega⟩ ⟨by omega, by omega⟩ (by omega) (by show _ < (70000 : Int); omega) im51 km51
    · skip
      exact s_X1_markLeastOnes_83 hk24 ⟨by omega, by omega⟩ (by omega) im40 km40
theorem s_X1_markLeastOnes_24 {n : Nat} {Me : Mem} : ∀ (fu : Nat) (l1 : Int) (M : Mem), (0 ≤ l1 ∧ l1 ≤ 4096) → 4097 - l1 < (fu : Int) → I n M → Keep n W_X1_markLeastOnes Me M → wp (mX1_markLeastOnes_24 fu 24 l1 M) (fun q => I n q.2 ∧ Keep n W_X1_markLeastOnes Me q.2 ∧ True) := by
  intro fu
  induction fu with
  | zero =>
    intro l1 M r_l1 hf iM kM
    exfalso
    omega
  | succ fu ih =>
    intro l1 M r_l1 hf iM kM
    exact sb_X1_markLeastOnes_24 ih r_l1 (by have e : ((fu + 1 : Nat) : Int) = (fu : Int) + 1 := rfl; rw [e] at hf; exact hf) iM kM
theorem s_X1_markLeastOnes {n : Nat} {M : Mem} (iM : I n M) : wp (mX1_markLeastOnes 24 M) (fun q => I n q.2 ∧ Keep n W_X1_markLeastOnes M q.2 ∧ True) := by
  have hn : (169 : Int) ≤ (n : Int) := by have := iM.2.2.2.2.1; omega
  have kM : Keep n W_X1_markLeastOnes M M := Keep.rf
  unfold mX1_markLeastOnes
  refine w_gFc (ji := 2) rfl (congrArg Prod.fst (kl_24 iM)) (show mG M 24 2 = 27 from rd_Others_2 iM (a := 24) rfl) ?_
  refine w_gF (ji := 5) rfl (congrArg Prod.fst (kl_24 iM)) (fun a5 ha5 => ?_)
  have ra5 : 0 ≤ a5 ∧ a5 ≤ 12 := ha5.tr (P := fun z => 0 ≤ z ∧ z ≤ 12) (rd_Others_5 iM rfl)
  refine w_gK (congrArg Prod.fst (kl_27 iM)) ?_
  refine w_call (s_X7_takeNone (by unfold isWS; omega) ⟨by omega, by omega⟩ iM) ?_
  intro v8 m8 pp8
  obtain ⟨im8, kk8, -⟩ := pp8
  try dsimp only
  replace im8 : I n m8 := im8
  replace kk8 : Keep n (W_X7_takeNone 27) M m8 := kk8
  have km8 : Keep n W_X1_markLeastOnes M m8 := kM.tr kk8 (fun b j z => Or.elim z (fun z => (Or.inl (by omega))) (fun z => Or.elim z (fun z => (Or.inr (Or.inr (Or.inl ⟨by omega, z.2⟩)))) (fun z => (Or.inr (Or.inr (Or.inr (Or.inl ⟨by omega, z.2⟩)))))))
  refine w_gFc (ji := 3) rfl (congrArg Prod.fst (kl_24 im8)) (show mG m8 24 3 = 29 from rd_Others_3 im8 (a := 24) rfl) ?_
  refine w_gFc (ji := 5) rfl (congrArg Prod.fst (kl_24 im8)) (show mG m8 24 5 = a5 from ((kk8.2.2 24 5 (by omega) (fun z => by unfold W_X7_takeNone at z; (try unfold isWS at z); (try unfold isShape at z); (try unfold isTold at z); (try dsimp only at z); omega)).trans (show mG M 24 5 = a5 from ha5))) ?_
  refine w_gK (congrArg Prod.fst (kl_29 im8)) ?_
  refine w_call (s_X7_takeNone (by unfold isWS; omega) ⟨by omega, by omega⟩ im8) ?_
  intro v19 m19 pp19
  obtain ⟨im19, kk19, -⟩ := pp19
  try dsimp only
  replace im19 : I n m19 := im19
  replace kk19 : Keep n (W_X7_takeNone 29) m8 m19 := kk19
  have km19 : Keep n W_X1_markLeastOnes M m19 := km8.tr kk19 (fun b j z => Or.elim z (fun z => (Or.inr (Or.inl (by omega)))) (fun z => Or.elim z (fun z => (Or.inr (Or.inr (Or.inr (Or.inr (Or.inl ⟨by omega, z.2⟩)))))) (fun z => (Or.inr (Or.inr (Or.inr (Or.inr (Or.inr ⟨by omega, z.2⟩))))))))
  exact s_X1_markLeastOnes_24 FU _ _ ⟨by omega, by omega⟩ (by show _ < (70000 : Int); omega) im19 km19
