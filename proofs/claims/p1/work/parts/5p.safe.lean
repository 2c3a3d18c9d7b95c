def W_X9_isTree (b j : Int) : Prop := b = 161
theorem s_X9_isTree_79 {n : Nat} {Me : Mem} {k9 : Int → Int → Int → Int → Mem → Option (Int × Mem)} {fu9 : Nat} (hk9 : ∀ (l1 l2 l3 : Int) (M : Mem), (0 ≤ l1 ∧ l1 ≤ 3) → (0 ≤ l2 ∧ l2 ≤ 1) → (0 ≤ l3 ∧ l3 ≤ 3) → (NP M) → 4 - l3 < (fu9 : Int) → I n M → Keep n W_X9_isTree Me M → wp (k9 126 l1 l2 l3 M) (fun q => I n q.2 ∧ Keep n W_X9_isTree Me q.2 ∧ (0 ≤ q.1 ∧ q.1 ≤ 1) ∧ True)) {l1 l3 s0 : Int} {M : Mem} (r_l1 : 0 ≤ l1 ∧ l1 ≤ 3) (r_l3 : 0 ≤ l3 ∧ l3 ≤ 2) (r_s0 : 0 ≤ s0 ∧ s0 ≤ 1) (p_NP : NP M) (hf9 : 4 - l3 < (fu9 : Int) + 1) (iM : I n M) (kM : Keep n W_X9_isTree Me M) : wp (mX9_isTree_79 k9 126 l1 l3 s0 M) (fun q => I n q.2 ∧ Keep n W_X9_isTree Me q.2 ∧ (0 ≤ q.1 ∧ q.1 ≤ 1) ∧ True) := by
  have hn : (169 : Int) ≤ (n : Int) := by have := iM.2.2.2.2.1; omega
  unfold mX9_isTree_79
  have w1_ := wI_id (x := (l3 + 1)) (by omega) (by omega)
  exact hk9 _ _ _ _ ⟨by omega, by omega⟩ ⟨by omega, by omega⟩ ⟨by omega, by omega⟩ p_NP (by omega) iM kM
theorem s_X9_isTree_78 {n : Nat} {Me : Mem} {k9 : Int → Int → Int → Int → Mem → Option (Int × Mem)} {fu9 : Nat} (hk9 : ∀ (l1 l2 l3 : Int) (M : Mem), (0 ≤ l1 ∧ l1 ≤ 3) → (0 ≤ l2 ∧ l2 ≤ 1) → (0 ≤ l3 ∧ l3 ≤ 3) → (NP M) → 4 - l3 < (fu9 : Int) → I n M → Keep n W_X9_isTree Me M → wp (k9 126 l1 l2 l3 M) (fun q => I n q.2 ∧ Keep n W_X9_isTree Me q.2 ∧ (0 ≤ q.1 ∧ q.1 ≤ 1) ∧ True)) {l1 l3 : Int} {M : Mem} (r_l1 : 0 ≤ l1 ∧ l1 ≤ 3) (r_l3 : 0 ≤ l3 ∧ l3 ≤ 2) (p_NP : NP M) (hf9 : 4 - l3 < (fu9 : Int) + 1) (iM : I n M) (kM : Keep n W_X9_isTree Me M) : wp (mX9_isTree_78 k9 126 l1 l3 M) (fun q => I n q.2 ∧ Keep n W_X9_isTree Me q.2 ∧ (0 ≤ q.1 ∧ q.1 ≤ 1) ∧ True) := by
  have hn : (169 : Int) ≤ (n : Int) := by have := iM.2.2.2.2.1; omega
  unfold mX9_isTree_78
  exact s_X9_isTree_79 hk9 ⟨by omega, by omega⟩ ⟨by omega, by omega⟩ ⟨by omega, by omega⟩ p_NP (by omega) iM kM
theorem s_X9_isTree_44 {n : Nat} {Me : Mem} {k9 : Int → Int → Int → Int → Mem → Option (Int × Mem)} {fu9 : Nat} (hk9 : ∀ (l1 l2 l3 : Int) (M : Mem), (0 ≤ l1 ∧ l1 ≤ 3) → (0 ≤ l2 ∧ l2 ≤ 1) → (0 ≤ l3 ∧ l3 ≤ 3) → (NP M) → 4 - l3 < (fu9 : Int) → I n M → Keep n W_X9_isTree Me M → wp (k9 126 l1 l2 l3 M) (fun q => I n q.2 ∧ Keep n W_X9_isTree Me q.2 ∧ (0 ≤ q.1 ∧ q.1 ≤ 1) ∧ True)) {k20 : Int → Int → Int → Int → Int → Int → Mem → Option (Int × Mem)} {fu20 : Nat} (hk20 : ∀ (l1 l2 l3 l4 l5 : Int) (M : Mem), (0 ≤ l1 ∧ l1 ≤ 3) → (0 ≤ l2 ∧ l2 ≤ 1) → (0 ≤ l3 ∧ l3 ≤ 2) → ((-2147483648) ≤ l4 ∧ l4 ≤ 2147483647) → (0 ≤ l5 ∧ l5 ≤ 3) → (NP M) → 4 - l3 < (fu9 : Int) + 1 → 4 - l5 < (fu20 : Int) → I n M → Keep n W_X9_isTree Me M → wp (k20 126 l1 l2 l3 l4 l5 M) (fun q => I n q.2 ∧ Keep n W_X9_isTree Me q.2 ∧ (0 ≤ q.1 ∧ q.1 ≤ 1) ∧ True)) {l1 l2 l3 l5 s0 s1 : Int} {M : Mem} (r_l1 : 0 ≤ l1 ∧ l1 ≤ 3) (r_l2 : 0 ≤ l2 ∧ l2 ≤ 1) (r_l3 : 0 ≤ l3 ∧ l3 ≤ 2) (r_l5 : 0 ≤ l5 ∧ l5 ≤ 2) (r_s0 : (-2147483648) ≤ s0 ∧ s0 ≤ 2147483647) (r_s1 : 0 ≤ s1 ∧ s1 ≤ 1) (p_NP : NP M) (hf9 : 4 - l3 < (fu9 : Int) + 1) (hf20 : 4 - l5 < (fu20 : Int) + 1) (iM : I n M) (kM : Keep n W_X9_isTree Me M) : wp (mX9_isTree_44 k9 k20 126 l1 l2 l3 l5 s0 s1 M) (fun q => I n q.2 ∧ Keep n W_X9_isTree Me q.2 ∧ (0 ≤ q.1 ∧ q.1 ≤ 1) ∧ True) := by
  have hn : (169 : Int) ≤ (n : Int) := by have := iM.2.2.2.2.1; omega
  unfold mX9_isTree_44
  have w1_ := And.intro (wI_lo (s0 + s1)) (wI_hi (s0 + s1))
  have w2_ := wI_id (x := (l5 + 1)) (by omega) (by omega)
  exact hk20 _ _ _ _ _ _ ⟨by omega, by omega⟩ ⟨by omega, by omega⟩ ⟨by omega, by omega⟩ ⟨by omega, by omega⟩ ⟨by omega, by omega⟩ p_NP (by omega) (by omega) iM kM
theorem sb_X9_isTree_20 {n : Nat} {Me : Mem} {k9 : Int → Int → Int → Int → Mem → Option (Int × Mem)} {fu9 : Nat} (hk9 : ∀ (l1 l2 l3 : Int) (M : Mem), (0 ≤ l1 ∧ l1 ≤ 3) → (0 ≤ l2 ∧ l2 ≤ 1) → (0 ≤ l3 ∧ l3 ≤ 3) → (NP M) → 4 - l3 < (fu9 : Int) → I n M → Keep n W_X9_isTree Me M → wp (k9 126 l1 l2 l3 M) (fun q => I n q.2 ∧ Keep n W_X9_isTree Me q.2 ∧ (0 ≤ q.1 ∧ q.1 ≤ 1) ∧ True)) {k20 : Int → Int → Int → Int → Int → Int → Mem → Option (Int × Mem)} {fu20 : Nat} (hk20 : ∀ (l1 l2 l3 l4 l5 : Int) (M : Mem), (0 ≤ l1 ∧ l1 ≤ 3) → (0 ≤ l2 ∧ l2 ≤ 1) → (0 ≤ l3 ∧ l3 ≤ 2) → ((-2147483648) ≤ l4 ∧ l4 ≤ 2147483647) → (0 ≤ l5 ∧ l5 ≤ 3) → (NP M) → 4 - l3 < (fu9 : Int) + 1 → 4 - l5 < (fu20 : Int) → I n M → Keep n W_X9_isTree Me M → wp (k20 126 l1 l2 l3 l4 l5 M) (fun q => I n q.2 ∧ Keep n W_X9_isTree Me q.2 ∧ (0 ≤ q.1 ∧ q.1 ≤ 1) ∧ True)) {l1 l2 l3 l4 l5 : Int} {M : Mem} (r_l1 : 0 ≤ l1 ∧ l1 ≤ 3) (r_l2 : 0 ≤ l2 ∧ l2 ≤ 1) (r_l3 : 0 ≤ l3 ∧ l3 ≤ 2) (r_l4 : (-2147483648) ≤ l4 ∧ l4 ≤ 2147483647) (r_l5 : 0 ≤ l5 ∧ l5 ≤ 3) (p_NP : NP M) (hf9 : 4 - l3 < (fu9 : Int) + 1) (hf20 : 4 - l5 < (fu20 : Int) + 1) (iM : I n M) (kM : Keep n W_X9_isTree Me M) : wp (bX9_isTree_20 k9 k20 126 l1 l2 l3 l4 l5 M) (fun q => I n q.2 ∧ Keep n W_X9_isTree Me q.2 ∧ (0 ≤ q.1 ∧ q.1 ≤ 1) ∧ True) := by
  have hn : (169 : Int) ≤ (n : Int) := by have := iM.2.2.2.2.1; omega
  unfold bX9_isTree_20
  refine w_if (fun c1_ => ?_) (fun c1_ => ?_)
  · skip
    refine w_if (fun c2_ => ?_) (fun c2_ => ?_)
    · skip
      exact s_X9_isTree_78 hk9 ⟨by omega, by omega⟩ ⟨by omega, by omega⟩ p_NP (by omega) iM kM
    · skip
      refine w_if (fun c3_ => ?_) (fun c3_ => ?_)
      · skip
        exact s_X9_isTree_78 hk9 ⟨by omega, by omega⟩ ⟨by omega, by omega⟩ p_NP (by omega) iM kM
      · skip
        refine w_gFc (ji := 47) rfl (congrArg Prod.fst (kl_126 iM)) (show mG M 126 47 = 161 from rd_Model_47 iM (a := 126) rfl) ?_
        have w4_ := wI_id (x := (4 * l3)) (by omega) (by omega)
        refine w_aG (kl_161 iM) (by omega) (by omega) (fun a70 ha70 => ?_)
        have ra70 : 0 ≤ a70 ∧ a70 ≤ 1 := ha70.tr (P := fun z => 0 ≤ z ∧ z ≤ 1) (rd_Mjoined iM rfl)
        refine w_if (fun c5_ => ?_) (fun c5_ => ?_)
        · skip
          exact s_X9_isTree_79 hk9 ⟨by omega, by omega⟩ ⟨by omega, by omega⟩ ⟨by omega, by omega⟩ p_NP (by omega) iM kM
        · skip
          exact s_X9_isTree_78 hk9 ⟨by omega, by omega⟩ ⟨by omega, by omega⟩ p_NP (by omega) iM kM
  · skip
    refine w_gK (congrArg Prod.fst (kl_126 iM)) ?_
    refine w_call (s_X9_isSo ⟨by omega, by omega⟩ ⟨by omega, by omega⟩ ⟨by omega, by omega⟩ p_NP iM) ?_
    intro v33 m33 pp33
    obtain ⟨im33, kk33, e33_0, -⟩ := pp33
    try dsimp only
    replace im33 : I n m33 := im33
    replace kk33 : Keep n W_X9_isSo M m33 := kk33
    have km33 : Keep n W_X9_isTree Me m33 := kM.tr kk33 (fun b j z => z.elim)
    replace e33_0 : 0 ≤ v33 ∧ v33 ≤ 1 := e33_0
    refine w_if (fun c6_ => ?_) (fun c6_ => ?_)
    · skip
      have ppNP_m33 : NP m33 := (NP_of p_NP (fun j => kk33.2.2 152 j (by omega) (fun z => z)))
      exact s_X9_isTree_44 hk9 hk20 ⟨by omega, by omega⟩ ⟨by omega, by omega⟩ ⟨by omega, by omega⟩ ⟨by omega, by omega⟩ ⟨by omega, by omega⟩ ⟨by omega, by omega⟩ ppNP_m33 (by omega) (by omega) im33 km33
    · skip
      have ppNP_m33 : NP m33 := (NP_of p_NP (fun j => kk33.2.2 152 j (by omega) (fun z => z)))
      exact s_X9_isTree_44 hk9 hk20 ⟨by omega, by omega⟩ ⟨by omega, by omega⟩ ⟨by omega, by omega⟩ ⟨by omega, by omega⟩ ⟨by omega, by omega⟩ ⟨by omega, by omega⟩ ppNP_m33 (by omega) (by omega) im33 km33
theorem s_X9_isTree_20 {n : Nat} {Me : Mem} {k9 : Int → Int → Int → Int → Mem → Option (Int × Mem)} {fu9 : Nat} (hk9 : ∀ (l1 l2 l3 : Int) (M : Mem), (0 ≤ l1 ∧ l1 ≤ 3) → (0 ≤ l2 ∧ l2 ≤ 1) → (0 ≤ l3 ∧ l3 ≤ 3) → (NP M) → 4 - l3 < (fu9 : Int) → I n M → Keep n W_X9_isTree Me M → wp (k9 126 l1 l2 l3 M) (fun q => I n q.2 ∧ Keep n W_X9_isTree Me q.2 ∧ (0 ≤ q.1 ∧ q.1 ≤ 1) ∧ True)) : ∀ (fu : Nat) (l1 l2 l3 l4 l5 : Int) (M : Mem), (0 ≤ l1 ∧ l1 ≤ 3) → (0 ≤ l2 ∧ l2 ≤ 1) → (0 ≤ l3 ∧ l3 ≤ 2) → ((-2147483648) ≤ l4 ∧ l4 ≤ 2147483647) → (0 ≤ l5 ∧ l5 ≤ 3) → (NP M) → 4 - l3 < (fu9 : Int) + 1 → 4 - l5 < (fu : Int) → I n M → Keep n W_X9_isTree Me M → wp (mX9_isTree_20 k9 fu 126 l1 l2 l3 l4 l5 M) (fun q => I n q.2 ∧ Keep n W_X9_isTree Me q.2 ∧ (0 ≤ q.1 ∧ q.1 ≤ 1) ∧ True) := by
  intro fu
  induction fu with
  | zero =>
    intro l1 l2 l3 l4 l5 M r_l1 r_l2 r_l3 r_l4 r_l5 p_NP hf9 hf iM kM
    exfalso
    omega
  | succ fu ih =>
    intro l1 l2 l3 l4 l5 M r_l1 r_l2 r_l3 r_l4 r_l5 p_NP hf9 hf iM kM
    exact sb_X9_isTree_20 hk9 ih r_l1 r_l2 r_l3 r_l4 r_l5 p_NP hf9 (by have e : ((fu + 1 : Nat) : Int) = (fu : Int) + 1 := rfl; rw [e] at hf; exact hf) iM kM
theorem sb_X9_isTree_9 {n : Nat} {Me : Mem} {k9 : Int → Int → Int → Int → Mem → Option (Int × Mem)} {fu9 : Nat} (hk9 : ∀ (l1 l2 l3 : Int) (M : Mem), (0 ≤ l1 ∧ l1 ≤ 3) → (0 ≤ l2 ∧ l2 ≤ 1) → (0 ≤ l3 ∧ l3 ≤ 3) → (NP M) → 4 - l3 < (fu9 : Int) → I n M → Keep n W_X9_isTree Me M → wp (k9 126 l1 l2 l3 M) (fun q => I n q.2 ∧ Keep n W_X9_isTree Me q.2 ∧ (0 ≤ q.1 ∧ q.1 ≤ 1) ∧ True)) {l1 l2 l3 : Int} {M : Mem} (r_l1 : 0 ≤ l1 ∧ l1 ≤ 3) (r_l2 : 0 ≤ l2 ∧ l2 ≤ 1) (r_l3 : 0 ≤ l3 ∧ l3 ≤ 3) (p_NP : NP M) (hf9 : 4 - l3 < (fu9 : Int) + 1) (iM : I n M) (kM : Keep n W_X9_isTree Me M) : wp (bX9_isTree_9 k9 126 l1 l2 l3 M) (fun q => I n q.2 ∧ Keep n W_X9_isTree Me q.2 ∧ (0 ≤ q.1 ∧ q.1 ≤ 1) ∧ True) := by
  have hn : (169 : Int) ≤ (n : Int) := by have := iM.2.2.2.2.1; omega
  unfold bX9_isTree_9
  refine w_if (fun c1_ => ?_) (fun c1_ => ?_)
  · skip
    refine w_zR (by omega) (fun z hz => ?_)
    exact w_ret ⟨iM, kM, (show 0 ≤ z ∧ z ≤ 1 from ⟨by omega, by omega⟩), trivial⟩
  · skip
    exact s_X9_isTree_20 hk9 FU _ _ _ _ _ _ ⟨by omega, by omega⟩ ⟨by omega, by omega⟩ ⟨by omega, by omega⟩ ⟨by omega, by omega⟩ ⟨by omega, by omega⟩ p_NP (by omega) (by show _ < (70000 : Int); omega) iM kM
theorem s_X9_isTree_9 {n : Nat} {Me : Mem} : ∀ (fu : Nat) (l1 l2 l3 : Int) (M : Mem), (0 ≤ l1 ∧ l1 ≤ 3) → (0 ≤ l2 ∧ l2 ≤ 1) → (0 ≤ l3 ∧ l3 ≤ 3) → (NP M) → 4 - l3 < (fu : Int) → I n M → Keep n W_X9_isTree Me M → wp (mX9_isTree_9 fu 126 l1 l2 l3 M) (fun q => I n q.2 ∧ Keep n W_X9_isTree Me q.2 ∧ (0 ≤ q.1 ∧ q.1 ≤ 1) ∧ True) := by
  intro fu
  induction fu with
  | zero =>
    intro l1 l2 l3 M r_l1 r_l2 r_l3 p_NP hf iM kM
    exfalso
    omega
  | succ fu ih =>
    intro l1 l2 l3 M r_l1 r_l2 r_l3 p_NP hf iM kM
    exact sb_X9_isTree_9 ih r_l1 r_l2 r_l3 p_NP (by have e : ((fu + 1 : Nat) : Int) = (fu : Int) + 1 := rfl; rw [e] at hf; exact hf) iM kM
theorem s_X9_isTree {n : Nat} {l1 : Int} {M : Mem} (r_l1 : 0 ≤ l1 ∧ l1 ≤ 3) (p_NP : NP M) (iM : I n M) : wp (mX9_isTree 126 l1 M) (fun q => I n q.2 ∧ Keep n W_X9_isTree M q.2 ∧ (0 ≤ q.1 ∧ q.1 ≤ 1) ∧ True) := by
  have hn : (169 : Int) ≤ (n : Int) := by have := iM.2.2.2.2.1; omega
  have kM : Keep n W_X9_isTree M M := Keep.rf
  unfold mX9_isTree
  refine w_gK (congrArg Prod.fst (kl_126 iM)) ?_
  refine w_call (s_X9_findJoined ⟨by omega, by omega⟩ p_NP iM) ?_
  intro v2 m2 pp2
  obtain ⟨im2, kk2, -⟩ := pp2
  try dsimp only
  replace im2 : I n m2 := im2
  replace kk2 : Keep n W_X9_findJoined M m2 := kk2
  have km2 : Keep n W_X9_isTree M m2 := kM.tr kk2 (fun b j z => by unfold W_X9_findJoined at z; exact z)
  have ppNP_m2 : NP m2 := (NP_of p_NP (fun j => kk2.2.2 152 j (by omega) (fun z => by unfold W_X9_findJoined at z; (try unfold isWS at z); (try unfold isShape at z); (try unfold isTold at z); (try dsimp only at z); omega)))
  exact s_X9_isTree_9 FU _ _ _ _ ⟨by omega, by omega⟩ ⟨by omega, by omega⟩ ⟨by omega, by omega⟩ ppNP_m2 (by show _ < (70000 : Int); omega) im2 km2
def W_X9_valueIn (b j : Int) : Prop := False
theorem s_X9_valueIn {n : Nat} {l0 l1 : Int} {M : Mem} (r_l0 : 0 ≤ l0 ∧ l0 ≤ 80) (r_l1 : (-2147483648) ≤ l1 ∧ l1 ≤ 2147483647) (iM : I n M) : wp (mX9_valueIn l0 l1 M) (fun q => I n q.2 ∧ Keep n W_X9_valueIn M q.2 ∧ (0 ≤ q.1 ∧ q.1 ≤ 2) ∧ True) := by
  have hn : (169 : Int) ≤ (n : Int) := by have := iM.2.2.2.2.1; omega
  have kM : Keep n W_X9_valueIn M M := Keep.rf
  unfold mX9_valueIn
  refine w_call (s_X9_unit ⟨by omega, by omega⟩ iM) ?_
  intro v2 m2 pp2
  obtain ⟨im2, kk2, e2_0, -⟩ := pp2
  try dsimp only
  replace im2 : I n m2 := im2
  replace kk2 : Keep n W_X9_unit M m2 := kk2
  have km2 : Keep n W_X9_valueIn M m2 := kM.tr kk2 (fun b j z => z.elim)
  replace e2_0 : 1 ≤ v2 ∧ v2 ≤ 27 := e2_0
  refine w_dQ (by omega) (fun a5 ha5 => ?_)
  have ea5 : a5 = l0 / v2 := ha5.trans (idiv_e (by omega) (by omega) (by omega) (by omega))
  have ra5 : 0 ≤ a5 ∧ a5 ≤ l0 := by rw [ea5]; exact ⟨Int.ediv_nonneg (by omega) (by omega), Int.ediv_le_self _ (by omega)⟩
  refine w_dM (by omega) (fun a7 ha7 => ?_)
  have ea7 : a7 = a5 % 3 := ha7.trans (irem_e (by omega) (by omega) (by omega) (by omega))
  exact w_ret ⟨im2, km2, (show 0 ≤ a7 ∧ a7 ≤ 2 from ⟨by omega, by omega⟩), trivial⟩
def W_X9_leaf (b j : Int) : Prop := (160 ≤ b ∧ b ≤ 161) ∨ (b = 126 ∧ j = 46)
theorem s_X9_leaf_216 {n : Nat} {Me : Mem} {k51 : Int → Int → Int → Int → Int → Mem → Option (Int × Mem)} {fu51 : Nat} (hk51 : ∀ (l1 l2 l3 l4 : Int) (M : Mem), ((-2147483648) ≤ l1 ∧ l1 ≤ 2147483647) → (0 ≤ l2 ∧ l2 ≤ 12) → (0 ≤ l3 ∧ l3 ≤ 1) → (0 ≤ l4 ∧ l4 ≤ 81) → (NP M) → 82 - l4 < (fu51 : Int) → I n M → Keep n W_X9_leaf Me M → wp (k51 126 l1 l2 l3 l4 M) (fun q => I n q.2 ∧ Keep n W_X9_leaf Me q.2 ∧ True)) {l1 l2 l3 l4 l5 : Int} {M : Mem} (r_l1 : (-2147483648) ≤ l1 ∧ l1 ≤ 2147483647) (r_l2 : 0 ≤ l2 ∧ l2 ≤ 12) (r_l3 : 0 ≤ l3 ∧ l3 ≤ 1) (r_l4 : 0 ≤ l4 ∧ l4 ≤ 80) (r_l5 : 0 ≤ l5 ∧ l5 ≤ 1) (p_NP : NP M) (hf51 : 82 - l4 < (fu51 : Int) + 1) (iM : I n M) (kM : Keep n W_X9_leaf Me M) : wp (mX9_leaf_216 k51 126 l1 l2 l3 l4 l5 M) (fun q => I n q.2 ∧ Keep n W_X9_leaf Me q.2 ∧ True) := by
  have hn : (169 : Int) ≤ (n : Int) := by have := iM.2.2.2.2.1; omega
  unfold mX9_leaf_216
  refine w_gFc (ji := 45) rfl (congrArg Prod.fst (kl_126 iM)) (show mG M 126 45 = 160 from rd_Model_45 iM (a := 126) rfl) ?_
  refine w_gF (ji := 46) rfl (congrArg Prod.fst (kl_126 iM)) (fun a223 ha223 => ?_)
  have ra223 : 0 ≤ a223 ∧ a223 ≤ 41 := ha223.tr (P := fun z => 0 ≤ z ∧ z ≤ 41) (rd_Model_46 iM rfl)
  have w1_ := wI_id (x := (81 * a223)) (by omega) (by omega)
  have w2_ := wI_id (x := ((wI (81 * a223)) + l4)) (by omega) (by omega)
  refine w_aSZ (kl_160 iM) (by omega) (by omega) (by omega) (fun M232 hM232 => ?_)
  replace hM232 : M232 = mS M 160 (wI ((wI (81 * a223)) + l4)) l5 := hM232
  have iM232 : I n M232 := wr_Mready iM rfl ⟨by omega, by omega⟩ hM232
  have kM232 : Keep n W_X9_leaf Me M232 := kM.st hM232 (Or.inl (Or.inl ⟨by decide, by decide⟩))
  have w3_ := wI_id (x := (l4 + 1)) (by omega) (by omega)
  have ppNP_M232 : NP M232 := (NP_of p_NP (fun j => st_ne hM232 (fun z => ne_fam rfl rfl (by decide) z.1)))
  exact hk51 _ _ _ _ _ ⟨by omega, by omega⟩ ⟨by omega, by omega⟩ ⟨by omega, by omega⟩ ⟨by omega, by omega⟩ ppNP_M232 (by omega) iM232 kM232
theorem s_X9_leaf_97 {n : Nat} {Me : Mem} {k51 : Int → Int → Int → Int → Int → Mem → Option (Int × Mem)} {fu51 : Nat} (hk51 : ∀ (l1 l2 l3 l4 : Int) (M : Mem), ((-2147483648) ≤ l1 ∧ l1 ≤ 2147483647) → (0 ≤ l2 ∧ l2 ≤ 12) → (0 ≤ l3 ∧ l3 ≤ 1) → (0 ≤ l4 ∧ l4 ≤ 81) → (NP M) → 82 - l4 < (fu51 : Int) → I n M → Keep n W_X9_leaf Me M → wp (k51 126 l1 l2 l3 l4 M) (fun q => I n q.2 ∧ Keep n W_X9_leaf Me q.2 ∧ True)) {l1 l2 l3 l4 s0 : Int} {M : Mem} (r_l1 : (-2147483648) ≤ l1 ∧ l1 ≤ 2147483647) (r_l2 : 8 ≤ l2 ∧ l2 ≤ 8) (r_l3 : 0 ≤ l3 ∧ l3 ≤ 1) (r_l4 : 0 ≤ l4 ∧ l4 ≤ 80) (r_s0 : 0 ≤ s0 ∧ s0 ≤ 1) (p_NP : NP M) (hf51 : 82 - l4 < (fu51 : Int) + 1) (iM : I n M) (kM : Keep n W_X9_leaf Me M) : wp (mX9_leaf_97 k51 126 l1 l2 l3 l4 s0 M) (fun q => I n q.2 ∧ Keep n W_X9_leaf Me q.2 ∧ True) := by
  have hn : (169 : Int) ≤ (n : Int) := by have := iM.2.2.2.2.1; omega
  unfold mX9_leaf_97
  exact s_X9_leaf_216 hk51 ⟨by omega, by omega⟩ ⟨by omega, by omega⟩ ⟨by omega, by omega⟩ ⟨by omega, by omega⟩ ⟨by omega, by omega⟩ p_NP (by omega) iM kM
theorem sb_X9_leaf_51 {n : Nat} {Me : Mem} {k51 : Int → Int → Int → Int → Int → Mem → Option (Int × Mem)} {fu51 : Nat} (hk51 : ∀ (l1 l2 l3 l4 : Int) (M : Mem), ((-2147483648) ≤ l1 ∧ l1 ≤ 2147483647) → (0 ≤ l2 ∧ l2 ≤ 12) → (0 ≤ l3 ∧ l3 ≤ 1) → (0 ≤ l4 ∧ l4 ≤ 81) → (NP M) → 82 - l4 < (fu51 : Int) → I n M → Keep n W_X9_leaf Me M → wp (k51 126 l1 l2 l3 l4 M) (fun q => I n q.2 ∧ Keep n W_X9_leaf Me q.2 ∧ True)) {l1 l2 l3 l4 : Int} {M : Mem} (r_l1 : (-2147483648) ≤ l1 ∧ l1 ≤ 2147483647) (r_l2 : 0 ≤ l2 ∧ l2 ≤ 12) (r_l3 : 0 ≤ l3 ∧ l3 ≤ 1) (r_l4 : 0 ≤ l4 ∧ l4 ≤ 81) (p_NP : NP M) (hf51 : 82 - l4 < (fu51 : Int) + 1) (iM : I n M) (kM : Keep n W_X9_leaf Me M) : wp (bX9_leaf_51 k51 126 l1 l2 l3 l4 M) (fun q => I n q.2 ∧ Keep n W_X9_leaf Me q.2 ∧ True) := by
  have hn : (169 : Int) ≤ (n : Int) := by have := iM.2.2.2.2.1; omega
  unfold bX9_leaf_51
  refine w_if (fun c1_ => ?_) (fun c1_ => ?_)
  · skip
    refine w_gF (ji := 46) rfl (congrArg Prod.fst (kl_126 iM)) (fun a241 ha241 => ?_)
    have ra241 : 0 ≤ a241 ∧ a241 ≤ 41 := ha241.tr (P := fun z => 0 ≤ z ∧ z ≤ 41) (rd_Model_46 iM rfl)
    have w2_ := wI_id (x := (a241 + 1)) (by omega) (by omega)
    refine w_pF (ji := 46) rfl (congrArg Prod.fst (kl_126 iM)) (fun M246 hM246 => ?_)
    replace hM246 : M246 = mS M 126 46 (wI (a241 + 1)) := hM246
    have iM246 : I n M246 := wr_Model_46 iM rfl ⟨by omega, by omega⟩ hM246
    have kM246 : Keep n W_X9_leaf Me M246 := kM.st hM246 (Or.inl (Or.inr ⟨rfl, rfl⟩))
    obtain ⟨svM246, esvM246⟩ : ∃ z, z = (wI (a241 + 1)) := ⟨_, rfl⟩
    exact w_ret ⟨iM246, kM246, trivial⟩
  · skip
    refine w_if (fun c3_ => ?_) (fun c3_ => ?_)
    · skip
      refine w_gFc (ji := 17) rfl (congrArg Prod.fst (kl_126 iM)) (show mG M 126 17 = 143 from rd_Model_17 iM (a := 126) rfl) ?_
      refine w_aG (kl_143 iM) (by omega) (by omega) (fun a74 ha74 => ?_)
      have ra74 : 0 ≤ a74 ∧ a74 ≤ 3 := ha74.tr (P := fun z => 0 ≤ z ∧ z ≤ 3) (rd_Mone iM rfl)
      refine w_call (s_X9_valueIn ⟨by omega, by omega⟩ ⟨by omega, by omega⟩ iM) ?_
      intro v75 m75 pp75
      obtain ⟨im75, kk75, e75_0, -⟩ := pp75
      try dsimp only
      replace im75 : I n m75 := im75
      replace kk75 : Keep n W_X9_valueIn M m75 := kk75
      have km75 : Keep n W_X9_leaf Me m75 := kM.tr kk75 (fun b j z => z.elim)
      replace e75_0 : 0 ≤ v75 ∧ v75 ≤ 2 := e75_0
      refine w_gFc (ji := 18) rfl (congrArg Prod.fst (kl_126 im75)) (show mG m75 126 18 = 144 from rd_Model_18 im75 (a := 126) rfl) ?_
      refine w_aG (kl_144 im75) (by omega) (by omega) (fun a85 ha85 => ?_)
      have ra85 : 0 ≤ a85 ∧ a85 ≤ 3 := ha85.tr (P := fun z => 0 ≤ z ∧ z ≤ 3) (rd_Mtwo im75 rfl)
      refine w_call (s_X9_valueIn ⟨by omega, by omega⟩ ⟨by omega, by omega⟩ im75) ?_
      intro v86 m86 pp86
      obtain ⟨im86, kk86, e86_0, -⟩ := pp86
      try dsimp only
      replace im86 : I n m86 := im86
      replace kk86 : Keep n W_X9_valueIn m75 m86 := kk86
      have km86 : Keep n W_X9_leaf Me m86 := km75.tr kk86 (fun b j z => z.elim)
      replace e86_0 : 0 ≤ v86 ∧ v86 ≤ 2 := e86_0
      refine w_if (fun c4_ => ?_) (fun c4_ => ?_)
      · skip
        have ppNP_m86 : NP m86 := (NP_of (NP_of p_NP (fun j => kk75.2.2 152 j (by omega) (fun z => z))) (fun j => kk86.2.2 152 j (by omega) (fun z => z)))
        exact s_X9_leaf_97 hk51 ⟨by omega, by omega⟩ ⟨by omega, by omega⟩ ⟨by omega, by omega⟩ ⟨by omega, by omega⟩ ⟨by omega, by omega⟩ ppNP_m86 (by omega) im86 km86
      · skip
        have ppNP_m86 : NP m86 := (NP_of (NP_of p_NP (fun j => kk75.2.2 152 j (by omega) (fun z => z))) (fun j => kk86.2.2 152 j (by omega) (fun z => z)))
        exact s_X9_leaf_97 hk51 ⟨by omega, by omega⟩ ⟨by omega, by omega⟩ ⟨by omega, by omega⟩ ⟨by omega, by omega⟩ ⟨by omega, by omega⟩ ppNP_m86 (by omega) im86 km86
    · skip
      refine w_if (fun c5_ => ?_) (fun c5_ => ?_)
      · skip
        refine w_gFc (ji := 47) rfl (congrArg Prod.fst (kl_126 iM)) (show mG M 126 47 = 161 from rd_Model_47 iM (a := 126) rfl) ?_
        refine w_gFc (ji := 18) rfl (congrArg Prod.fst (kl_126 iM)) (show mG M 126 18 = 144 from rd_Model_18 iM (a := 126) rfl) ?_
        refine w_aG (kl_144 iM) (by omega) (by omega) (fun a120 ha120 => ?_)
        have ra120 : 0 ≤ a120 ∧ a120 ≤ 3 := ha120.tr (P := fun z => 0 ≤ z ∧ z ≤ 3) (rd_Mtwo iM rfl)
        refine w_call (s_X9_valueIn ⟨by omega, by omega⟩ ⟨by omega, by omega⟩ iM) ?_
        intro v121 m121 pp121
        obtain ⟨im121, kk121, e121_0, -⟩ := pp121
        try dsimp only
        replace im121 : I n m121 := im121
        replace kk121 : Keep n W_X9_valueIn M m121 := kk121
        have km121 : Keep n W_X9_leaf Me m121 := kM.tr kk121 (fun b j z => z.elim)
        replace e121_0 : 0 ≤ v121 ∧ v121 ≤ 2 := e121_0
        refine w_gFc (ji := 19) rfl (congrArg Prod.fst (kl_126 im121)) (show mG m121 126 19 = 145 from rd_Model_19 im121 (a := 126) rfl) ?_
        refine w_aG (kl_145 im121) (by omega) (by omega) (fun a132 ha132 => ?_)
        have ra132 : (-2147483648) ≤ a132 ∧ a132 ≤ 2147483647 := ha132.tr (P := fun z => (-2147483648) ≤ z ∧ z ≤ 2147483647) (rd_Mthree im121 rfl)
        refine w_call (s_X9_valueIn ⟨by omega, by omega⟩ ⟨by omega, by omega⟩ im121) ?_
        intro v133 m133 pp133
        obtain ⟨im133, kk133, e133_0, -⟩ := pp133
        try dsimp only
        replace im133 : I n m133 := im133
        replace kk133 : Keep n W_X9_valueIn m121 m133 := kk133
        have km133 : Keep n W_X9_leaf Me m133 := km121.tr kk133 (fun b j z => z.elim)
        replace e133_0 : 0 ≤ v133 ∧ v133 ≤ 2 := e133_0
        have w6_ := wI_id (x := (3 * v121)) (by omega) (by omega)
        have w7_ := wI_id (x := ((wI (3 * v121)) + v133)) (by omega) (by omega)
        refine w_aG (kl_161 im133) (by omega) (by omega) (fun a137 ha137 => ?_)
        have ra137 : 0 ≤ a137 ∧ a137 ≤ 1 := ha137.tr (P := fun z => 0 ≤ z ∧ z ≤ 1) (rd_Mjoined im133 rfl)
        have ppNP_m133 : NP m133 := (NP_of (NP_of p_NP (fun j => kk121.2.2 152 j (by omega) (fun z => z))) (fun j => kk133.2.2 152 j (by omega) (fun z => z)))
        exact s_X9_leaf_216 hk51 ⟨by omega, by omega⟩ ⟨by omega, by omega⟩ ⟨by omega, by omega⟩ ⟨by omega, by omega⟩ ⟨by omega, by omega⟩ ppNP_m133 (by omega) im133 km133
      · skip
        refine w_if (fun c8_ => ?_) (fun c8_ => ?_)
        · skip
          refine w_gFc (ji := 17) rfl (congrArg Prod.fst (kl_126 iM)) (show mG M 126 17 = 143 from rd_Model_17 iM (a := 126) rfl) ?_
          refine w_aG (kl_143 iM) (by omega) (by omega) (fun a155 ha155 => ?_)
          have ra155 : 0 ≤ a155 ∧ a155 ≤ 3 := ha155.tr (P := fun z => 0 ≤ z ∧ z ≤ 3) (rd_Mone iM rfl)
          refine w_gFc (ji := 18) rfl (congrArg Prod.fst (kl_126 iM)) (show mG M 126 18 = 144 from rd_Model_18 iM (a := 126) rfl) ?_
          refine w_aG (kl_144 iM) (by omega) (by omega) (fun a163 ha163 => ?_)
          have ra163 : 0 ≤ a163 ∧ a163 ≤ 3 := ha163.tr (P := fun z => 0 ≤ z ∧ z ≤ 3) (rd_Mtwo iM rfl)
          refine w_call (s_X9_valueIn ⟨by omega, by omega⟩ ⟨by omega, by omega⟩ iM) ?_
          intro v164 m164 pp164
          obtain ⟨im164, kk164, e164_0, -⟩ := pp164
          try dsimp only
          replace im164 : I n m164 := im164
          replace kk164 : Keep n W_X9_valueIn M m164 := kk164
          have km164 : Keep n W_X9_leaf Me m164 := kM.tr kk164 (fun b j z => z.elim)
          replace e164_0 : 0 ≤ v164 ∧ v164 ≤ 2 := e164_0
          refine w_gK (congrArg Prod.fst (kl_126 im164)) ?_
          have ppNP_m164 : NP m164 := (NP_of p_NP (fun j => kk164.2.2 152 j (by omega) (fun z => z)))
          refine w_call (s_X9_isSo ⟨by omega, by omega⟩ ⟨by omega, by omega⟩ ⟨by omega, by omega⟩ ppNP_m164 im164) ?_
          intro v168 m168 pp168
          obtain ⟨im168, kk168, e168_0, -⟩ := pp168
          try dsimp only
          replace im168 : I n m168 := im168
          replace kk168 : Keep n W_X9_isSo m164 m168 := kk168
          have km168 : Keep n W_X9_leaf Me m168 := km164.tr kk168 (fun b j z => z.elim)
          replace e168_0 : 0 ≤ v168 ∧ v168 ≤ 1 := e168_0
          have ppNP_m168 : NP m168 := (NP_of ppNP_m164 (fun j => kk168.2.2 152 j (by omega) (fun z => z)))
          exact s_X9_leaf_216 hk51 ⟨by omega, by omega⟩ ⟨by omega, by omega⟩ ⟨by omega, by omega⟩ ⟨by omega, by omega⟩ ⟨by omega, by omega⟩ ppNP_m168 (by omega) im168 km168
        · skip
          refine w_if (fun c9_ => ?_) (fun c9_ => ?_)
          · skip
            refine w_gFc (ji := 17) rfl (congrArg Prod.fst (kl_126 iM)) (show mG M 126 17 = 143 from rd_Model_17 iM (a := 126) rfl) ?_
            refine w_aG (kl_143 iM) (by omega) (by omega) (fun a188 ha188 => ?_)
            have ra188 : 0 ≤ a188 ∧ a188 ≤ 3 := ha188.tr (P := fun z => 0 ≤ z ∧ z ≤ 3) (rd_Mone iM rfl)
            refine w_gFc (ji := 18) rfl (congrArg Prod.fst (kl_126 iM)) (show mG M 126 18 = 144 from rd_Model_18 iM (a := 126) rfl) ?_
            refine w_aG (kl_144 iM) (by omega) (by omega) (fun a196 ha196 => ?_)
            have ra196 : 0 ≤ a196 ∧ a196 ≤ 3 := ha196.tr (P := fun z => 0 ≤ z ∧ z ≤ 3) (rd_Mtwo iM rfl)
            refine w_call (s_X9_valueIn ⟨by omega, by omega⟩ ⟨by omega, by omega⟩ iM) ?_
            intro v197 m197 pp197
            obtain ⟨im197, kk197, e197_0, -⟩ := pp197
            try dsimp only
            replace im197 : I n m197 := im197
            replace kk197 : Keep n W_X9_valueIn M m197 := kk197
            have km197 : Keep n W_X9_leaf Me m197 := kM.tr kk197 (fun b j z => z.elim)
            replace e197_0 : 0 ≤ v197 ∧ v197 ≤ 2 := e197_0
            refine w_gFc (ji := 19) rfl (congrArg Prod.fst (kl_126 im197)) (show mG m197 126 19 = 145 from rd_Model_19 im197 (a := 126) rfl) ?_
            refine w_aG (kl_145 im197) (by omega) (by omega) (fun a207 ha207 => ?_)
            have ra207 : (-2147483648) ≤ a207 ∧ a207 ≤ 2147483647 := ha207.tr (P := fun z => (-2147483648) ≤ z ∧ z ≤ 2147483647) (rd_Mthree im197 rfl)
            refine w_call (s_X9_valueIn ⟨by omega, by omega⟩ ⟨by omega, by omega⟩ im197) ?_
            intro v208 m208 pp208
            obtain ⟨im208, kk208, e208_0, -⟩ := pp208
            try dsimp only
            replace im208 : I n m208 := im208
            replace kk208 : Keep n W_X9_valueIn m197 m208 := kk208
            have km208 : Keep n W_X9_leaf Me m208 := km197.tr kk208 (fun b j z => z.elim)
            replace e208_0 : 0 ≤ v208 ∧ v208 ≤ 2 := e208_0
            refine w_gK (congrArg Prod.fst (kl_126 im208)) ?_
            have ppNP_m208 : NP m208 := (NP_of (NP_of p_NP (fun j => kk197.2.2 152 j (by omega) (fun z => z))) (fun j => kk208.2.2 152 j (by omega) (fun z => z)))
            refine w_call (s_X9_isSo ⟨by omega, by omega⟩ ⟨by omega, by omega⟩ ⟨by omega, by omega⟩ ppNP_m208 im208) ?_
            intro v211 m211 pp211
            obtain ⟨im211, kk211, e211_0, -⟩ := pp211
            try dsimp only
            replace im211 : I n m211 := im211
            replace kk211 : Keep n W_X9_isSo m208 m211 := kk211
            have km211 : Keep n W_X9_leaf Me m211 := km208.tr kk211 (fun b j z => z.elim)
            replace e211_0 : 0 ≤ v211 ∧ v211 ≤ 1 := e211_0
            have ppNP_m211 : NP m211 := (NP_of ppNP_m208 (fun j => kk211.2.2 152 j (by omega) (fun z => z)))
            exact s_X9_leaf_216 hk51 ⟨by omega, by omega⟩ ⟨by omega, by omega⟩ ⟨by omega, by omega⟩ ⟨by omega, by omega⟩ ⟨by omega, by omega⟩ ppNP_m211 (by omega) im211 km211
          · skip
            exact s_X9_leaf_216 hk51 ⟨by omega, by omega⟩ ⟨by omega, by omega⟩ ⟨by omega, by omega⟩ ⟨by omega, by omega⟩ ⟨by omega, by omega⟩ p_NP (by omega) iM kM
theorem s_X9_leaf_51 {n : Nat} {Me : Mem} : ∀ (fu : Nat) (l1 l2 l3 l4 : Int) (M : Mem), ((-2147483648) ≤ l1 ∧ l1 ≤ 2147483647) → (0 ≤ l2 ∧ l2 ≤ 12) → (0 ≤ l3 ∧ l3 ≤ 1) → (0 ≤ l4 ∧ l4 ≤ 81) → (NP M) → 82 - l4 < (fu : Int) → I n M → Keep n W_X9_leaf Me M → wp (mX9_leaf_51 fu 126 l1 l2 l3 l4 M) (fun q => I n q.2 ∧ Keep n W_X9_leaf Me q.2 ∧ True) := by
  intro fu
  induction fu with
  | zero =>
    intro l1 l2 l3 l4 M r_l1 r_l2 r_l3 r_l4 p_NP hf iM kM
    exfalso
    omega
  | succ fu ih =>
    intro l1 l2 l3 l4 M r_l1 r_l2 r_l3 r_l4 p_NP hf iM kM
    exact sb_X9_leaf_51 ih r_l1 r_l2 r_l3 r_l4 p_NP (by have e : ((fu + 1 : Nat) : Int) = (fu : Int) + 1 := rfl; rw [e] at hf; exact hf) iM kM
theorem s_X9_leaf_48 {n : Nat} {Me : Mem} {l1 l2 l3 : Int} {M : Mem} (r_l1 : (-2147483648) ≤ l1 ∧ l1 ≤ 2147483647) (r_l2 : 0 ≤ l2 ∧ l2 ≤ 12) (r_l3 : 0 ≤ l3 ∧ l3 ≤ 1) (p_NP : NP M) (iM : I n M) (kM : Keep n W_X9_leaf Me M) : wp (mX9_leaf_48 126 l1 l2 l3 M) (fun q => I n q.2 ∧ Keep n W_X9_leaf Me q.2 ∧ True) := by
  have hn : (169 : Int) ≤ (n : Int) := by have := iM.2.2.2.2.1; omega
  unfold mX9_leaf_48
  exact s_X9_leaf_51 FU _ _ _ _ _ ⟨by omega, by omega⟩ ⟨by omega, by omega⟩ ⟨by omega, by omega⟩ ⟨by omega, by omega⟩ p_NP (by show _ < (70000 : Int); omega) iM kM
theorem s_X9_leaf_31 {n : Nat} {Me : Mem} {l1 l2 s0 : Int} {M : Mem} (r_l1 : (-2147483648) ≤ l1 ∧ l1 ≤ 2147483647) (r_l2 : 0 ≤ l2 ∧ l2 ≤ 12) (r_s0 : 0 ≤ s0 ∧ s0 ≤ 1) (p_NP : NP M) (iM : I n M) (kM : Keep n W_X9_leaf Me M) : wp (mX9_leaf_31 126 l1 l2 s0 M) (fun q => I n q.2 ∧ Keep n W_X9_leaf Me q.2 ∧ True) := by
  have hn : (169 : Int) ≤ (n : Int) := by have := iM.2.2.2.2.1; omega
  unfold mX9_leaf_31
  refine w_if (fun c1_ => ?_) (fun c1_ => ?_)
  · skip
    refine w_gFc (ji := 17) rfl (congrArg Prod.fst (kl_126 iM)) (show mG M 126 17 = 143 from rd_Model_17 iM (a := 126) rfl) ?_
    refine w_aG (kl_143 iM) (by omega) (by omega) (fun a44 ha44 => ?_)
    have ra44 : 0 ≤ a44 ∧ a44 ≤ 3 := ha44.tr (P := fun z => 0 ≤ z ∧ z ≤ 3) (rd_Mone iM rfl)
    refine w_gK (congrArg Prod.fst (kl_126 iM)) ?_
    refine w_call (s_X9_findJoined ⟨by omega, by omega⟩ p_NP iM) ?_
    intro v45 m45 pp45
    obtain ⟨im45, kk45, -⟩ := pp45
    try dsimp only
    replace im45 : I n m45 := im45
    replace kk45 : Keep n W_X9_findJoined M m45 := kk45
    have km45 : Keep n W_X9_leaf Me m45 := kM.tr kk45 (fun b j z => by unfold W_X9_findJoined at z; exact (Or.inl ⟨by omega, by omega⟩))
    have ppNP_m45 : NP m45 := (NP_of p_NP (fun j => kk45.2.2 152 j (by omega) (fun z => by unfold W_X9_findJoined at z; (try unfold isWS at z); (try unfold isShape at z); (try unfold isTold at z); (try dsimp only at z); omega)))
    exact s_X9_leaf_48 ⟨by omega, by omega⟩ ⟨by omega, by omega⟩ ⟨by omega, by omega⟩ ppNP_m45 im45 km45
  · skip
    exact s_X9_leaf_48 ⟨by omega, by omega⟩ ⟨by omega, by omega⟩ ⟨by omega, by omega⟩ p_NP iM kM
theorem s_X9_leaf_30 {n : Nat} {Me : Mem} {l1 l2 : Int} {M : Mem} (r_l1 : (-2147483648) ≤ l1 ∧ l1 ≤ 2147483647) (r_l2 : 0 ≤ l2 ∧ l2 ≤ 12) (p_NP : NP M) (iM : I n M) (kM : Keep n W_X9_leaf Me M) : wp (mX9_leaf_30 126 l1 l2 M) (fun q => I n q.2 ∧ Keep n W_X9_leaf Me q.2 ∧ True) := by
  have hn : (169 : Int) ≤ (n : Int) := by have := iM.2.2.2.2.1; omega
  unfold mX9_leaf_30
  exact s_X9_leaf_31 ⟨by omega, by omega⟩ ⟨by omega, by omega⟩ ⟨by omega, by omega⟩ p_NP iM kM
theorem s_X9_leaf {n : Nat} {l1 : Int} {M : Mem} (r_l1 : (-2147483648) ≤ l1 ∧ l1 ≤ 2147483647) (p_NP : NP M) (iM : I n M) : wp (mX9_leaf 126 l1 M) (fun q => I n q.2 ∧ Keep n W_X9_leaf M q.2 ∧ True) := by
  have hn : (169 : Int) ≤ (n : Int) := by have := iM.2.2.2.2.1; omega
  have kM : Keep n W_X9_leaf M M := Keep.rf
  unfold mX9_leaf
  refine w_gFc (ji := 16) rfl (congrArg Prod.fst (kl_126 iM)) (show mG M 126 16 = 142 from rd_Model_16 iM (a := 126) rfl) ?_
  refine w_aG (kl_142 iM) (by omega) (by omega) (fun a5 ha5 => ?_)
  have ra5 : 0 ≤ a5 ∧ a5 ≤ 12 := ha5.tr (P := fun z => 0 ≤ z ∧ z ≤ 12) (rd_Mact iM rfl)
  refine w_if (fun c1_ => ?_) (fun c1_ => ?_)
  · skip
    refine w_gFc (ji := 17) rfl (congrArg Prod.fst (kl_126 iM)) (show mG M 126 17 = 143 from rd_Model_17 iM (a := 126) rfl) ?_
    refine w_aG (kl_143 iM) (by omega) (by omega) (fun a19 ha19 => ?_)
    have ra19 : 0 ≤ a19 ∧ a19 ≤ 3 := ha19.tr (P := fun z => 0 ≤ z ∧ z ≤ 3) (rd_Mone iM rfl)
    refine w_gK (congrArg Prod.fst (kl_126 iM)) ?_
    refine w_call (s_X9_isTree ⟨by omega, by omega⟩ p_NP iM) ?_
    intro v20 m20 pp20
    obtain ⟨im20, kk20, e20_0, -⟩ := pp20
    try dsimp only
    replace im20 : I n m20 := im20
    replace kk20 : Keep n W_X9_isTree M m20 := kk20
    have km20 : Keep n W_X9_leaf M m20 := kM.tr kk20 (fun b j z => by unfold W_X9_isTree at z; exact (Or.inl ⟨by omega, by omega⟩))
    replace e20_0 : 0 ≤ v20 ∧ v20 ≤ 1 := e20_0
    refine w_if (fun c2_ => ?_) (fun c2_ => ?_)
    · skip
      have ppNP_m20 : NP m20 := (NP_of p_NP (fun j => kk20.2.2 152 j (by omega) (fun z => by unfold W_X9_isTree at z; (try unfold isWS at z); (try unfold isShape at z); (try unfold isTold at z); (try dsimp only at z); omega)))
      exact s_X9_leaf_30 ⟨by omega, by omega⟩ ⟨by omega, by omega⟩ ppNP_m20 im20 km20
    · skip
      have ppNP_m20 : NP m20 := (NP_of p_NP (fun j => kk20.2.2 152 j (by omega) (fun z => by unfold W_X9_isTree at z; (try unfold isWS at z); (try unfold isShape at z); (try unfold isTold at z); (try dsimp only at z); omega)))
      exact s_X9_leaf_31 ⟨by omega, by omega⟩ ⟨by omega, by omega⟩ ⟨by omega, by omega⟩ ppNP_m20 im20 km20
  · skip
    exact s_X9_leaf_30 ⟨by omega, by omega⟩ ⟨by omega, by omega⟩ p_NP iM kM
def W_X9_work (b j : Int) : Prop := (160 ≤ b ∧ b ≤ 161) ∨ (b = 126 ∧ j = 46)
theorem s_X9_work {n : Nat} {l1 l2 : Int} {M : Mem} (r_l1 : (-2147483648) ≤ l1 ∧ l1 ≤ 2147483647) (r_l2 : (-2147483648) ≤ l2 ∧ l2 ≤ 2147483647) (p_NP : NP M) (iM : I n M) : wp (mX9_work 126 l1 l2 M) (fun q => I n q.2 ∧ Keep n W_X9_work M q.2 ∧ True) := sorry
def W_X9_means (b j : Int) : Prop := (160 ≤ b ∧ b ≤ 161) ∨ (b = 126 ∧ j = 46)
theorem s_X9_means {n : Nat} {l1 : Int} {M : Mem} (r_l1 : (-2147483648) ≤ l1 ∧ l1 ≤ 2147483647) (p_NP : NP M) (iM : I n M) : wp (mX9_means 126 l1 M) (fun q => I n q.2 ∧ Keep n W_X9_means M q.2 ∧ (0 ≤ q.1 ∧ q.1 ≤ 1) ∧ True) := by
  have hn : (169 : Int) ≤ (n : Int) := by have := iM.2.2.2.2.1; omega
  have kM : Keep n W_X9_means M M := Keep.rf
  unfold mX9_means
  refine w_gK (congrArg Prod.fst (kl_126 iM)) ?_
  refine w_call (s_X9_work ⟨by omega, by omega⟩ ⟨by omega, by omega⟩ p_NP iM) ?_
  intro v3 m3 pp3
  obtain ⟨im3, kk3, -⟩ := pp3
  try dsimp only
  replace im3 : I n m3 := im3
  replace kk3 : Keep n W_X9_work M m3 := kk3
  have km3 : Keep n W_X9_means M m3 := kM.tr kk3 (fun b j z => Or.elim z (fun z => (Or.inl z)) (fun z => (Or.inr z)))
  refine w_gFc (ji := 45) rfl (congrArg Prod.fst (kl_126 im3)) (show mG m3 126 45 = 160 from rd_Model_45 im3 (a := 126) rfl) ?_
  refine w_aG (kl_160 im3) (by decide) (by decide) (fun a11 ha11 => ?_)
  have ra11 : 0 ≤ a11 ∧ a11 ≤ 1 := ha11.tr (P := fun z => 0 ≤ z ∧ z ≤ 1) (rd_Mready im3 rfl)
  refine w_zR (by omega) (fun z hz => ?_)
  exact w_ret ⟨im3, km3, (show 0 ≤ z ∧ z ≤ 1 from ⟨by omega, by omega⟩), trivial⟩
def W_X9_so (b j : Int) : Prop := (152 ≤ b ∧ b ≤ 154) ∨ (160 ≤ b ∧ b ≤ 161) ∨ (b = 126 ∧ j = 0) ∨ (b = 126 ∧ j = 46)
theorem s_X9_so_53 {n : Nat} {Me : Mem} {l2 : Int} {M : Mem} (r_l2 : (-2147483648) ≤ l2 ∧ l2 ≤ 2147483647) (iM : I n M) (kM : Keep n W_X9_so Me M) : wp (mX9_so_53 126 l2 M) (fun q => I n q.2 ∧ Keep n W_X9_so Me q.2 ∧ ((-1) ≤ q.1 ∧ q.1 ≤ 1) ∧ True) := by
  have hn : (169 : Int) ≤ (n : Int) := by have := iM.2.2.2.2.1; omega
  unfold mX9_so_53
  refine w_gK (congrArg Prod.fst (kl_126 iM)) ?_
  refine w_call (s_X9_bringWorld iM) ?_
  intro v54 m54 pp54
  obtain ⟨im54, kk54, e54_0, -⟩ := pp54
  try dsimp only
  replace im54 : I n m54 := im54
  replace kk54 : Keep n W_X9_bringWorld M m54 := kk54
  have km54 : Keep n W_X9_so Me m54 := kM.tr kk54 (fun b j z => by unfold W_X9_bringWorld at z; exact (Or.inl z))
  replace e54_0 : NP m54 := e54_0
  have gNP_m54 := e54_0
  refine w_gK (congrArg Prod.fst (kl_126 im54)) ?_
  refine w_call (s_X9_means ⟨by omega, by omega⟩ gNP_m54 im54) ?_
  intro v59 m59 pp59
  obtain ⟨im59, kk59, e59_0, -⟩ := pp59
  try dsimp only
  replace im59 : I n m59 := im59
  replace kk59 : Keep n W_X9_means m54 m59 := kk59
  have km59 : Keep n W_X9_so Me m59 := km54.tr kk59 (fun b j z => Or.elim z (fun z => (Or.inr (Or.inl z))) (fun z => (Or.inr (Or.inr (Or.inr z)))))
  replace e59_0 : 0 ≤ v59 ∧ v59 ≤ 1 := e59_0
  refine w_if (fun c1_ => ?_) (fun c1_ => ?_)
  · skip
    exact w_ret ⟨im59, km59, (show (-1) ≤ 0 ∧ 0 ≤ 1 from ⟨by omega, by omega⟩), trivial⟩
  · skip
    exact w_ret ⟨im59, km59, (show (-1) ≤ 1 ∧ 1 ≤ 1 from ⟨by omega, by omega⟩), trivial⟩
theorem s_X9_so_16 {n : Nat} {Me : Mem} {l1 s0 : Int} {M : Mem} (r_l1 : (-2147483648) ≤ l1 ∧ l1 ≤ 2147483647) (r_s0 : (-2147483648) ≤ s0 ∧ s0 ≤ 2147483647) (iM : I n M) (kM : Keep n W_X9_so Me M) : wp (mX9_so_16 126 l1 s0 M) (fun q => I n q.2 ∧ Keep n W_X9_so Me q.2 ∧ ((-1) ≤ q.1 ∧ q.1 ≤ 1) ∧ True) := by
  have hn : (169 : Int) ≤ (n : Int) := by have := iM.2.2.2.2.1; omega
  unfold mX9_so_16
  refine w_if (fun c1_ => ?_) (fun c1_ => ?_)
  · skip
    refine w_gFc (ji := 15) rfl (congrArg Prod.fst (kl_126 iM)) (show mG M 126 15 = 141 from rd_Model_15 iM (a := 126) rfl) ?_
    refine w_aG (kl_141 iM) (by decide) (by decide) (fun a28 ha28 => ?_)
    have ra28 : 0 ≤ a28 ∧ a28 ≤ 40 := ha28.tr (P := fun z => 0 ≤ z ∧ z ≤ 40) (rd_Mparts iM rfl)
    refine w_if (fun c2_ => ?_) (fun c2_ => ?_)
    · skip
      exact w_ret ⟨iM, kM, (show (-1) ≤ (-1) ∧ (-1) ≤ 1 from ⟨by omega, by omega⟩), trivial⟩
    · skip
      exact s_X9_so_53 ⟨by omega, by omega⟩ iM kM
  · skip
    refine w_gFc (ji := 12) rfl (congrArg Prod.fst (kl_126 iM)) (show mG M 126 12 = 138 from rd_Model_12 iM (a := 126) rfl) ?_
    refine w_aG (kl_138 iM) (by decide) (by decide) (fun a42 ha42 => ?_)
    have ra42 : 0 ≤ a42 ∧ a42 ≤ 8 := ha42.tr (P := fun z => 0 ≤ z ∧ z ≤ 8) (rd_Mstories iM rfl)
    have w3_ := wI_id (x := (a42 - 1)) (by omega) (by omega)
    refine w_call (s_X9_in ⟨by omega, by omega⟩ ⟨by omega, by omega⟩ ⟨by omega, by omega⟩ iM) ?_
    intro v45 m45 pp45
    obtain ⟨im45, kk45, e45_0, e45_1, -⟩ := pp45
    try dsimp only
    replace im45 : I n m45 := im45
    replace kk45 : Keep n W_X9_in M m45 := kk45
    have km45 : Keep n W_X9_so Me m45 := kM.tr kk45 (fun b j z => z.elim)
    replace e45_0 : 0 ≤ v45 ∧ v45 ≤ 1 := e45_0
    replace e45_1 : v45 = 1 → 0 ≤ l1 ∧ l1 ≤ (wI (a42 - 1)) := e45_1
    refine w_if (fun c4_ => ?_) (fun c4_ => ?_)
    · skip
      exact w_ret ⟨im45, km45, (show (-1) ≤ (-1) ∧ (-1) ≤ 1 from ⟨by omega, by omega⟩), trivial⟩
    · skip
      exact s_X9_so_53 ⟨by omega, by omega⟩ im45 km45
theorem s_X9_so {n : Nat} {l1 : Int} {M : Mem} (r_l1 : (-2147483648) ≤ l1 ∧ l1 ≤ 2147483647) (iM : I n M) : wp (mX9_so 126 l1 M) (fun q => I n q.2 ∧ Keep n W_X9_so M q.2 ∧ ((-1) ≤ q.1 ∧ q.1 ≤ 1) ∧ True) := by
  have hn : (169 : Int) ≤ (n : Int) := by have := iM.2.2.2.2.1; omega
  have kM : Keep n W_X9_so M M := Keep.rf
  unfold mX9_so
  refine w_pF (ji := 0) rfl (congrArg Prod.fst (kl_126 iM)) (fun M2 hM2 => ?_)
  replace hM2 : M2 = mS M 126 0 0 := hM2
  have iM2 : I n M2 := wr_Model_0 iM rfl ⟨by omega, by omega⟩ hM2
  have kM2 : Keep n W_X9_so M M2 := kM.st hM2 (Or.inl (Or.inr (Or.inr (Or.inl ⟨rfl, rfl⟩))))
  refine w_if (fun c1_ => ?_) (fun c1_ => ?_)
  · skip
    exact s_X9_so_16 ⟨by omega, by omega⟩ ⟨by omega, by omega⟩ iM2 kM2
  · skip
    exact s_X9_so_16 ⟨by omega, by omega⟩ ⟨by omega, by omega⟩ iM2 kM2
def W_X9_breaks (b j : Int) : Prop := (152 ≤ b ∧ b ≤ 154) ∨ (160 ≤ b ∧ b ≤ 161) ∨ (b = 126 ∧ j = 0) ∨ (b = 126 ∧ j = 46)
theorem s_X9_breaks {n : Nat} {l1 l2 : Int} {M : Mem} (r_l1 : (-2147483648) ≤ l1 ∧ l1 ≤ 2147483647) (r_l2 : (-2147483648) ≤ l2 ∧ l2 ≤ 2147483647) (iM : I n M) : wp (mX9_breaks 126 l1 l2 M) (fun q => I n q.2 ∧ Keep n W_X9_breaks M q.2 ∧ ((-1) ≤ q.1 ∧ q.1 ≤ 2) ∧ True) := sorry
def W_X9_told (b j : Int) : Prop := False
theorem s_X9_told_78 {n : Nat} {Me : Mem} {k30 : Int → Int → Int → Int → Mem → Option (Int × Mem)} {fu30 : Nat} (hk30 : ∀ (l1 l2 l3 : Int) (M : Mem), (0 ≤ l1 ∧ l1 ≤ 999) → (0 ≤ l2 ∧ l2 ≤ 4095) → (0 ≤ l3 ∧ l3 ≤ 8) → 9 - l3 < (fu30 : Int) → I n M → Keep n W_X9_told Me M → wp (k30 126 l1 l2 l3 M) (fun q => I n q.2 ∧ Keep n W_X9_told Me q.2 ∧ (0 ≤ q.1 ∧ q.1 ≤ 4095) ∧ True)) {l1 l3 s0 s1 : Int} {M : Mem} (r_l1 : 0 ≤ l1 ∧ l1 ≤ 999) (r_l3 : 0 ≤ l3 ∧ l3 ≤ 7) (r_s0 : 0 ≤ s0 ∧ s0 ≤ 4095) (r_s1 : 0 ≤ s1 ∧ s1 ≤ 128) (hf30 : 9 - l3 < (fu30 : Int) + 1) (iM : I n M) (kM : Keep n W_X9_told Me M) : wp (mX9_told_78 k30 126 l1 l3 s0 s1 M) (fun q => I n q.2 ∧ Keep n W_X9_told Me q.2 ∧ (0 ≤ q.1 ∧ q.1 ≤ 4095) ∧ True) := by
  have hn : (169 : Int) ≤ (n : Int) := by have := iM.2.2.2.2.1; omega
  unfold mX9_told_78
  have w1_ := ior_b (x := s0) (y := s1) (k := 12) (by decide) (by omega) (by omega) (by omega) (by omega)
  have w2_ := wI_id (x := (l3 + 1)) (by omega) (by omega)
  exact hk30 _ _ _ _ ⟨by omega, by omega⟩ ⟨by omega, by omega⟩ ⟨by omega, by omega⟩ (by omega) iM kM
theorem s_X9_told_77 {n : Nat} {Me : Mem} {k30 : Int → Int → Int → Int → Mem → Option (Int × Mem)} {fu30 : Nat} (hk30 : ∀ (l1 l2 l3 : Int) (M : Mem), (0 ≤ l1 ∧ l1 ≤ 999) → (0 ≤ l2 ∧ l2 ≤ 4095) → (0 ≤ l3 ∧ l3 ≤ 8) → 9 - l3 < (fu30 : Int) → I n M → Keep n W_X9_told Me M → wp (k30 126 l1 l2 l3 M) (fun q => I n q.2 ∧ Keep n W_X9_told Me q.2 ∧ (0 ≤ q.1 ∧ q.1 ≤ 4095) ∧ True)) {l1 l3 s0 : Int} {M : Mem} (r_l1 : 0 ≤ l1 ∧ l1 ≤ 999) (r_l3 : 0 ≤ l3 ∧ l3 ≤ 7) (r_s0 : 0 ≤ s0 ∧ s0 ≤ 4095) (hf30 : 9 - l3 < (fu30 : Int) + 1) (iM : I n M) (kM : Keep n W_X9_told Me M) : wp (mX9_told_77 k30 126 l1 l3 s0 M) (fun q => I n q.2 ∧ Keep n W_X9_told Me q.2 ∧ (0 ≤ q.1 ∧ q.1 ≤ 4095) ∧ True) := by
  have hn : (169 : Int) ≤ (n : Int) := by have := iM.2.2.2.2.1; omega
  unfold mX9_told_77
  exact s_X9_told_78 hk30 ⟨by omega, by omega⟩ ⟨by omega, by omega⟩ ⟨by omega, by omega⟩ ⟨by omega, by omega⟩ (by omega) iM kM
theorem s_X9_told_71 {n : Nat} {Me : Mem} {k30 : Int → Int → Int → Int → Mem → Option (Int × Mem)} {fu30 : Nat} (hk30 : ∀ (l1 l2 l3 : Int) (M : Mem), (0 ≤ l1 ∧ l1 ≤ 999) → (0 ≤ l2 ∧ l2 ≤ 4095) → (0 ≤ l3 ∧ l3 ≤ 8) → 9 - l3 < (fu30 : Int) → I n M → Keep n W_X9_told Me M → wp (k30 126 l1 l2 l3 M) (fun q => I n q.2 ∧ Keep n W_X9_told Me q.2 ∧ (0 ≤ q.1 ∧ q.1 ≤ 4095) ∧ True)) {l1 l3 s0 : Int} {M : Mem} (r_l1 : 0 ≤ l1 ∧ l1 ≤ 999) (r_l3 : 0 ≤ l3 ∧ l3 ≤ 7) (r_s0 : 0 ≤ s0 ∧ s0 ≤ 4095) (hf30 : 9 - l3 < (fu30 : Int) + 1) (iM : I n M) (kM : Keep n W_X9_told Me M) : wp (mX9_told_71 k30 126 l1 l3 s0 M) (fun q => I n q.2 ∧ Keep n W_X9_told Me q.2 ∧ (0 ≤ q.1 ∧ q.1 ≤ 4095) ∧ True) := by
  have hn : (169 : Int) ≤ (n : Int) := by have := iM.2.2.2.2.1; omega
  unfold mX9_told_71
  have w1_ := ishl1_b (k := l3) (B := 7) (by omega) (by omega) (by decide)
  exact s_X9_told_78 hk30 ⟨by omega, by omega⟩ ⟨by omega, by omega⟩ ⟨by omega, by omega⟩ ⟨by omega, by omega⟩ (by omega) iM kM
theorem sb_X9_told_30 {n : Nat} {Me : Mem} {k30 : Int → Int → Int → Int → Mem → Option (Int × Mem)} {fu30 : Nat} (hk30 : ∀ (l1 l2 l3 : Int) (M : Mem), (0 ≤ l1 ∧ l1 ≤ 999) → (0 ≤ l2 ∧ l2 ≤ 4095) → (0 ≤ l3 ∧ l3 ≤ 8) → 9 - l3 < (fu30 : Int) → I n M → Keep n W_X9_told Me M → wp (k30 126 l1 l2 l3 M) (fun q => I n q.2 ∧ Keep n W_X9_told Me q.2 ∧ (0 ≤ q.1 ∧ q.1 ≤ 4095) ∧ True)) {l1 l2 l3 : Int} {M : Mem} (r_l1 : 0 ≤ l1 ∧ l1 ≤ 999) (r_l2 : 0 ≤ l2 ∧ l2 ≤ 4095) (r_l3 : 0 ≤ l3 ∧ l3 ≤ 8) (hf30 : 9 - l3 < (fu30 : Int) + 1) (iM : I n M) (kM : Keep n W_X9_told Me M) : wp (bX9_told_30 k30 126 l1 l2 l3 M) (fun q => I n q.2 ∧ Keep n W_X9_told Me q.2 ∧ (0 ≤ q.1 ∧ q.1 ≤ 4095) ∧ True) := by
  have hn : (169 : Int) ≤ (n : Int) := by have := iM.2.2.2.2.1; omega
  unfold bX9_told_30
  refine w_gFc (ji := 12) rfl (congrArg Prod.fst (kl_126 iM)) (show mG M 126 12 = 138 from rd_Model_12 iM (a := 126) rfl) ?_
  refine w_aG (kl_138 iM) (by decide) (by decide) (fun a36 ha36 => ?_)
  have ra36 : 0 ≤ a36 ∧ a36 ≤ 8 := ha36.tr (P := fun z => 0 ≤ z ∧ z ≤ 8) (rd_Mstories iM rfl)
  refine w_if (fun c1_ => ?_) (fun c1_ => ?_)
  · skip
    exact w_ret ⟨iM, kM, (show 0 ≤ l2 ∧ l2 ≤ 4095 from ⟨by omega, by omega⟩), trivial⟩
  · skip
    refine w_gFc (ji := 13) rfl (congrArg Prod.fst (kl_126 iM)) (show mG M 126 13 = 139 from rd_Model_13 iM (a := 126) rfl) ?_
    refine w_aG (kl_139 iM) (by omega) (by omega) (fun a46 ha46 => ?_)
    have ra46 : 0 ≤ a46 ∧ a46 ≤ 999 := ha46.tr (P := fun z => 0 ≤ z ∧ z ≤ 999) (rd_MstoryDay iM rfl)
    refine w_if (fun c2_ => ?_) (fun c2_ => ?_)
    · skip
      exact s_X9_told_77 hk30 ⟨by omega, by omega⟩ ⟨by omega, by omega⟩ ⟨by omega, by omega⟩ (by omega) iM kM
    · skip
      refine w_gFc (ji := 14) rfl (congrArg Prod.fst (kl_126 iM)) (show mG M 126 14 = 140 from rd_Model_14 iM (a := 126) rfl) ?_
      refine w_aG (kl_140 iM) (by omega) (by omega) (fun a56 ha56 => ?_)
      have ra56 : (-1) ≤ a56 ∧ a56 ≤ 999 := ha56.tr (P := fun z => (-1) ≤ z ∧ z ≤ 999) (rd_MstruckDay iM rfl)
      refine w_if (fun c3_ => ?_) (fun c3_ => ?_)
      · skip
        exact s_X9_told_71 hk30 ⟨by omega, by omega⟩ ⟨by omega, by omega⟩ ⟨by omega, by omega⟩ (by omega) iM kM
      · skip
        refine w_gFc (ji := 14) rfl (congrArg Prod.fst (kl_126 iM)) (show mG M 126 14 = 140 from rd_Model_14 iM (a := 126) rfl) ?_
        refine w_aGc (kl_140 iM) (by omega) (by omega) (show mG M 140 l3 = a56 from (show mG M 140 l3 = a56 from ha56)) ?_
        refine w_if (fun c4_ => ?_) (fun c4_ => ?_)
        · skip
          exact s_X9_told_77 hk30 ⟨by omega, by omega⟩ ⟨by omega, by omega⟩ ⟨by omega, by omega⟩ (by omega) iM kM
        · skip
          exact s_X9_told_71 hk30 ⟨by omega, by omega⟩ ⟨by omega, by omega⟩ ⟨by omega, by omega⟩ (by omega) iM kM
theorem s_X9_told_30 {n : Nat} {Me : Mem} : ∀ (fu : Nat) (l1 l2 l3 : Int) (M : Mem), (0 ≤ l1 ∧ l1 ≤ 999) → (0 ≤ l2 ∧ l2 ≤ 4095) → (0 ≤ l3 ∧ l3 ≤ 8) → 9 - l3 < (fu : Int) → I n M → Keep n W_X9_told Me M → wp (mX9_told_30 fu 126 l1 l2 l3 M) (fun q => I n q.2 ∧ Keep n W_X9_told Me q.2 ∧ (0 ≤ q.1 ∧ q.1 ≤ 4095) ∧ True) := by
  intro fu
  induction fu with
  | zero =>
    intro l1 l2 l3 M r_l1 r_l2 r_l3 hf iM kM
    exfalso
    omega
  | succ fu ih =>
    intro l1 l2 l3 M r_l1 r_l2 r_l3 hf iM kM
    exact sb_X9_told_30 ih r_l1 r_l2 r_l3 (by have e : ((fu + 1 : Nat) : Int) = (fu : Int) + 1 := rfl; rw [e] at hf; exact hf) iM kM
theorem s_X9_told_25 {n : Nat} {Me : Mem} {s0 : Int} {M : Mem} (r_s0 : 0 ≤ s0 ∧ s0 ≤ 999) (iM : I n M) (kM : Keep n W_X9_told Me M) : wp (mX9_told_25 126 s0 M) (fun q => I n q.2 ∧ Keep n W_X9_told Me q.2 ∧ (0 ≤ q.1 ∧ q.1 ≤ 4095) ∧ True) := by
  have hn : (169 : Int) ≤ (n : Int) := by have := iM.2.2.2.2.1; omega
  unfold mX9_told_25
  exact s_X9_told_30 FU _ _ _ _ ⟨by omega, by omega⟩ ⟨by omega, by omega⟩ ⟨by omega, by omega⟩ (by show _ < (70000 : Int); omega) iM kM
theorem s_X9_told {n : Nat} {M : Mem} (iM : I n M) : wp (mX9_told 126 M) (fun q => I n q.2 ∧ Keep n W_X9_told M q.2 ∧ (0 ≤ q.1 ∧ q.1 ≤ 4095) ∧ True) := by
  have hn : (169 : Int) ≤ (n : Int) := by have := iM.2.2.2.2.1; omega
  have kM : Keep n W_X9_told M M := Keep.rf
  unfold mX9_told
  refine w_gFc (ji := 6) rfl (congrArg Prod.fst (kl_126 iM)) (show mG M 126 6 = 132 from rd_Model_6 iM (a := 126) rfl) ?_
  refine w_aG (kl_132 iM) (by decide) (by decide) (fun a5 ha5 => ?_)
  have ra5 : (-1) ≤ a5 ∧ a5 ≤ 999 := ha5.tr (P := fun z => (-1) ≤ z ∧ z ≤ 999) (rd_Mviewed iM rfl)
  refine w_if (fun c1_ => ?_) (fun c1_ => ?_)
  · skip
    refine w_gFc (ji := 5) rfl (congrArg Prod.fst (kl_126 iM)) (show mG M 126 5 = 131 from rd_Model_5 iM (a := 126) rfl) ?_
    refine w_aG (kl_131 iM) (by decide) (by decide) (fun a15 ha15 => ?_)
    have ra15 : 0 ≤ a15 ∧ a15 ≤ 999 := ha15.tr (P := fun z => 0 ≤ z ∧ z ≤ 999) (rd_Mdays iM rfl)
    exact s_X9_told_25 ⟨by omega, by omega⟩ iM kM
  · skip
    refine w_gFc (ji := 6) rfl (congrArg Prod.fst (kl_126 iM)) (show mG M 126 6 = 132 from rd_Model_6 iM (a := 126) rfl) ?_
    refine w_aGc (kl_132 iM) (by omega) (by omega) (show mG M 132 0 = a5 from (show mG M 132 0 = a5 from ha5)) ?_
    exact s_X9_told_25 ⟨by omega, by omega⟩ iM kM
def W_X9_findKnown (b j : Int) : Prop := (b = 126 ∧ j = 49) ∨ (b = 126 ∧ j = 50)
theorem s_X9_findKnown_163 {n : Nat} {Me : Mem} {k43 : Int → Int → Int → Int → Mem → Option (Int × Mem)} {fu43 : Nat} (hk43 : ∀ (l1 l2 l3 : Int) (M : Mem), (0 ≤ l1 ∧ l1 ≤ 999) → (0 ≤ l2 ∧ l2 ≤ 12) → (0 ≤ l3 ∧ l3 ≤ 40) → (F12 M) → (NP M) → 41 - l3 < (fu43 : Int) → I n M → Keep n W_X9_findKnown Me M → wp (k43 126 l1 l2 l3 M) (fun q => I n q.2 ∧ Keep n W_X9_findKnown Me q.2 ∧ True)) {l1 l2 l3 : Int} {M : Mem} (r_l1 : 0 ≤ l1 ∧ l1 ≤ 999) (r_l2 : 0 ≤ l2 ∧ l2 ≤ 12) (r_l3 : 0 ≤ l3 ∧ l3 ≤ 39) (p_F12 : F12 M) (p_NP : NP M) (hf43 : 41 - l3 < (fu43 : Int) + 1) (iM : I n M) (kM : Keep n W_X9_findKnown Me M) : wp (mX9_findKnown_163 k43 126 l1 l2 l3 M) (fun q => I n q.2 ∧ Keep n W_X9_findKnown Me q.2 ∧ True) := by
  have hn : (169 : Int) ≤ (n : Int) := by have := iM.2.2.2.2.1; omega
  unfold mX9_findKnown_163
  have w1_ := wI_id (x := (l3 + 1)) (by omega) (by omega)
  exact hk43 _ _ _ _ ⟨by omega, by omega⟩ ⟨by omega, by omega⟩ ⟨by omega, by omega⟩ p_F12 p_NP (by omega) iM kM
theorem s_X9_findKnown_160 {n : Nat} {Me : Mem} {k43 : Int → Int → Int → Int → Mem → Option (Int × Mem)} {fu43 : Nat} (hk43 : ∀ (l1 l2 l3 : Int) (M : Mem), (0 ≤ l1 ∧ l1 ≤ 999) → (0 ≤ l2 ∧ l2 ≤ 12) → (0 ≤ l3 ∧ l3 ≤ 40) → (F12 M) → (NP M) → 41 - l3 < (fu43 : Int) → I n M → Keep n W_X9_findKnown Me M → wp (k43 126 l1 l2 l3 M) (fun q => I n q.2 ∧ Keep n W_X9_findKnown Me q.2 ∧ True)) {l1 l2 l3 s1 : Int} {M : Mem} (r_l1 : 0 ≤ l1 ∧ l1 ≤ 999) (r_l2 : 0 ≤ l2 ∧ l2 ≤ 12) (r_l3 : 0 ≤ l3 ∧ l3 ≤ 39) (r_s1 : (-2147483648) ≤ s1 ∧ s1 ≤ 2147483647) (p_F12 : F12 M) (p_NP : NP M) (hf43 : 41 - l3 < (fu43 : Int) + 1) (iM : I n M) (kM : Keep n W_X9_findKnown Me M) : wp (mX9_findKnown_160 k43 126 l1 l2 l3 126 s1 M) (fun q => I n q.2 ∧ Keep n W_X9_findKnown Me q.2 ∧ True) := by
  have hn : (169 : Int) ≤ (n : Int) := by have := iM.2.2.2.2.1; omega
  unfold mX9_findKnown_160
  refine w_pF (ji := 50) rfl (congrArg Prod.fst (kl_126 iM)) (fun M160 hM160 => ?_)
  replace hM160 : M160 = mS M 126 50 s1 := hM160
  have iM160 : I n M160 := wr_Model_50 iM rfl ⟨by omega, by omega⟩ hM160
  have kM160 : Keep n W_X9_findKnown Me M160 := kM.st hM160 (Or.inl (Or.inr ⟨rfl, rfl⟩))
  have ppF12_M160 : F12 M160 := (F12_of p_F12 (fun j => st_ne hM160 (fun z => ne_fam rfl rfl (by decide) z.1)) (fun j => st_ne hM160 (fun z => ne_fam rfl rfl (by decide) z.1)))
  have ppNP_M160 : NP M160 := (NP_of p_NP (fun j => st_ne hM160 (fun z => ne_fam rfl rfl (by decide) z.1)))
  exact s_X9_findKnown_163 hk43 ⟨by omega, by omega⟩ ⟨by omega, by omega⟩ ⟨by omega, by omega⟩ ppF12_M160 ppNP_M160 (by omega) iM160 kM160
theorem sb_X9_findKnown_43 {n : Nat} {Me : Mem} {k43 : Int → Int → Int → Int → Mem → Option (Int × Mem)} {fu43 : Nat} (hk43 : ∀ (l1 l2 l3 : Int) (M : Mem), (0 ≤ l1 ∧ l1 ≤ 999) → (0 ≤ l2 ∧ l2 ≤ 12) → (0 ≤ l3 ∧ l3 ≤ 40) → (F12 M) → (NP M) → 41 - l3 < (fu43 : Int) → I n M → Keep n W_X9_findKnown Me M → wp (k43 126 l1 l2 l3 M) (fun q => I n q.2 ∧ Keep n W_X9_findKnown Me q.2 ∧ True)) {l1 l2 l3 : Int} {M : Mem} (r_l1 : 0 ≤ l1 ∧ l1 ≤ 999) (r_l2 : 0 ≤ l2 ∧ l2 ≤ 12) (r_l3 : 0 ≤ l3 ∧ l3 ≤ 40) (p_F12 : F12 M) (p_NP : NP M) (hf43 : 41 - l3 < (fu43 : Int) + 1) (iM : I n M) (kM : Keep n W_X9_findKnown Me M) : wp (bX9_findKnown_43 k43 126 l1 l2 l3 M) (fun q => I n q.2 ∧ Keep n W_X9_findKnown Me q.2 ∧ True) := by
  have hn : (169 : Int) ≤ (n : Int) := by have := iM.2.2.2.2.1; omega
  unfold bX9_findKnown_43
  refine w_gFc (ji := 20) rfl (congrArg Prod.fst (kl_126 iM)) (show mG M 126 20 = 146 from rd_Model_20 iM (a := 126) rfl) ?_
  refine w_aG (kl_146 iM) (by decide) (by decide) (fun a49 ha49 => ?_)
  have ra49 : 0 ≤ a49 ∧ a49 ≤ 40 := ha49.tr (P := fun z => 0 ≤ z ∧ z ≤ 40) (rd_Mknowns iM rfl)
  refine w_if (fun c1_ => ?_) (fun c1_ => ?_)
  · skip
    exact w_ret ⟨iM, kM, trivial⟩
  · skip
    refine w_gFc (ji := 21) rfl (congrArg Prod.fst (kl_126 iM)) (show mG M 126 21 = 147 from rd_Model_21 iM (a := 126) rfl) ?_
    refine w_aG (kl_147 iM) (by omega) (by omega) (fun a58 ha58 => ?_)
    have ra58 : 0 ≤ a58 ∧ a58 ≤ 35 := ha58.tr (P := fun z => 0 ≤ z ∧ z ≤ 35) (rd_MknownOf iM rfl)
    refine w_dQ (by omega) (fun a61 ha61 => ?_)
    have ea61 : a61 = a58 / 9 := ha61.trans (idiv_e (by omega) (by omega) (by omega) (by omega))
    refine w_gFc (ji := 21) rfl (congrArg Prod.fst (kl_126 iM)) (show mG M 126 21 = 147 from rd_Model_21 iM (a := 126) rfl) ?_
    refine w_aGc (kl_147 iM) (by omega) (by omega) (show mG M 147 l3 = a58 from (show mG M 147 l3 = a58 from ha58)) ?_
    refine w_dQ (by omega) (fun a74 ha74 => ?_)
    have ea74 : a74 = a58 / 3 := ha74.trans (idiv_e (by omega) (by omega) (by omega) (by omega))
    refine w_dM (by omega) (fun a76 ha76 => ?_)
    have ea76 : a76 = a74 % 3 := ha76.trans (irem_e (by omega) (by omega) (by omega) (by omega))
    refine w_gFc (ji := 21) rfl (congrArg Prod.fst (kl_126 iM)) (show mG M 126 21 = 147 from rd_Model_21 iM (a := 126) rfl) ?_
    refine w_aGc (kl_147 iM) (by omega) (by omega) (show mG M 147 l3 = a58 from (show mG M 147 l3 = a58 from ha58)) ?_
    refine w_dM (by omega) (fun a84 ha84 => ?_)
    have ea84 : a84 = a58 % 3 := ha84.trans (irem_e (by omega) (by omega) (by omega) (by omega))
    refine w_gK (congrArg Prod.fst (kl_126 iM)) ?_
    refine w_call (s_X9_factAt ⟨by omega, by omega⟩ ⟨by omega, by omega⟩ ⟨by omega, by omega⟩ p_NP iM) ?_
    intro v85 m85 pp85
    obtain ⟨im85, kk85, e85_0, -⟩ := pp85
    try dsimp only
    replace im85 : I n m85 := im85
    replace kk85 : Keep n W_X9_factAt M m85 := kk85
    have km85 : Keep n W_X9_findKnown Me m85 := kM.tr kk85 (fun b j z => z.elim)
    replace e85_0 : (-1) ≤ v85 ∧ v85 ≤ 44 := e85_0
    refine w_if (fun c2_ => ?_) (fun c2_ => ?_)
    · skip
      have ppF12_m85 : F12 m85 := (F12_of p_F12 (fun j => kk85.2.2 153 j (by omega) (fun z => z)) (fun j => kk85.2.2 134 j (by omega) (fun z => z)))
      have ppNP_m85 : NP m85 := (NP_of p_NP (fun j => kk85.2.2 152 j (by omega) (fun z => z)))
      exact s_X9_findKnown_163 hk43 ⟨by omega, by omega⟩ ⟨by omega, by omega⟩ ⟨by omega, by omega⟩ ppF12_m85 ppNP_m85 (by omega) im85 km85
    · skip
      refine w_gFc (ji := 23) rfl (congrArg Prod.fst (kl_126 im85)) (show mG m85 126 23 = 149 from rd_Model_23 im85 (a := 126) rfl) ?_
      refine w_aG (kl_149 im85) (by omega) (by omega) (fun a101 ha101 => ?_)
      have ra101 : 0 ≤ a101 ∧ a101 ≤ 999 := ha101.tr (P := fun z => 0 ≤ z ∧ z ≤ 999) (rd_MknownDay im85 rfl)
      refine w_if (fun c3_ => ?_) (fun c3_ => ?_)
      · skip
        have w4_ := wI_id (x := (l2 - 1)) (by omega) (by omega)
        have w5_ := wI_id (x := ((wI (l2 - 1)) - v85)) (by omega) (by omega)
        have w6_ := ishl_in 1 (wI ((wI (l2 - 1)) - v85))
        refine w_some (fun b117 hb117 => ?_)
        replace hb117 : b117 = (ishl 1 (wI ((wI (l2 - 1)) - v85))) := hb117
        refine w_gF (ji := 49) rfl (congrArg Prod.fst (kl_126 im85)) (fun a121 ha121 => ?_)
        have ra121 : 0 ≤ a121 ∧ a121 ≤ 4095 := ha121.tr (P := fun z => 0 ≤ z ∧ z ≤ 4095) (rd_Model_49 im85 rfl)
        have w7_ := ior_in a121 b117
        refine w_pF (ji := 49) rfl (congrArg Prod.fst (kl_126 im85)) (fun M127 hM127 => ?_)
        replace hM127 : M127 = mS m85 126 49 (ior a121 b117) := hM127
        have iM127 : I n M127 := wr_Model_49 im85 rfl ⟨by omega, by omega⟩ hM127
        have kM127 : Keep n W_X9_findKnown Me M127 := km85.st hM127 (Or.inl (Or.inl ⟨rfl, rfl⟩))
        obtain ⟨svM127, esvM127⟩ : ∃ z, z = (ior a121 b117) := ⟨_, rfl⟩
        refine w_gFc (ji := 22) rfl (congrArg Prod.fst (kl_126 iM127)) (show mG M127 126 22 = 148 from rd_Model_22 iM127 (a := 126) rfl) ?_
        refine w_aG (kl_148 iM127) (by omega) (by omega) (fun a136 ha136 => ?_)
        have ra136 : 0 ≤ a136 ∧ a136 ≤ 1 := ha136.tr (P := fun z => 0 ≤ z ∧ z ≤ 1) (rd_MknownIs iM127 rfl)
        refine w_if (fun c8_ => ?_) (fun c8_ => ?_)
        · skip
          refine w_gF (ji := 50) rfl (congrArg Prod.fst (kl_126 iM127)) (fun a142 ha142 => ?_)
          have ra142 : 0 ≤ a142 ∧ a142 ≤ 4095 := ha142.tr (P := fun z => 0 ≤ z ∧ z ≤ 4095) (rd_Model_50 iM127 rfl)
          have w9_ := ior_in a142 b117
          have ppF12_M127 : F12 M127 := (F12_of (F12_of p_F12 (fun j => kk85.2.2 153 j (by omega) (fun z => z)) (fun j => kk85.2.2 134 j (by omega) (fun z => z))) (fun j => st_ne hM127 (fun z => ne_fam rfl rfl (by decide) z.1)) (fun j => st_ne hM127 (fun z => ne_fam rfl rfl (by decide) z.1)))
          have ppNP_M127 : NP M127 := (NP_of (NP_of p_NP (fun j => kk85.2.2 152 j (by omega) (fun z => z))) (fun j => st_ne hM127 (fun z => ne_fam rfl rfl (by decide) z.1)))
          exact s_X9_findKnown_160 hk43 ⟨by omega, by omega⟩ ⟨by omega, by omega⟩ ⟨by omega, by omega⟩ ⟨by omega, by omega⟩ ppF12_M127 ppNP_M127 (by omega) iM127 kM127
        · skip
          refine w_gF (ji := 50) rfl (congrArg Prod.fst (kl_126 iM127)) (fun a152 ha152 => ?_)
          have ra152 : 0 ≤ a152 ∧ a152 ≤ 4095 := ha152.tr (P := fun z => 0 ≤ z ∧ z ≤ 4095) (rd_Model_50 iM127 rfl)
          have w10_ := ixor_in b117 (-1)
          have w11_ := iand_l (x := a152) (y := (ixor b117 (-1))) (by omega) (by omega)
          have ppF12_M127 : F12 M127 := (F12_of (F12_of p_F12 (fun j => kk85.2.2 153 j (by omega) (fun z => z)) (fun j => kk85.2.2 134 j (by omega) (fun z => z))) (fun j => st_ne hM127 (fun z => ne_fam rfl rfl (by decide) z.1)) (fun j => st_ne hM127 (fun z => ne_fam rfl rfl (by decide) z.1)))
          have ppNP_M127 : NP M127 := (NP_of (NP_of p_NP (fun j => kk85.2.2 152 j (by omega) (fun z => z))) (fun j => st_ne hM127 (fun z => ne_fam rfl rfl (by decide) z.1)))
          exact s_X9_findKnown_160 hk43 ⟨by omega, by omega⟩ ⟨by omega, by omega⟩ ⟨by omega, by omega⟩ ⟨by omega, by omega⟩ ppF12_M127 ppNP_M127 (by omega) iM127 kM127
      · skip
        have ppF12_m85 : F12 m85 := (F12_of p_F12 (fun j => kk85.2.2 153 j (by omega) (fun z => z)) (fun j => kk85.2.2 134 j (by omega) (fun z => z)))
        have ppNP_m85 : NP m85 := (NP_of p_NP (fun j => kk85.2.2 152 j (by omega) (fun z => z)))
        exact s_X9_findKnown_163 hk43 ⟨by omega, by omega⟩ ⟨by omega, by omega⟩ ⟨by omega, by omega⟩ ppF12_m85 ppNP_m85 (by omega) im85 km85
theorem s_X9_findKnown_43 {n : Nat} {Me : Mem} : ∀ (fu : Nat) (l1 l2 l3 : Int) (M : Mem), (0 ≤ l1 ∧ l1 ≤ 999) → (0 ≤ l2 ∧ l2 ≤ 12) → (0 ≤ l3 ∧ l3 ≤ 40) → (F12 M) → (NP M) → 41 - l3 < (fu : Int) → I n M → Keep n W_X9_findKnown Me M → wp (mX9_findKnown_43 fu 126 l1 l2 l3 M) (fun q => I n q.2 ∧ Keep n W_X9_findKnown Me q.2 ∧ True) := by
  intro fu
  induction fu with
  | zero =>
    intro l1 l2 l3 M r_l1 r_l2 r_l3 p_F12 p_NP hf iM kM
    exfalso
    omega
  | succ fu ih =>
    intro l1 l2 l3 M r_l1 r_l2 r_l3 p_F12 p_NP hf iM kM
    exact sb_X9_findKnown_43 ih r_l1 r_l2 r_l3 p_F12 p_NP (by have e : ((fu + 1 : Nat) : Int) = (fu : Int) + 1 := rfl; rw [e] at hf; exact hf) iM kM
theorem s_X9_findKnown_25 {n : Nat} {Me : Mem} {s0 : Int} {M : Mem} (r_s0 : 0 ≤ s0 ∧ s0 ≤ 999) (p_F12 : F12 M) (p_NP : NP M) (iM : I n M) (kM : Keep n W_X9_findKnown Me M) : wp (mX9_findKnown_25 126 s0 M) (fun q => I n q.2 ∧ Keep n W_X9_findKnown Me q.2 ∧ True) := by
  have hn : (169 : Int) ≤ (n : Int) := by have := iM.2.2.2.2.1; omega
  unfold mX9_findKnown_25
  refine w_gK (congrArg Prod.fst (kl_126 iM)) ?_
  refine w_call (s_X9_manyFacts iM) ?_
  intro v27 m27 pp27
  obtain ⟨im27, kk27, e27_0, e27_1, -⟩ := pp27
  try dsimp only
  replace im27 : I n m27 := im27
  replace kk27 : Keep n W_X9_manyFacts M m27 := kk27
  have km27 : Keep n W_X9_findKnown Me m27 := kM.tr kk27 (fun b j z => z.elim)
  replace e27_0 : 0 ≤ v27 ∧ v27 ≤ 36 := e27_0
  replace e27_1 : v27 = mG m27 153 (mG m27 134 0) := e27_1
  have ev27 := e27_1
  have ppF12_m27 : F12 m27 := (F12_of p_F12 (fun j => kk27.2.2 153 j (by omega) (fun z => z)) (fun j => kk27.2.2 134 j (by omega) (fun z => z)))
  have fv27 : v27 ≤ 12 := by rw [ev27]; exact ppF12_m27
  refine w_pF (ji := 49) rfl (congrArg Prod.fst (kl_126 im27)) (fun M33 hM33 => ?_)
  replace hM33 : M33 = mS m27 126 49 0 := hM33
  have iM33 : I n M33 := wr_Model_49 im27 rfl ⟨by omega, by omega⟩ hM33
  have kM33 : Keep n W_X9_findKnown Me M33 := km27.st hM33 (Or.inl (Or.inl ⟨rfl, rfl⟩))
  refine w_pF (ji := 50) rfl (congrArg Prod.fst (kl_126 iM33)) (fun M38 hM38 => ?_)
  replace hM38 : M38 = mS M33 126 50 0 := hM38
  have iM38 : I n M38 := wr_Model_50 iM33 rfl ⟨by omega, by omega⟩ hM38
  have kM38 : Keep n W_X9_findKnown Me M38 := kM33.st hM38 (Or.inl (Or.inr ⟨rfl, rfl⟩))
  have ppF12_M38 : F12 M38 := (F12_of (F12_of ppF12_m27 (fun j => st_ne hM33 (fun z => ne_fam rfl rfl (by decide) z.1)) (fun j => st_ne hM33 (fun z => ne_fam rfl rfl (by decide) z.1))) (fun j => st_ne hM38 (fun z => ne_fam rfl rfl (by decide) z.1)) (fun j => st_ne hM38 (fun z => ne_fam rfl rfl (by decide) z.1)))
  have ppNP_M38 : NP M38 := (NP_of (NP_of (NP_of p_NP (fun j => kk27.2.2 152 j (by omega) (fun z => z))) (fun j => st_ne hM33 (fun z => ne_fam rfl rfl (by decide) z.1))) (fun j => st_ne hM38 (fun z => ne_fam rfl rfl (by decide) z.1)))
  exact s_X9_findKnown_43 FU _ _ _ _ ⟨by omega, by omega⟩ ⟨by omega, by omega⟩ ⟨by omega, by omega⟩ ppF12_M38 ppNP_M38 (by show _ < (70000 : Int); omega) iM38 kM38
theorem s_X9_findKnown {n : Nat} {M : Mem} (p_F12 : F12 M) (p_NP : NP M) (iM : I n M) : wp (mX9_findKnown 126 M) (fun q => I n q.2 ∧ Keep n W_X9_findKnown M q.2 ∧ True) := by
  have hn : (169 : Int) ≤ (n : Int) := by have := iM.2.2.2.2.1; omega
  have kM : Keep n W_X9_findKnown M M := Keep.rf
  unfold mX9_findKnown
  refine w_gFc (ji := 6) rfl (congrArg Prod.fst (kl_126 iM)) (show mG M 126 6 = 132 from rd_Model_6 iM (a := 126) rfl) ?_
  refine w_aG (kl_132 iM) (by decide) (by decide) (fun a5 ha5 => ?_)
  have ra5 : (-1) ≤ a5 ∧ a5 ≤ 999 := ha5.tr (P := fun z => (-1) ≤ z ∧ z ≤ 999) (rd_Mviewed iM rfl)
  refine w_if (fun c1_ => ?_) (fun c1_ => ?_)
  · skip
    refine w_gFc (ji := 5) rfl (congrArg Prod.fst (kl_126 iM)) (show mG M 126 5 = 131 from rd_Model_5 iM (a := 126) rfl) ?_
    refine w_aG (kl_131 iM) (by decide) (by decide) (fun a15 ha15 => ?_)
    have ra15 : 0 ≤ a15 ∧ a15 ≤ 999 := ha15.tr (P := fun z => 0 ≤ z ∧ z ≤ 999) (rd_Mdays iM rfl)
    exact s_X9_findKnown_25 ⟨by omega, by omega⟩ p_F12 p_NP iM kM
  · skip
    refine w_gFc (ji := 6) rfl (congrArg Prod.fst (kl_126 iM)) (show mG M 126 6 = 132 from rd_Model_6 iM (a := 126) rfl) ?_
    refine w_aGc (kl_132 iM) (by omega) (by omega) (show mG M 132 0 = a5 from (show mG M 132 0 = a5 from ha5)) ?_
    exact s_X9_findKnown_25 ⟨by omega, by omega⟩ p_F12 p_NP iM kM
def W_X9_prepare (b j : Int) : Prop := (b = 126 ∧ j = 48) ∨ (b = 126 ∧ j = 49) ∨ (b = 126 ∧ j = 50)
theorem s_X9_prepare {n : Nat} {M : Mem} (p_F12 : F12 M) (p_NP : NP M) (iM : I n M) : wp (mX9_prepare 126 M) (fun q => I n q.2 ∧ Keep n W_X9_prepare M q.2 ∧ True) := by
  have hn : (169 : Int) ≤ (n : Int) := by have := iM.2.2.2.2.1; omega
  have kM : Keep n W_X9_prepare M M := Keep.rf
  unfold mX9_prepare
  refine w_gK (congrArg Prod.fst (kl_126 iM)) ?_
  refine w_call (s_X9_told iM) ?_
  intro v2 m2 pp2
  obtain ⟨im2, kk2, e2_0, -⟩ := pp2
  try dsimp only
  replace im2 : I n m2 := im2
  replace kk2 : Keep n W_X9_told M m2 := kk2
  have km2 : Keep n W_X9_prepare M m2 := kM.tr kk2 (fun b j z => z.elim)
  replace e2_0 : 0 ≤ v2 ∧ v2 ≤ 4095 := e2_0
  refine w_pF (ji := 48) rfl (congrArg Prod.fst (kl_126 im2)) (fun M5 hM5 => ?_)
  replace hM5 : M5 = mS m2 126 48 v2 := hM5
  have iM5 : I n M5 := wr_Model_48 im2 rfl ⟨by omega, by omega⟩ hM5
  have kM5 : Keep n W_X9_prepare M M5 := km2.st hM5 (Or.inl (Or.inl ⟨rfl, rfl⟩))
  refine w_gK (congrArg Prod.fst (kl_126 iM5)) ?_
  have ppF12_M5 : F12 M5 := (F12_of (F12_of p_F12 (fun j => kk2.2.2 153 j (by omega) (fun z => z)) (fun j => kk2.2.2 134 j (by omega) (fun z => z))) (fun j => st_ne hM5 (fun z => ne_fam rfl rfl (by decide) z.1)) (fun j => st_ne hM5 (fun z => ne_fam rfl rfl (by decide) z.1)))
  have ppNP_M5 : NP M5 := (NP_of (NP_of p_NP (fun j => kk2.2.2 152 j (by omega) (fun z => z))) (fun j => st_ne hM5 (fun z => ne_fam rfl rfl (by decide) z.1)))
  refine w_call (s_X9_findKnown ppF12_M5 ppNP_M5 iM5) ?_
  intro v9 m9 pp9
  obtain ⟨im9, kk9, -⟩ := pp9
  try dsimp only
  replace im9 : I n m9 := im9
  replace kk9 : Keep n W_X9_findKnown M5 m9 := kk9
  have km9 : Keep n W_X9_prepare M m9 := kM5.tr kk9 (fun b j z => Or.elim z (fun z => (Or.inr (Or.inl z))) (fun z => (Or.inr (Or.inr z))))
  exact w_ret ⟨im9, km9, trivial⟩
def W_X9_isAsKnown (b j : Int) : Prop := False
theorem s_X9_isAsKnown {n : Nat} {l1 : Int} {M : Mem} (r_l1 : 0 ≤ l1 ∧ l1 ≤ 4095) (iM : I n M) : wp (mX9_isAsKnown 126 l1 M) (fun q => I n q.2 ∧ Keep n W_X9_isAsKnown M q.2 ∧ (0 ≤ q.1 ∧ q.1 ≤ 1) ∧ True) := by
  have hn : (169 : Int) ≤ (n : Int) := by have := iM.2.2.2.2.1; omega
  have kM : Keep n W_X9_isAsKnown M M := Keep.rf
  unfold mX9_isAsKnown
  refine w_gF (ji := 49) rfl (congrArg Prod.fst (kl_126 iM)) (fun a2 ha2 => ?_)
  have ra2 : 0 ≤ a2 ∧ a2 ≤ 4095 := ha2.tr (P := fun z => 0 ≤ z ∧ z ≤ 4095) (rd_Model_49 iM rfl)
  refine w_gF (ji := 50) rfl (congrArg Prod.fst (kl_126 iM)) (fun a7 ha7 => ?_)
  have ra7 : 0 ≤ a7 ∧ a7 ≤ 4095 := ha7.tr (P := fun z => 0 ≤ z ∧ z ≤ 4095) (rd_Model_50 iM rfl)
  have w1_ := iand_l (x := l1) (y := a2) (by omega) (by omega)
  have w2_ := iand_r (x := l1) (y := a2) (by omega) (by omega)
  refine w_if (fun c3_ => ?_) (fun c3_ => ?_)
  · skip
    exact w_ret ⟨iM, kM, (show 0 ≤ 1 ∧ 1 ≤ 1 from ⟨by omega, by omega⟩), trivial⟩
  · skip
    exact w_ret ⟨iM, kM, (show 0 ≤ 0 ∧ 0 ≤ 1 from ⟨by omega, by omega⟩), trivial⟩
def W_X9_layWorld (b j : Int) : Prop := b = 154
theorem s_X9_layWorld_34 {n : Nat} {Me : Mem} {k7 : Int → Int → Int → Int → Mem → Option (Int × Mem)} {fu7 : Nat} (hk7 : ∀ (l1 l2 l3 : Int) (M : Mem), ((-2147483648) ≤ l1 ∧ l1 ≤ 2147483647) → (0 ≤ l2 ∧ l2 ≤ 36) → (0 ≤ l3 ∧ l3 ≤ 36) → (NP M) → 37 - l3 < (fu7 : Int) → I n M → Keep n W_X9_layWorld Me M → wp (k7 126 l1 l2 l3 M) (fun q => I n q.2 ∧ Keep n W_X9_layWorld Me q.2 ∧ True)) {l1 l2 l3 s1 s2 : Int} {M : Mem} (r_l1 : (-2147483648) ≤ l1 ∧ l1 ≤ 2147483647) (r_l2 : 1 ≤ l2 ∧ l2 ≤ 36) (r_l3 : 0 ≤ l3 ∧ l3 ≤ 35) (r_s1 : 0 ≤ s1 ∧ s1 ≤ 35) (r_s2 : 0 ≤ s2 ∧ s2 ≤ 1) (p_NP : NP M) (hf7 : 37 - l3 < (fu7 : Int) + 1) (iM : I n M) (kM : Keep n W_X9_layWorld Me M) : wp (mX9_layWorld_34 k7 126 l1 l2 l3 154 s1 s2 M) (fun q => I n q.2 ∧ Keep n W_X9_layWorld Me q.2 ∧ True) := by
  have hn : (169 : Int) ≤ (n : Int) := by have := iM.2.2.2.2.1; omega
  unfold mX9_layWorld_34
  refine w_aSZ (kl_154 iM) (by omega) (by omega) (by omega) (fun M34 hM34 => ?_)
  replace hM34 : M34 = mS M 154 s1 s2 := hM34
  have iM34 : I n M34 := wr_Mis iM rfl ⟨by omega, by omega⟩ hM34
  have kM34 : Keep n W_X9_layWorld Me M34 := kM.st hM34 (Or.inl rfl)
  have w1_ := wI_id (x := (l3 + 1)) (by omega) (by omega)
  have ppNP_M34 : NP M34 := (NP_of p_NP (fun j => st_ne hM34 (fun z => ne_fam rfl rfl (by decide) z.1)))
  exact hk7 _ _ _ _ ⟨by omega, by omega⟩ ⟨by omega, by omega⟩ ⟨by omega, by omega⟩ ppNP_M34 (by omega) iM34 kM34
theorem sb_X9_layWorld_7 {n : Nat} {Me : Mem} {k7 : Int → Int → Int → Int → Mem → Option (Int × Mem)} {fu7 : Nat} (hk7 : ∀ (l1 l2 l3 : Int) (M : Mem), ((-2147483648) ≤ l1 ∧ l1 ≤ 2147483647) → (0 ≤ l2 ∧ l2 ≤ 36) → (0 ≤ l3 ∧ l3 ≤ 36) → (NP M) → 37 - l3 < (fu7 : Int) → I n M → Keep n W_X9_layWorld Me M → wp (k7 126 l1 l2 l3 M) (fun q => I n q.2 ∧ Keep n W_X9_layWorld Me q.2 ∧ True)) {l1 l2 l3 : Int} {M : Mem} (r_l1 : (-2147483648) ≤ l1 ∧ l1 ≤ 2147483647) (r_l2 : 0 ≤ l2 ∧ l2 ≤ 36) (r_l3 : 0 ≤ l3 ∧ l3 ≤ 36) (p_NP : NP M) (hf7 : 37 - l3 < (fu7 : Int) + 1) (iM : I n M) (kM : Keep n W_X9_layWorld Me M) : wp (bX9_layWorld_7 k7 126 l1 l2 l3 M) (fun q => I n q.2 ∧ Keep n W_X9_layWorld Me q.2 ∧ True) := by
  have hn : (169 : Int) ≤ (n : Int) := by have := iM.2.2.2.2.1; omega
  unfold bX9_layWorld_7
  refine w_if (fun c1_ => ?_) (fun c1_ => ?_)
  · skip
    exact w_ret ⟨iM, kM, trivial⟩
  · skip
    refine w_gFc (ji := 28) rfl (congrArg Prod.fst (kl_126 iM)) (show mG M 126 28 = 154 from rd_Model_28 iM (a := 126) rfl) ?_
    have w2_ := wI_id (x := (l2 - 1)) (by omega) (by omega)
    have w3_ := wI_id (x := ((wI (l2 - 1)) - l3)) (by omega) (by omega)
    have w4_ := ishr_in l1 (wI ((wI (l2 - 1)) - l3))
    have w5_ := iand_r (x := (ishr l1 (wI ((wI (l2 - 1)) - l3)))) (y := 1) (by omega) (by omega)
    refine w_if (fun c6_ => ?_) (fun c6_ => ?_)
    · skip
      exact s_X9_layWorld_34 hk7 ⟨by omega, by omega⟩ ⟨by omega, by omega⟩ ⟨by omega, by omega⟩ ⟨by omega, by omega⟩ ⟨by omega, by omega⟩ p_NP (by omega) iM kM
    · skip
      exact s_X9_layWorld_34 hk7 ⟨by omega, by omega⟩ ⟨by omega, by omega⟩ ⟨by omega, by omega⟩ ⟨by omega, by omega⟩ ⟨by omega, by omega⟩ p_NP (by omega) iM kM
theorem s_X9_layWorld_7 {n : Nat} {Me : Mem} : ∀ (fu : Nat) (l1 l2 l3 : Int) (M : Mem), ((-2147483648) ≤ l1 ∧ l1 ≤ 2147483647) → (0 ≤ l2 ∧ l2 ≤ 36) → (0 ≤ l3 ∧ l3 ≤ 36) → (NP M) → 37 - l3 < (fu : Int) → I n M → Keep n W_X9_layWorld Me M → wp (mX9_layWorld_7 fu 126 l1 l2 l3 M) (fun q => I n q.2 ∧ Keep n W_X9_layWorld Me q.2 ∧ True) := by
  intro fu
  induction fu with
  | zero =>
    intro l1 l2 l3 M r_l1 r_l2 r_l3 p_NP hf iM kM
    exfalso
    omega
  | succ fu ih =>
    intro l1 l2 l3 M r_l1 r_l2 r_l3 p_NP hf iM kM
    exact sb_X9_layWorld_7 ih r_l1 r_l2 r_l3 p_NP (by have e : ((fu + 1 : Nat) : Int) = (fu : Int) + 1 := rfl; rw [e] at hf; exact hf) iM kM
theorem s_X9_layWorld {n : Nat} {l1 : Int} {M : Mem} (r_l1 : (-2147483648) ≤ l1 ∧ l1 ≤ 2147483647) (p_NP : NP M) (iM : I n M) : wp (mX9_layWorld 126 l1 M) (fun q => I n q.2 ∧ Keep n W_X9_layWorld M q.2 ∧ True) := by
  have hn : (169 : Int) ≤ (n : Int) := by have := iM.2.2.2.2.1; omega
  have kM : Keep n W_X9_layWorld M M := Keep.rf
  unfold mX9_layWorld
  refine w_gK (congrArg Prod.fst (kl_126 iM)) ?_
  refine w_call (s_X9_manyFacts iM) ?_
  intro v1 m1 pp1
  obtain ⟨im1, kk1, e1_0, e1_1, -⟩ := pp1
  try dsimp only
  replace im1 : I n m1 := im1
  replace kk1 : Keep n W_X9_manyFacts M m1 := kk1
  have km1 : Keep n W_X9_layWorld M m1 := kM.tr kk1 (fun b j z => z.elim)
  replace e1_0 : 0 ≤ v1 ∧ v1 ≤ 36 := e1_0
  replace e1_1 : v1 = mG m1 153 (mG m1 134 0) := e1_1
  have ev1 := e1_1
  have ppNP_m1 : NP m1 := (NP_of p_NP (fun j => kk1.2.2 152 j (by omega) (fun z => z)))
  exact s_X9_layWorld_7 FU _ _ _ _ ⟨by omega, by omega⟩ ⟨by omega, by omega⟩ ⟨by omega, by omega⟩ ppNP_m1 (by show _ < (70000 : Int); omega) im1 km1
def W_X9_isWorld (b j : Int) : Prop := b = 154 ∨ (160 ≤ b ∧ b ≤ 161) ∨ (b = 126 ∧ j = 46)
theorem s_X9_isWorld_48 {n : Nat} {Me : Mem} {k17 : Int → Int → Mem → Option (Int × Mem)} {fu17 : Nat} (hk17 : ∀ (l2 : Int) (M : Mem), (0 ≤ l2 ∧ l2 ≤ 8) → (F12 M) → (NP M) → 9 - l2 < (fu17 : Int) → I n M → Keep n W_X9_isWorld Me M → wp (k17 126 l2 M) (fun q => I n q.2 ∧ Keep n W_X9_isWorld Me q.2 ∧ (0 ≤ q.1 ∧ q.1 ≤ 1) ∧ True)) {l2 : Int} {M : Mem} (r_l2 : 0 ≤ l2 ∧ l2 ≤ 7) (p_F12 : F12 M) (p_NP : NP M) (hf17 : 9 - l2 < (fu17 : Int) + 1) (iM : I n M) (kM : Keep n W_X9_isWorld Me M) : wp (mX9_isWorld_48 k17 126 l2 M) (fun q => I n q.2 ∧ Keep n W_X9_isWorld Me q.2 ∧ (0 ≤ q.1 ∧ q.1 ≤ 1) ∧ True) := by
  have hn : (169 : Int) ≤ (n : Int) := by have := iM.2.2.2.2.1; omega
  unfold mX9_isWorld_48
  have w1_ := wI_id (x := (l2 + 1)) (by omega) (by omega)
  exact hk17 _ _ ⟨by omega, by omega⟩ p_F12 p_NP (by omega) iM kM
theorem sb_X9_isWorld_17 {n : Nat} {Me : Mem} {k17 : Int → Int → Mem → Option (Int × Mem)} {fu17 : Nat} (hk17 : ∀ (l2 : Int) (M : Mem), (0 ≤ l2 ∧ l2 ≤ 8) → (F12 M) → (NP M) → 9 - l2 < (fu17 : Int) → I n M → Keep n W_X9_isWorld Me M → wp (k17 126 l2 M) (fun q => I n q.2 ∧ Keep n W_X9_isWorld Me q.2 ∧ (0 ≤ q.1 ∧ q.1 ≤ 1) ∧ True)) {l2 : Int} {M : Mem} (r_l2 : 0 ≤ l2 ∧ l2 ≤ 8) (p_F12 : F12 M) (p_NP : NP M) (hf17 : 9 - l2 < (fu17 : Int) + 1) (iM : I n M) (kM : Keep n W_X9_isWorld Me M) : wp (bX9_isWorld_17 k17 126 l2 M) (fun q => I n q.2 ∧ Keep n W_X9_isWorld Me q.2 ∧ (0 ≤ q.1 ∧ q.1 ≤ 1) ∧ True) := by
  have hn : (169 : Int) ≤ (n : Int) := by have := iM.2.2.2.2.1; omega
  unfold bX9_isWorld_17
  refine w_gFc (ji := 12) rfl (congrArg Prod.fst (kl_126 iM)) (show mG M 126 12 = 138 from rd_Model_12 iM (a := 126) rfl) ?_
  refine w_aG (kl_138 iM) (by decide) (by decide) (fun a23 ha23 => ?_)
  have ra23 : 0 ≤ a23 ∧ a23 ≤ 8 := ha23.tr (P := fun z => 0 ≤ z ∧ z ≤ 8) (rd_Mstories iM rfl)
  refine w_if (fun c1_ => ?_) (fun c1_ => ?_)
  · skip
    exact w_ret ⟨iM, kM, (show 0 ≤ 1 ∧ 1 ≤ 1 from ⟨by omega, by omega⟩), trivial⟩
  · skip
    refine w_gF (ji := 48) rfl (congrArg Prod.fst (kl_126 iM)) (fun a28 ha28 => ?_)
    have ra28 : 0 ≤ a28 ∧ a28 ≤ 255 := ha28.tr (P := fun z => 0 ≤ z ∧ z ≤ 255) (rd_Model_48 iM rfl)
    have w2_ := ishr_b (x := a28) (k := l2) (by omega) (by omega) (by omega) (by omega)
    have w3_ := iand_l (x := (ishr a28 l2)) (y := 1) (by omega) (by omega)
    have w4_ := iand_r (x := (ishr a28 l2)) (y := 1) (by omega) (by omega)
    refine w_if (fun c5_ => ?_) (fun c5_ => ?_)
    · skip
      exact s_X9_isWorld_48 hk17 ⟨by omega, by omega⟩ p_F12 p_NP (by omega) iM kM
    · skip
      refine w_gK (congrArg Prod.fst (kl_126 iM)) ?_
      refine w_call (s_X9_means ⟨by omega, by omega⟩ p_NP iM) ?_
      intro v40 m40 pp40
      obtain ⟨im40, kk40, e40_0, -⟩ := pp40
      try dsimp only
      replace im40 : I n m40 := im40
      replace kk40 : Keep n W_X9_means M m40 := kk40
      have km40 : Keep n W_X9_isWorld Me m40 := kM.tr kk40 (fun b j z => Or.elim z (fun z => (Or.inr (Or.inl z))) (fun z => (Or.inr (Or.inr z))))
      replace e40_0 : 0 ≤ v40 ∧ v40 ≤ 1 := e40_0
      refine w_if (fun c6_ => ?_) (fun c6_ => ?_)
      · skip
        exact w_ret ⟨im40, km40, (show 0 ≤ 0 ∧ 0 ≤ 1 from ⟨by omega, by omega⟩), trivial⟩
      · skip
        have ppF12_m40 : F12 m40 := (F12_of p_F12 (fun j => kk40.2.2 153 j (by omega) (fun z => by unfold W_X9_means at z; (try unfold isWS at z); (try unfold isShape at z); (try unfold isTold at z); (try dsimp only at z); omega)) (fun j => kk40.2.2 134 j (by omega) (fun z => by unfold W_X9_means at z; (try unfold isWS at z); (try unfold isShape at z); (try unfold isTold at z); (try dsimp only at z); omega)))
        have ppNP_m40 : NP m40 := (NP_of p_NP (fun j => kk40.2.2 152 j (by omega) (fun z => by unfold W_X9_means at z; (try unfold isWS at z); (try unfold isShape at z); (try unfold isTold at z); (try dsimp only at z); omega)))
        exact s_X9_isWorld_48 hk17 ⟨by omega, by omega⟩ ppF12_m40 ppNP_m40 (by omega) im40 km40
theorem s_X9_isWorld_17 {n : Nat} {Me : Mem} : ∀ (fu : Nat) (l2 : Int) (M : Mem), (0 ≤ l2 ∧ l2 ≤ 8) → (F12 M) → (NP M) → 9 - l2 < (fu : Int) → I n M → Keep n W_X9_isWorld Me M → wp (mX9_isWorld_17 fu 126 l2 M) (fun q => I n q.2 ∧ Keep n W_X9_isWorld Me q.2 ∧ (0 ≤ q.1 ∧ q.1 ≤ 1) ∧ True) := by
  intro fu
  induction fu with
  | zero =>
    intro l2 M r_l2 p_F12 p_NP hf iM kM
    exfalso
    omega
  | succ fu ih =>
    intro l2 M r_l2 p_F12 p_NP hf iM kM
    exact sb_X9_isWorld_17 ih r_l2 p_F12 p_NP (by have e : ((fu + 1 : Nat) : Int) = (fu : Int) + 1 := rfl; rw [e] at hf; exact hf) iM kM
theorem s_X9_isWorld {n : Nat} {l1 : Int} {M : Mem} (r_l1 : 0 ≤ l1 ∧ l1 ≤ 4095) (p_F12 : F12 M) (p_NP : NP M) (iM : I n M) : wp (mX9_isWorld 126 l1 M) (fun q => I n q.2 ∧ Keep n W_X9_isWorld M q.2 ∧ (0 ≤ q.1 ∧ q.1 ≤ 1) ∧ True) := by
  have hn : (169 : Int) ≤ (n : Int) := by have := iM.2.2.2.2.1; omega
  have kM : Keep n W_X9_isWorld M M := Keep.rf
  unfold mX9_isWorld
  refine w_gK (congrArg Prod.fst (kl_126 iM)) ?_
  refine w_call (s_X9_isAsKnown ⟨by omega, by omega⟩ iM) ?_
  intro v2 m2 pp2
  obtain ⟨im2, kk2, e2_0, -⟩ := pp2
  try dsimp only
  replace im2 : I n m2 := im2
  replace kk2 : Keep n W_X9_isAsKnown M m2 := kk2
  have km2 : Keep n W_X9_isWorld M m2 := kM.tr kk2 (fun b j z => z.elim)
  replace e2_0 : 0 ≤ v2 ∧ v2 ≤ 1 := e2_0
  refine w_if (fun c1_ => ?_) (fun c1_ => ?_)
  · skip
    exact w_ret ⟨im2, km2, (show 0 ≤ 0 ∧ 0 ≤ 1 from ⟨by omega, by omega⟩), trivial⟩
  · skip
    refine w_gK (congrArg Prod.fst (kl_126 im2)) ?_
    have ppNP_m2 : NP m2 := (NP_of p_NP (fun j => kk2.2.2 152 j (by omega) (fun z => z)))
    refine w_call (s_X9_layWorld ⟨by omega, by omega⟩ ppNP_m2 im2) ?_
    intro v12 m12 pp12
    obtain ⟨im12, kk12, -⟩ := pp12
    try dsimp only
    replace im12 : I n m12 := im12
    replace kk12 : Keep n W_X9_layWorld m2 m12 := kk12
    have km12 : Keep n W_X9_isWorld M m12 := km2.tr kk12 (fun b j z => by unfold W_X9_layWorld at z; exact (Or.inl z))
    have ppF12_m12 : F12 m12 := (F12_of (F12_of p_F12 (fun j => kk2.2.2 153 j (by omega) (fun z => z)) (fun j => kk2.2.2 134 j (by omega) (fun z => z))) (fun j => kk12.2.2 153 j (by omega) (fun z => by unfold W_X9_layWorld at z; (try unfold isWS at z); (try unfold isShape at z); (try unfold isTold at z); (try dsimp only at z); omega)) (fun j => kk12.2.2 134 j (by omega) (fun z => by unfold W_X9_layWorld at z; (try unfold isWS at z); (try unfold isShape at z); (try unfold isTold at z); (try dsimp only at z); omega)))
    have ppNP_m12 : NP m12 := (NP_of ppNP_m2 (fun j => kk12.2.2 152 j (by omega) (fun z => by unfold W_X9_layWorld at z; (try unfold isWS at z); (try unfold isShape at z); (try unfold isTold at z); (try dsimp only at z); omega)))
    exact s_X9_isWorld_17 FU _ _ ⟨by omega, by omega⟩ ppF12_m12 ppNP_m12 (by show _ < (70000 : Int); omega) im12 km12
