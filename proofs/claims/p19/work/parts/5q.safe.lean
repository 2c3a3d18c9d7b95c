def W_X9_isSo (b j : Int) : Prop := False
theorem s_X9_isSo {n : Nat} {l1 l2 l3 : Int} {M : Mem} (r_l1 : 0 ≤ l1 ∧ l1 ≤ 3) (r_l2 : 0 ≤ l2 ∧ l2 ≤ 2) (r_l3 : 0 ≤ l3 ∧ l3 ≤ 2) (p_NP : NP M) (iM : I n M) : wp (mX9_isSo 126 l1 l2 l3 M) (fun q => I n q.2 ∧ Keep n W_X9_isSo M q.2 ∧ (0 ≤ q.1 ∧ q.1 ≤ 1) ∧ True) := by
  have hn : (169 : Int) ≤ (n : Int) := by have := iM.2.2.2.2.1; omega
  have kM : Keep n W_X9_isSo M M := Keep.rf
  unfold mX9_isSo
  refine w_gK (congrArg Prod.fst (kl_126 iM)) ?_
  refine w_call (s_X9_factAt ⟨by omega, by omega⟩ ⟨by omega, by omega⟩ ⟨by omega, by omega⟩ p_NP iM) ?_
  intro v4 m4 pp4
  obtain ⟨im4, kk4, e4_0, -⟩ := pp4
  try dsimp only
  replace im4 : I n m4 := im4
  replace kk4 : Keep n W_X9_factAt M m4 := kk4
  have km4 : Keep n W_X9_isSo M m4 := kM.tr kk4 (fun b j z => z.elim)
  replace e4_0 : (-1) ≤ v4 ∧ v4 ≤ 35 := e4_0
  refine w_if (fun c1_ => ?_) (fun c1_ => ?_)
  · skip
    exact w_ret ⟨im4, km4, (show 0 ≤ 0 ∧ 0 ≤ 1 from ⟨by omega, by omega⟩), trivial⟩
  · skip
    refine w_gFc (ji := 28) rfl (congrArg Prod.fst (kl_126 im4)) (show mG m4 126 28 = 154 from rd_Model_28 im4 (a := 126) rfl) ?_
    refine w_aG (kl_154 im4) (by omega) (by omega) (fun a21 ha21 => ?_)
    have ra21 : 0 ≤ a21 ∧ a21 ≤ 1 := ha21.tr (P := fun z => 0 ≤ z ∧ z ≤ 1) (rd_Mis im4 rfl)
    refine w_if (fun c2_ => ?_) (fun c2_ => ?_)
    · skip
      exact w_ret ⟨im4, km4, (show 0 ≤ 0 ∧ 0 ≤ 1 from ⟨by omega, by omega⟩), trivial⟩
    · skip
      exact w_ret ⟨im4, km4, (show 0 ≤ 1 ∧ 1 ≤ 1 from ⟨by omega, by omega⟩), trivial⟩
def W_X9_findJoined (b j : Int) : Prop := b = 161
theorem s_X9_findJoined_95 {n : Nat} {Me : Mem} {k33 : Int → Int → Mem → Option (Int × Mem)} {fu33 : Nat} (hk33 : ∀ (l2 : Int) (M : Mem), (0 ≤ l2 ∧ l2 ≤ 3) → (NP M) → 4 - l2 < (fu33 : Int) → I n M → Keep n W_X9_findJoined Me M → wp (k33 126 l2 M) (fun q => I n q.2 ∧ Keep n W_X9_findJoined Me q.2 ∧ True)) {k40 : Int → Int → Int → Mem → Option (Int × Mem)} {fu40 : Nat} (hk40 : ∀ (l2 l3 : Int) (M : Mem), (0 ≤ l2 ∧ l2 ≤ 2) → (0 ≤ l3 ∧ l3 ≤ 9) → (NP M) → 4 - l2 < (fu33 : Int) + 1 → 10 - l3 < (fu40 : Int) → I n M → Keep n W_X9_findJoined Me M → wp (k40 126 l2 l3 M) (fun q => I n q.2 ∧ Keep n W_X9_findJoined Me q.2 ∧ True)) {l2 l3 s1 s2 : Int} {M : Mem} (r_l2 : 0 ≤ l2 ∧ l2 ≤ 2) (r_l3 : 0 ≤ l3 ∧ l3 ≤ 8) (r_s1 : 0 ≤ s1 ∧ s1 ≤ 8) (r_s2 : 0 ≤ s2 ∧ s2 ≤ 1) (p_NP : NP M) (hf33 : 4 - l2 < (fu33 : Int) + 1) (hf40 : 10 - l3 < (fu40 : Int) + 1) (iM : I n M) (kM : Keep n W_X9_findJoined Me M) : wp (mX9_findJoined_95 k33 k40 126 l2 l3 161 s1 s2 M) (fun q => I n q.2 ∧ Keep n W_X9_findJoined Me q.2 ∧ True) := by
  have hn : (169 : Int) ≤ (n : Int) := by have := iM.2.2.2.2.1; omega
  unfold mX9_findJoined_95
  refine w_aSZ (kl_161 iM) (by omega) (by omega) (by omega) (fun M95 hM95 => ?_)
  replace hM95 : M95 = mS M 161 s1 s2 := hM95
  have iM95 : I n M95 := wr_Mjoined iM rfl ⟨by omega, by omega⟩ hM95
  have kM95 : Keep n W_X9_findJoined Me M95 := kM.st hM95 (Or.inl rfl)
  have w1_ := wI_id (x := (l3 + 1)) (by omega) (by omega)
  have ppNP_M95 : NP M95 := (NP_of p_NP (fun j => st_ne hM95 (fun z => ne_fam rfl rfl (by decide) z.1)))
  exact hk40 _ _ _ ⟨by omega, by omega⟩ ⟨by omega, by omega⟩ ppNP_M95 (by omega) (by omega) iM95 kM95
theorem s_X9_findJoined_94 {n : Nat} {Me : Mem} {k33 : Int → Int → Mem → Option (Int × Mem)} {fu33 : Nat} (hk33 : ∀ (l2 : Int) (M : Mem), (0 ≤ l2 ∧ l2 ≤ 3) → (NP M) → 4 - l2 < (fu33 : Int) → I n M → Keep n W_X9_findJoined Me M → wp (k33 126 l2 M) (fun q => I n q.2 ∧ Keep n W_X9_findJoined Me q.2 ∧ True)) {k40 : Int → Int → Int → Mem → Option (Int × Mem)} {fu40 : Nat} (hk40 : ∀ (l2 l3 : Int) (M : Mem), (0 ≤ l2 ∧ l2 ≤ 2) → (0 ≤ l3 ∧ l3 ≤ 9) → (NP M) → 4 - l2 < (fu33 : Int) + 1 → 10 - l3 < (fu40 : Int) → I n M → Keep n W_X9_findJoined Me M → wp (k40 126 l2 l3 M) (fun q => I n q.2 ∧ Keep n W_X9_findJoined Me q.2 ∧ True)) {l2 l3 s1 : Int} {M : Mem} (r_l2 : 0 ≤ l2 ∧ l2 ≤ 2) (r_l3 : 0 ≤ l3 ∧ l3 ≤ 8) (r_s1 : 0 ≤ s1 ∧ s1 ≤ 8) (p_NP : NP M) (hf33 : 4 - l2 < (fu33 : Int) + 1) (hf40 : 10 - l3 < (fu40 : Int) + 1) (iM : I n M) (kM : Keep n W_X9_findJoined Me M) : wp (mX9_findJoined_94 k33 k40 126 l2 l3 161 s1 M) (fun q => I n q.2 ∧ Keep n W_X9_findJoined Me q.2 ∧ True) := by
  have hn : (169 : Int) ≤ (n : Int) := by have := iM.2.2.2.2.1; omega
  unfold mX9_findJoined_94
  exact s_X9_findJoined_95 hk33 hk40 ⟨by omega, by omega⟩ ⟨by omega, by omega⟩ ⟨by omega, by omega⟩ ⟨by omega, by omega⟩ p_NP (by omega) (by omega) iM kM
theorem s_X9_findJoined_90 {n : Nat} {Me : Mem} {k33 : Int → Int → Mem → Option (Int × Mem)} {fu33 : Nat} (hk33 : ∀ (l2 : Int) (M : Mem), (0 ≤ l2 ∧ l2 ≤ 3) → (NP M) → 4 - l2 < (fu33 : Int) → I n M → Keep n W_X9_findJoined Me M → wp (k33 126 l2 M) (fun q => I n q.2 ∧ Keep n W_X9_findJoined Me q.2 ∧ True)) {k40 : Int → Int → Int → Mem → Option (Int × Mem)} {fu40 : Nat} (hk40 : ∀ (l2 l3 : Int) (M : Mem), (0 ≤ l2 ∧ l2 ≤ 2) → (0 ≤ l3 ∧ l3 ≤ 9) → (NP M) → 4 - l2 < (fu33 : Int) + 1 → 10 - l3 < (fu40 : Int) → I n M → Keep n W_X9_findJoined Me M → wp (k40 126 l2 l3 M) (fun q => I n q.2 ∧ Keep n W_X9_findJoined Me q.2 ∧ True)) {l2 l3 s1 : Int} {M : Mem} (r_l2 : 0 ≤ l2 ∧ l2 ≤ 2) (r_l3 : 0 ≤ l3 ∧ l3 ≤ 8) (r_s1 : 0 ≤ s1 ∧ s1 ≤ 8) (p_NP : NP M) (hf33 : 4 - l2 < (fu33 : Int) + 1) (hf40 : 10 - l3 < (fu40 : Int) + 1) (iM : I n M) (kM : Keep n W_X9_findJoined Me M) : wp (mX9_findJoined_90 k33 k40 126 l2 l3 161 s1 M) (fun q => I n q.2 ∧ Keep n W_X9_findJoined Me q.2 ∧ True) := by
  have hn : (169 : Int) ≤ (n : Int) := by have := iM.2.2.2.2.1; omega
  unfold mX9_findJoined_90
  exact s_X9_findJoined_95 hk33 hk40 ⟨by omega, by omega⟩ ⟨by omega, by omega⟩ ⟨by omega, by omega⟩ ⟨by omega, by omega⟩ p_NP (by omega) (by omega) iM kM
theorem sb_X9_findJoined_40 {n : Nat} {Me : Mem} {k33 : Int → Int → Mem → Option (Int × Mem)} {fu33 : Nat} (hk33 : ∀ (l2 : Int) (M : Mem), (0 ≤ l2 ∧ l2 ≤ 3) → (NP M) → 4 - l2 < (fu33 : Int) → I n M → Keep n W_X9_findJoined Me M → wp (k33 126 l2 M) (fun q => I n q.2 ∧ Keep n W_X9_findJoined Me q.2 ∧ True)) {k40 : Int → Int → Int → Mem → Option (Int × Mem)} {fu40 : Nat} (hk40 : ∀ (l2 l3 : Int) (M : Mem), (0 ≤ l2 ∧ l2 ≤ 2) → (0 ≤ l3 ∧ l3 ≤ 9) → (NP M) → 4 - l2 < (fu33 : Int) + 1 → 10 - l3 < (fu40 : Int) → I n M → Keep n W_X9_findJoined Me M → wp (k40 126 l2 l3 M) (fun q => I n q.2 ∧ Keep n W_X9_findJoined Me q.2 ∧ True)) {l2 l3 : Int} {M : Mem} (r_l2 : 0 ≤ l2 ∧ l2 ≤ 2) (r_l3 : 0 ≤ l3 ∧ l3 ≤ 9) (p_NP : NP M) (hf33 : 4 - l2 < (fu33 : Int) + 1) (hf40 : 10 - l3 < (fu40 : Int) + 1) (iM : I n M) (kM : Keep n W_X9_findJoined Me M) : wp (bX9_findJoined_40 k33 k40 126 l2 l3 M) (fun q => I n q.2 ∧ Keep n W_X9_findJoined Me q.2 ∧ True) := by
  have hn : (169 : Int) ≤ (n : Int) := by have := iM.2.2.2.2.1; omega
  unfold bX9_findJoined_40
  refine w_if (fun c1_ => ?_) (fun c1_ => ?_)
  · skip
    have w2_ := wI_id (x := (l2 + 1)) (by omega) (by omega)
    exact hk33 _ _ ⟨by omega, by omega⟩ p_NP (by omega) iM kM
  · skip
    refine w_gFc (ji := 47) rfl (congrArg Prod.fst (kl_126 iM)) (show mG M 126 47 = 161 from rd_Model_47 iM (a := 126) rfl) ?_
    refine w_gFc (ji := 47) rfl (congrArg Prod.fst (kl_126 iM)) (show mG M 126 47 = 161 from rd_Model_47 iM (a := 126) rfl) ?_
    refine w_aG (kl_161 iM) (by omega) (by omega) (fun a56 ha56 => ?_)
    have ra56 : 0 ≤ a56 ∧ a56 ≤ 1 := ha56.tr (P := fun z => 0 ≤ z ∧ z ≤ 1) (rd_Mjoined iM rfl)
    refine w_if (fun c3_ => ?_) (fun c3_ => ?_)
    · skip
      refine w_gFc (ji := 47) rfl (congrArg Prod.fst (kl_126 iM)) (show mG M 126 47 = 161 from rd_Model_47 iM (a := 126) rfl) ?_
      refine w_dM (by omega) (fun a67 ha67 => ?_)
      have ea67 : a67 = l3 % 3 := ha67.trans (irem_e (by omega) (by omega) (by omega) (by omega))
      have w4_ := wI_id (x := (l3 - a67)) (by omega) (by omega)
      have w5_ := wI_id (x := ((wI (l3 - a67)) + l2)) (by omega) (by omega)
      refine w_aG (kl_161 iM) (by omega) (by omega) (fun a71 ha71 => ?_)
      have ra71 : 0 ≤ a71 ∧ a71 ≤ 1 := ha71.tr (P := fun z => 0 ≤ z ∧ z ≤ 1) (rd_Mjoined iM rfl)
      refine w_if (fun c6_ => ?_) (fun c6_ => ?_)
      · skip
        exact s_X9_findJoined_94 hk33 hk40 ⟨by omega, by omega⟩ ⟨by omega, by omega⟩ ⟨by omega, by omega⟩ p_NP (by omega) (by omega) iM kM
      · skip
        refine w_gFc (ji := 47) rfl (congrArg Prod.fst (kl_126 iM)) (show mG M 126 47 = 161 from rd_Model_47 iM (a := 126) rfl) ?_
        refine w_dM (by omega) (fun a84 ha84 => ?_)
        have ea84 : a84 = l3 % 3 := ha84.trans (irem_e (by omega) (by omega) (by omega) (by omega))
        have w7_ := wI_id (x := (3 * l2)) (by omega) (by omega)
        have w8_ := wI_id (x := ((wI (3 * l2)) + a84)) (by omega) (by omega)
        refine w_aG (kl_161 iM) (by omega) (by omega) (fun a86 ha86 => ?_)
        have ra86 : 0 ≤ a86 ∧ a86 ≤ 1 := ha86.tr (P := fun z => 0 ≤ z ∧ z ≤ 1) (rd_Mjoined iM rfl)
        refine w_if (fun c9_ => ?_) (fun c9_ => ?_)
        · skip
          exact s_X9_findJoined_94 hk33 hk40 ⟨by omega, by omega⟩ ⟨by omega, by omega⟩ ⟨by omega, by omega⟩ p_NP (by omega) (by omega) iM kM
        · skip
          exact s_X9_findJoined_90 hk33 hk40 ⟨by omega, by omega⟩ ⟨by omega, by omega⟩ ⟨by omega, by omega⟩ p_NP (by omega) (by omega) iM kM
    · skip
      exact s_X9_findJoined_90 hk33 hk40 ⟨by omega, by omega⟩ ⟨by omega, by omega⟩ ⟨by omega, by omega⟩ p_NP (by omega) (by omega) iM kM
theorem s_X9_findJoined_40 {n : Nat} {Me : Mem} {k33 : Int → Int → Mem → Option (Int × Mem)} {fu33 : Nat} (hk33 : ∀ (l2 : Int) (M : Mem), (0 ≤ l2 ∧ l2 ≤ 3) → (NP M) → 4 - l2 < (fu33 : Int) → I n M → Keep n W_X9_findJoined Me M → wp (k33 126 l2 M) (fun q => I n q.2 ∧ Keep n W_X9_findJoined Me q.2 ∧ True)) : ∀ (fu : Nat) (l2 l3 : Int) (M : Mem), (0 ≤ l2 ∧ l2 ≤ 2) → (0 ≤ l3 ∧ l3 ≤ 9) → (NP M) → 4 - l2 < (fu33 : Int) + 1 → 10 - l3 < (fu : Int) → I n M → Keep n W_X9_findJoined Me M → wp (mX9_findJoined_40 k33 fu 126 l2 l3 M) (fun q => I n q.2 ∧ Keep n W_X9_findJoined Me q.2 ∧ True) := by
  intro fu
  induction fu with
  | zero =>
    intro l2 l3 M r_l2 r_l3 p_NP hf33 hf iM kM
    exfalso
    omega
  | succ fu ih =>
    intro l2 l3 M r_l2 r_l3 p_NP hf33 hf iM kM
    exact sb_X9_findJoined_40 hk33 ih r_l2 r_l3 p_NP hf33 (by have e : ((fu + 1 : Nat) : Int) = (fu : Int) + 1 := rfl; rw [e] at hf; exact hf) iM kM
theorem sb_X9_findJoined_33 {n : Nat} {Me : Mem} {k33 : Int → Int → Mem → Option (Int × Mem)} {fu33 : Nat} (hk33 : ∀ (l2 : Int) (M : Mem), (0 ≤ l2 ∧ l2 ≤ 3) → (NP M) → 4 - l2 < (fu33 : Int) → I n M → Keep n W_X9_findJoined Me M → wp (k33 126 l2 M) (fun q => I n q.2 ∧ Keep n W_X9_findJoined Me q.2 ∧ True)) {l2 : Int} {M : Mem} (r_l2 : 0 ≤ l2 ∧ l2 ≤ 3) (p_NP : NP M) (hf33 : 4 - l2 < (fu33 : Int) + 1) (iM : I n M) (kM : Keep n W_X9_findJoined Me M) : wp (bX9_findJoined_33 k33 126 l2 M) (fun q => I n q.2 ∧ Keep n W_X9_findJoined Me q.2 ∧ True) := by
  have hn : (169 : Int) ≤ (n : Int) := by have := iM.2.2.2.2.1; omega
  unfold bX9_findJoined_33
  refine w_if (fun c1_ => ?_) (fun c1_ => ?_)
  · skip
    exact w_ret ⟨iM, kM, trivial⟩
  · skip
    exact s_X9_findJoined_40 hk33 FU _ _ _ ⟨by omega, by omega⟩ ⟨by omega, by omega⟩ p_NP (by omega) (by show _ < (70000 : Int); omega) iM kM
theorem s_X9_findJoined_33 {n : Nat} {Me : Mem} : ∀ (fu : Nat) (l2 : Int) (M : Mem), (0 ≤ l2 ∧ l2 ≤ 3) → (NP M) → 4 - l2 < (fu : Int) → I n M → Keep n W_X9_findJoined Me M → wp (mX9_findJoined_33 fu 126 l2 M) (fun q => I n q.2 ∧ Keep n W_X9_findJoined Me q.2 ∧ True) := by
  intro fu
  induction fu with
  | zero =>
    intro l2 M r_l2 p_NP hf iM kM
    exfalso
    omega
  | succ fu ih =>
    intro l2 M r_l2 p_NP hf iM kM
    exact sb_X9_findJoined_33 ih r_l2 p_NP (by have e : ((fu + 1 : Nat) : Int) = (fu : Int) + 1 := rfl; rw [e] at hf; exact hf) iM kM
theorem sb_X9_findJoined_2 {n : Nat} {Me : Mem} {k2 : Int → Int → Int → Mem → Option (Int × Mem)} {fu2 : Nat} (hk2 : ∀ (l1 l2 : Int) (M : Mem), (0 ≤ l1 ∧ l1 ≤ 3) → (0 ≤ l2 ∧ l2 ≤ 9) → (NP M) → 10 - l2 < (fu2 : Int) → I n M → Keep n W_X9_findJoined Me M → wp (k2 126 l1 l2 M) (fun q => I n q.2 ∧ Keep n W_X9_findJoined Me q.2 ∧ True)) {l1 l2 : Int} {M : Mem} (r_l1 : 0 ≤ l1 ∧ l1 ≤ 3) (r_l2 : 0 ≤ l2 ∧ l2 ≤ 9) (p_NP : NP M) (hf2 : 10 - l2 < (fu2 : Int) + 1) (iM : I n M) (kM : Keep n W_X9_findJoined Me M) : wp (bX9_findJoined_2 k2 126 l1 l2 M) (fun q => I n q.2 ∧ Keep n W_X9_findJoined Me q.2 ∧ True) := by
  have hn : (169 : Int) ≤ (n : Int) := by have := iM.2.2.2.2.1; omega
  unfold bX9_findJoined_2
  refine w_if (fun c1_ => ?_) (fun c1_ => ?_)
  · skip
    exact s_X9_findJoined_33 FU _ _ ⟨by omega, by omega⟩ p_NP (by show _ < (70000 : Int); omega) iM kM
  · skip
    refine w_gFc (ji := 47) rfl (congrArg Prod.fst (kl_126 iM)) (show mG M 126 47 = 161 from rd_Model_47 iM (a := 126) rfl) ?_
    refine w_dQ (by omega) (fun a17 ha17 => ?_)
    have ea17 : a17 = l2 / 3 := ha17.trans (idiv_e (by omega) (by omega) (by omega) (by omega))
    refine w_dM (by omega) (fun a20 ha20 => ?_)
    have ea20 : a20 = l2 % 3 := ha20.trans (irem_e (by omega) (by omega) (by omega) (by omega))
    refine w_gK (congrArg Prod.fst (kl_126 iM)) ?_
    refine w_call (s_X9_isSo ⟨by omega, by omega⟩ ⟨by omega, by omega⟩ ⟨by omega, by omega⟩ p_NP iM) ?_
    intro v21 m21 pp21
    obtain ⟨im21, kk21, e21_0, -⟩ := pp21
    try dsimp only
    replace im21 : I n m21 := im21
    replace kk21 : Keep n W_X9_isSo M m21 := kk21
    have km21 : Keep n W_X9_findJoined Me m21 := kM.tr kk21 (fun b j z => z.elim)
    replace e21_0 : 0 ≤ v21 ∧ v21 ≤ 1 := e21_0
    refine w_aSZ (kl_161 im21) (by omega) (by omega) (by omega) (fun M24 hM24 => ?_)
    replace hM24 : M24 = mS m21 161 l2 v21 := hM24
    have iM24 : I n M24 := wr_Mjoined im21 rfl ⟨by omega, by omega⟩ hM24
    have kM24 : Keep n W_X9_findJoined Me M24 := km21.st hM24 (Or.inl rfl)
    have w2_ := wI_id (x := (l2 + 1)) (by omega) (by omega)
    have ppNP_M24 : NP M24 := (NP_of (NP_of p_NP (fun j => kk21.2.2 152 j (by omega) (fun z => z))) (fun j => st_ne hM24 (fun z => ne_fam rfl rfl (by decide) z.1)))
    exact hk2 _ _ _ ⟨by omega, by omega⟩ ⟨by omega, by omega⟩ ppNP_M24 (by omega) iM24 kM24
theorem s_X9_findJoined_2 {n : Nat} {Me : Mem} : ∀ (fu : Nat) (l1 l2 : Int) (M : Mem), (0 ≤ l1 ∧ l1 ≤ 3) → (0 ≤ l2 ∧ l2 ≤ 9) → (NP M) → 10 - l2 < (fu : Int) → I n M → Keep n W_X9_findJoined Me M → wp (mX9_findJoined_2 fu 126 l1 l2 M) (fun q => I n q.2 ∧ Keep n W_X9_findJoined Me q.2 ∧ True) := by
  intro fu
  induction fu with
  | zero =>
    intro l1 l2 M r_l1 r_l2 p_NP hf iM kM
    exfalso
    omega
  | succ fu ih =>
    intro l1 l2 M r_l1 r_l2 p_NP hf iM kM
    exact sb_X9_findJoined_2 ih r_l1 r_l2 p_NP (by have e : ((fu + 1 : Nat) : Int) = (fu : Int) + 1 := rfl; rw [e] at hf; exact hf) iM kM
theorem s_X9_findJoined {n : Nat} {l1 : Int} {M : Mem} (r_l1 : 0 ≤ l1 ∧ l1 ≤ 3) (p_NP : NP M) (iM : I n M) : wp (mX9_findJoined 126 l1 M) (fun q => I n q.2 ∧ Keep n W_X9_findJoined M q.2 ∧ True) := by
  have hn : (169 : Int) ≤ (n : Int) := by have := iM.2.2.2.2.1; omega
  have kM : Keep n W_X9_findJoined M M := Keep.rf
  unfold mX9_findJoined
  exact s_X9_findJoined_2 FU _ _ _ ⟨by omega, by omega⟩ ⟨by omega, by omega⟩ p_NP (by show _ < (70000 : Int); omega) iM kM
def W_X9_isTree (b j : Int) : Prop := b = 161
theorem s_X9_isTree_79 {n : Nat} {Me : Mem} {k9 : Int → Int → Int → Int → Mem → Option (Int × Mem)} {fu9 : Nat} (hk9 : ∀ (l1 l2 l3 : Int) (M : Mem), (0 ≤ l1 ∧ l1 ≤ 3) → (0 ≤ l2 ∧ l2 ≤ 1) → (0 ≤ l3 ∧ l3 ≤ 3) → (NP M) → 4 - l3 < (fu9 : Int) → I n M → Keep n W_X9_isTree Me M → wp (k9 126 l1 l2 l3 M) (fun q => I n q.2 ∧ Keep n W_X9_isTree Me q.2 ∧ (0 ≤ q.1 ∧ q.1 ≤ 1) ∧ True)) {l1 l3 s0 : Int} {M : Mem} (r_l1 : 0 ≤ l1 ∧ l1 ≤ 3) (r_l3 : 0 ≤ l3 ∧ l3 ≤ 2) (r_s0 : 0 ≤ s0 ∧ s0 ≤ 1) (p_NP : NP M) (hf9 : 4 - l3 < (fu9 : Int) + 1) (iM : I n M) (kM : Keep n W_X9_isTree Me M) : wp (mX9_isTree_79 k9 126 l1 l3 s0 M) (fun q => I n q.2 ∧ Keep n W_X9_isTree Me q.2 ∧ (0 ≤ q.1 ∧ q.1 ≤ 1) ∧ True) := by
  have hn : (169 : Int) ≤ (n : Int) := by have := iM.2.2.2.2.1; omega
  unfold mX9_isTree_79
  have w1_ := wI_id (x := (l3 + 1)) (by omega) (by omega)
  exact hk9 _ _ _ _ ⟨by omega, by omega⟩ ⟨by omega, by omega⟩ ⟨by omega, by omega⟩ p_NP (by omega) iM kM
theorem s_X9_isTree_78 {n : Nat} {Me : Mem} {k9 : Int → Int → Int → Int → Mem → Option (Int × Mem)} {fu9 : Nat} (hk9 : ∀ (l1 l2 l3 : Int) (M : Mem), (0 ≤ l1 ∧ l1 ≤ 3) → (0 ≤ l2 ∧ l2 ≤ 1) → (0 ≤ l3 ∧ l3 ≤ 3) → (NP M) → 4 - l3 < (fu9 : Int) → I n M → Keep n W_X9_isTree Me M → wp (k9 126 l1 l2 l3 M) (fun q => I n q.2 ∧ Keep n W_X9_isTree Me q.2 ∧ (0 ≤ q.1 ∧ q.1 ≤ 1) ∧ True)) {l1 l3 : Int} {M : Mem} (r_l1 : 0 ≤ l1 ∧ l1 ≤ 3) (r_l3 : 0 ≤ l3 ∧ l3 ≤ 2) (p_NP : NP M) (hf9 : 4 - l3 < (fu9 : Int) + 1) (iM : I n M) (kM : Keep n W_X9_isTree Me M) : wp (mX9_isTree_78 k9 126 l1 l3 M) (fun q => I n q.2 ∧ Keep n W_X9_isTree Me q.2 ∧ (0 ≤ q.1 ∧ q.1 ≤ 1) ∧ True) := by
  have hn : (169 : Int) ≤ (n : Int) := by have := iM.2.2.2.2.1; omega
  unfold mX9_isTree_78
  exact s_X9_isTree_79 hk9 ⟨by omega, by omega⟩ ⟨by omega, by omega⟩ ⟨by omega, by omega⟩ p_NP (by omega) iM kM
theorem s_X9_isTree_44 {n : Nat} {Me : Mem} {k9 : Int → Int → Int → Int → Mem → Option (Int × Mem)} {fu9 : Nat} (hk9 : ∀ (l1 l2 l3 : Int) (M : Mem), (0 ≤ l1 ∧ l1 ≤ 3) → (0 ≤ l2 ∧ l2 ≤ 1) → (0 ≤ l3 ∧ l3 ≤ 3) → (NP M) → 4 - l3 < (fu9 : Int) → I n M → Keep n W_X9_isTree Me M → wp (k9 126 l1 l2 l3 M) (fun q => I n q.2 ∧ Keep n W_X9_isTree Me q.2 ∧ (0 ≤ q.1 ∧ q.1 ≤ 1) ∧ True)) {k20 : Int → Int → Int → Int → Int → Int → Mem → Option (Int × Mem)} {fu20 : Nat} (hk20 : ∀ (l1 l2 l3 l4 l5 : Int) (M : Mem), (0 ≤ l1 ∧ l1 ≤ 3) → (0 ≤ l2 ∧ l2 ≤ 1) → (0 ≤ l3 ∧ l3 ≤ 2) → ((-2147483648) ≤ l4 ∧ l4 ≤ 2147483647) → (0 ≤ l5 ∧ l5 ≤ 3) → (NP M) → 4 - l3 < (fu9 : Int) + 1 → 4 - l5 < (fu20 : Int) → I n M → Keep n W_X9_isTree Me M → wp (k20 126 l1 l2 l3 l4 l5 M) (fun q => I n q.2 ∧ Keep n W_X9_isTree Me q.2 ∧ (0 ≤ q.1 ∧ q.1 ≤ 1) ∧ True)) {l1 l2 l3 l5 s0 s1 : Int} {M : Mem} (r_l1 : 0 ≤ l1 ∧ l1 ≤ 3) (r_l2 : 0 ≤ l2 ∧ l2 ≤ 1) (r_l3 : 0 ≤ l3 ∧ l3 ≤ 2) (r_l5 : 0 ≤ l5 ∧ l5 ≤ 2) (r_s0 : (-2147483648) ≤ s0 ∧ s0 ≤ 2147483647) (r_s1 : 0 ≤ s1 ∧ s1 ≤ 1) (p_NP : NP M) (hf9 : 4 - l3 < (fu9 : Int) + 1) (hf20 : 4 - l5 < (fu20 : Int) + 1) (iM : I n M) (kM : Keep n W_X9_isTree Me M) : wp (mX9_isTree_44 k9 k20 126 l1 l2 l3 l5 s0 s1 M) (fun q => I n q.2 ∧ Keep n W_X9_isTree Me q.2 ∧ (0 ≤ q.1 ∧ q.1 ≤ 1) ∧ True) := by
  have hn : (169 : Int) ≤ (n : Int) := by have := iM.2.2.2.2.1; omega
  unfold mX9_isTree_44
  have w1_ := And.intro (wI_lo (s0 + s1)) (wI_hi (s0 + s1))
  have w2_ := wI_id (x := (l5 + 1)) (by omega) (by omega)
  exact hk20 _ _ _ _ _ _ ⟨by omega, by omega⟩ ⟨by omega, by omega⟩ ⟨by omega, by omega⟩ ⟨by omega, by omega⟩ ⟨by omega, by omega⟩ p_NP (by omega) (by omega) iM kM
theorem sb_X9_isTree_20 {n : Nat} {Me : Mem} {k9 : Int → Int → Int → Int → Mem → Option (Int × Mem)} {fu9 : Nat} (hk9 : ∀ (l1 l2 l3 : Int) (M : Mem), (0 ≤ l1 ∧ l1 ≤ 3) → (0 ≤ l2 ∧ l2 ≤ 1) → (0 ≤ l3 ∧ l3 ≤ 3) → (NP M) → 4 - l3 < (fu9 : Int) → I n M → Keep n W_X9_isTree Me M → wp (k9 126 l1 l2 l3 M) (fun q => I n q.2 ∧ Keep n W_X9_isTree Me q.2 ∧ (0 ≤ q.1 ∧ q.1 ≤ 1) ∧ True)) {k20 : Int → Int → Int → Int → Int → Int → Mem → Option (Int × Mem)} {fu20 : Nat} (hk20 : ∀ (l1 l2 l3 l4 l5 : Int) (M : Mem), (0 ≤ l1 ∧ l1 ≤ 3) → (0 ≤ l2 ∧ l2 ≤ 1) → (0 ≤ l3 ∧ l3 ≤ 2) → ((-2147483648) ≤ l4 ∧ l4 ≤ 2147483647) → (0 ≤ l5 ∧ l5 ≤ 3) → (NP M) → 4 - l3 < (fu9 : Int) + 1 → 4 - l5 < (fu20 : Int) → I n M → Keep n W_X9_isTree Me M → wp (k20 126 l1 l2 l3 l4 l5 M) (fun q => I n q.2 ∧ Keep n W_X9_isTree Me q.2 ∧ (0 ≤ q.1 ∧ q.1 ≤ 1) ∧ True)) {l1 l2 l3 l4 l5 : Int} {M : Mem} (r_l1 : 0 ≤ l1 ∧ l1 ≤ 3) (r_l2 : 0 ≤ l2 ∧ l2 ≤ 1) (r_l3 : 0 ≤ l3 ∧ l3 ≤ 2) (r_l4 : (-2147483648) ≤ l4 ∧ l4 ≤ 2147483647) (r_l5 : 0 ≤ l5 ∧ l5 ≤ 3) (p_NP : NP M) (hf9 : 4 - l3 < (fu9 : Int) + 1) (hf20 : 4 - l5 < (fu20 : Int) + 1) (iM : I n M) (kM : Keep n W_X9_isTree Me M) : wp (bX9_isTree_20 k9 k20 126 l1 l2 l3 l4 l5 M) (fun q => I n q.2 ∧ Keep n W_X9_isTree Me q.2 ∧ (0 ≤ q.1 ∧ q.1 ≤ 1) ∧ True) := by
  have hn : (169 : Int) ≤ (n : Int) := by have := iM.2.2.2.2.1; omega
  unfold bX9_isTree_20
  refine w_if (fun c1_ => ?_) (fun c1_ => ?_)
  · skip
    refine w_if (fun c2_ => ?_) (fun c2_ => ?_)
    · skip
      exact s_X9_isTree_78 hk9 ⟨by omega, by omega⟩ ⟨by omega, by omega⟩ p_NP (by omega) iM kM
    · skip
      refine w_if (fun c3_ => ?_) (fun c3_ => ?_)
      · skip
        exact s_X9_isTree_78 hk9 ⟨by omega, by omega⟩ ⟨by omega, by omega⟩ p_NP (by omega) iM kM
      · skip
        refine w_gFc (ji := 47) rfl (congrArg Prod.fst (kl_126 iM)) (show mG M 126 47 = 161 from rd_Model_47 iM (a := 126) rfl) ?_
        have w4_ := wI_id (x := (4 * l3)) (by omega) (by omega)
        refine w_aG (kl_161 iM) (by omega) (by omega) (fun a70 ha70 => ?_)
        have ra70 : 0 ≤ a70 ∧ a70 ≤ 1 := ha70.tr (P := fun z => 0 ≤ z ∧ z ≤ 1) (rd_Mjoined iM rfl)
        refine w_if (fun c5_ => ?_) (fun c5_ => ?_)
        · skip
          exact s_X9_isTree_79 hk9 ⟨by omega, by omega⟩ ⟨by omega, by omega⟩ ⟨by omega, by omega⟩ p_NP (by omega) iM kM
        · skip
          exact s_X9_isTree_78 hk9 ⟨by omega, by omega⟩ ⟨by omega, by omega⟩ p_NP (by omega) iM kM
  · skip
    refine w_gK (congrArg Prod.fst (kl_126 iM)) ?_
    refine w_call (s_X9_isSo ⟨by omega, by omega⟩ ⟨by omega, by omega⟩ ⟨by omega, by omega⟩ p_NP iM) ?_
    intro v33 m33 pp33
    obtain ⟨im33, kk33, e33_0, -⟩ := pp33
    try dsimp only
    replace im33 : I n m33 := im33
    replace kk33 : Keep n W_X9_isSo M m33 := kk33
    have km33 : Keep n W_X9_isTree Me m33 := kM.tr kk33 (fun b j z => z.elim)
    replace e33_0 : 0 ≤ v33 ∧ v33 ≤ 1 := e33_0
    refine w_if (fun c6_ => ?_) (fun c6_ => ?_)
    · skip
      have ppNP_m33 : NP m33 := (NP_of p_NP (fun j => kk33.2.2 152 j (by omega) (fun z => z)))
      exact s_X9_isTree_44 hk9 hk20 ⟨by omega, by omega⟩ ⟨by omega, by omega⟩ ⟨by omega, by omega⟩ ⟨by omega, by omega⟩ ⟨by omega, by omega⟩ ⟨by omega, by omega⟩ ppNP_m33 (by omega) (by omega) im33 km33
    · skip
      have ppNP_m33 : NP m33 := (NP_of p_NP (fun j => kk33.2.2 152 j (by omega) (fun z => z)))
      exact s_X9_isTree_44 hk9 hk20 ⟨by omega, by omega⟩ ⟨by omega, by omega⟩ ⟨by omega, by omega⟩ ⟨by omega, by omega⟩ ⟨by omega, by omega⟩ ⟨by omega, by omega⟩ ppNP_m33 (by omega) (by omega) im33 km33
theorem s_X9_isTree_20 {n : Nat} {Me : Mem} {k9 : Int → Int → Int → Int → Mem → Option (Int × Mem)} {fu9 : Nat} (hk9 : ∀ (l1 l2 l3 : Int) (M : Mem), (0 ≤ l1 ∧ l1 ≤ 3) → (0 ≤ l2 ∧ l2 ≤ 1) → (0 ≤ l3 ∧ l3 ≤ 3) → (NP M) → 4 - l3 < (fu9 : Int) → I n M → Keep n W_X9_isTree Me M → wp (k9 126 l1 l2 l3 M) (fun q => I n q.2 ∧ Keep n W_X9_isTree Me q.2 ∧ (0 ≤ q.1 ∧ q.1 ≤ 1) ∧ True)) : ∀ (fu : Nat) (l1 l2 l3 l4 l5 : Int) (M : Mem), (0 ≤ l1 ∧ l1 ≤ 3) → (0 ≤ l2 ∧ l2 ≤ 1) → (0 ≤ l3 ∧ l3 ≤ 2) → ((-2147483648) ≤ l4 ∧ l4 ≤ 2147483647) → (0 ≤ l5 ∧ l5 ≤ 3) → (NP M) → 4 - l3 < (fu9 : Int) + 1 → 4 - l5 < (fu : Int) → I n M → Keep n W_X9_isTree Me M → wp (mX9_isTree_20 k9 fu 126 l1 l2 l3 l4 l5 M) (fun q => I n q.2 ∧ Keep n W_X9_isTree Me q.2 ∧ (0 ≤ q.1 ∧ q.1 ≤ 1) ∧ True) := by
  intro fu
  induction fu with
  | zero =>
    intro l1 l2 l3 l4 l5 M r_l1 r_l2 r_l3 r_l4 r_l5 p_NP hf9 hf iM kM
    exfalso
    omega
  | succ fu ih =>
    intro l1 l2 l3 l4 l5 M r_l1 r_l2 r_l3 r_l4 r_l5 p_NP hf9 hf iM kM
    exact sb_X9_isTree_20 hk9 ih r_l1 r_l2 r_l3 r_l4 r_l5 p_NP hf9 (by have e : ((fu + 1 : Nat) : Int) = (fu : Int) + 1 := rfl; rw [e] at hf; exact hf) iM kM
theorem sb_X9_isTree_9 {n : Nat} {Me : Mem} {k9 : Int → Int → Int → Int → Mem → Option (Int × Mem)} {fu9 : Nat} (hk9 : ∀ (l1 l2 l3 : Int) (M : Mem), (0 ≤ l1 ∧ l1 ≤ 3) → (0 ≤ l2 ∧ l2 ≤ 1) → (0 ≤ l3 ∧ l3 ≤ 3) → (NP M) → 4 - l3 < (fu9 : Int) → I n M → Keep n W_X9_isTree Me M → wp (k9 126 l1 l2 l3 M) (fun q => I n q.2 ∧ Keep n W_X9_isTree Me q.2 ∧ (0 ≤ q.1 ∧ q.1 ≤ 1) ∧ True)) {l1 l2 l3 : Int} {M : Mem} (r_l1 : 0 ≤ l1 ∧ l1 ≤ 3) (r_l2 : 0 ≤ l2 ∧ l2 ≤ 1) (r_l3 : 0 ≤ l3 ∧ l3 ≤ 3) (p_NP : NP M) (hf9 : 4 - l3 < (fu9 : Int) + 1) (iM : I n M) (kM : Keep n W_X9_isTree Me M) : wp (bX9_isTree_9 k9 126 l1 l2 l3 M) (fun q => I n q.2 ∧ Keep n W_X9_isTree Me q.2 ∧ (0 ≤ q.1 ∧ q.1 ≤ 1) ∧ True) := by
  have hn : (169 : Int) ≤ (n : Int) := by have := iM.2.2.2.2.1; omega
  unfold bX9_isTree_9
  refine w_if (fun c1_ => ?_) (fun c1_ => ?_)
  · skip
    refine w_zR (by omega) (fun z hz => ?_)
    exact w_ret ⟨iM, kM, (show 0 ≤ z ∧ z ≤ 1 from ⟨by omega, by omega⟩), trivial⟩
  · skip
    exact s_X9_isTree_20 hk9 FU _ _ _ _ _ _ ⟨by omega, by omega⟩ ⟨by omega, by omega⟩ ⟨by omega, by omega⟩ ⟨by omega, by omega⟩ ⟨by omega, by omega⟩ p_NP (by omega) (by show _ < (70000 : Int); omega) iM kM
theorem s_X9_isTree_9 {n : Nat} {Me : Mem} : ∀ (fu : Nat) (l1 l2 l3 : Int) (M : Mem), (0 ≤ l1 ∧ l1 ≤ 3) → (0 ≤ l2 ∧ l2 ≤ 1) → (0 ≤ l3 ∧ l3 ≤ 3) → (NP M) → 4 - l3 < (fu : Int) → I n M → Keep n W_X9_isTree Me M → wp (mX9_isTree_9 fu 126 l1 l2 l3 M) (fun q => I n q.2 ∧ Keep n W_X9_isTree Me q.2 ∧ (0 ≤ q.1 ∧ q.1 ≤ 1) ∧ True) := by
  intro fu
  induction fu with
  | zero =>
    intro l1 l2 l3 M r_l1 r_l2 r_l3 p_NP hf iM kM
    exfalso
    omega
  | succ fu ih =>
    intro l1 l2 l3 M r_l1 r_l2 r_l3 p_NP hf iM kM
    exact sb_X9_isTree_9 ih r_l1 r_l2 r_l3 p_NP (by have e : ((fu + 1 : Nat) : Int) = (fu : Int) + 1 := rfl; rw [e] at hf; exact hf) iM kM
theorem s_X9_isTree {n : Nat} {l1 : Int} {M : Mem} (r_l1 : 0 ≤ l1 ∧ l1 ≤ 3) (p_NP : NP M) (iM : I n M) : wp (mX9_isTree 126 l1 M) (fun q => I n q.2 ∧ Keep n W_X9_isTree M q.2 ∧ (0 ≤ q.1 ∧ q.1 ≤ 1) ∧ True) := by
  have hn : (169 : Int) ≤ (n : Int) := by have := iM.2.2.2.2.1; omega
  have kM : Keep n W_X9_isTree M M := Keep.rf
  unfold mX9_isTree
  refine w_gK (congrArg Prod.fst (kl_126 iM)) ?_
  refine w_call (s_X9_findJoined ⟨by omega, by omega⟩ p_NP iM) ?_
  intro v2 m2 pp2
  obtain ⟨im2, kk2, -⟩ := pp2
  try dsimp only
  replace im2 : I n m2 := im2
  replace kk2 : Keep n W_X9_findJoined M m2 := kk2
  have km2 : Keep n W_X9_isTree M m2 := kM.tr kk2 (fun b j z => by unfold W_X9_findJoined at z; exact z)
  have ppNP_m2 : NP m2 := (NP_of p_NP (fun j => kk2.2.2 152 j (by omega) (fun z => by unfold W_X9_findJoined at z; (try unfold isWS at z); (try unfold isShape at z); (try unfold isTold at z); (try dsimp only at z); omega)))
  exact s_X9_isTree_9 FU _ _ _ _ ⟨by omega, by omega⟩ ⟨by omega, by omega⟩ ⟨by omega, by omega⟩ ppNP_m2 (by show _ < (70000 : Int); omega) im2 km2
def W_X9_valueIn (b j : Int) : Prop := False
theorem s_X9_valueIn {n : Nat} {l0 l1 : Int} {M : Mem} (r_l0 : 0 ≤ l0 ∧ l0 ≤ 80) (r_l1 : (-2147483648) ≤ l1 ∧ l1 ≤ 2147483647) (iM : I n M) : wp (mX9_valueIn l0 l1 M) (fun q => I n q.2 ∧ Keep n W_X9_valueIn M q.2 ∧ (0 ≤ q.1 ∧ q.1 ≤ 2) ∧ True) := by
  have hn : (169 : Int) ≤ (n : Int) := by have := iM.2.2.2.2.1; omega
  have kM : Keep n W_X9_valueIn M M := Keep.rf
  unfold mX9_valueIn
  refine w_call (s_X9_unit ⟨by omega, by omega⟩ iM) ?_
  intro v2 m2 pp2
  obtain ⟨im2, kk2, e2_0, -⟩ := pp2
  try dsimp only
  replace im2 : I n m2 := im2
  replace kk2 : Keep n W_X9_unit M m2 := kk2
  have km2 : Keep n W_X9_valueIn M m2 := kM.tr kk2 (fun b j z => z.elim)
  replace e2_0 : 1 ≤ v2 ∧ v2 ≤ 27 := e2_0
  refine w_dQ (by omega) (fun a5 ha5 => ?_)
  have ea5 : a5 = l0 / v2 := ha5.trans (idiv_e (by omega) (by omega) (by omega) (by omega))
  have ra5 : 0 ≤ a5 ∧ a5 ≤ l0 := by rw [ea5]; exact ⟨Int.ediv_nonneg (by omega) (by omega), Int.ediv_le_self _ (by omega)⟩
  refine w_dM (by omega) (fun a7 ha7 => ?_)
  have ea7 : a7 = a5 % 3 := ha7.trans (irem_e (by omega) (by omega) (by omega) (by omega))
  exact w_ret ⟨im2, km2, (show 0 ≤ a7 ∧ a7 ≤ 2 from ⟨by omega, by omega⟩), trivial⟩
def W_X9_leaf (b j : Int) : Prop := (160 ≤ b ∧ b ≤ 161) ∨ (b = 126 ∧ j = 46)
theorem s_X9_leaf_216 {n : Nat} {Me : Mem} {k51 : Int → Int → Int → Int → Int → Mem → Option (Int × Mem)} {fu51 : Nat} (hk51 : ∀ (l1 l2 l3 l4 : Int) (M : Mem), (0 ≤ l1 ∧ l1 ≤ 359) → (0 ≤ l2 ∧ l2 ≤ 12) → (0 ≤ l3 ∧ l3 ≤ 1) → (0 ≤ l4 ∧ l4 ≤ 81) → (mG M 142 l1 = l2) → (mG M 126 46 ≤ 39 ∧ mG M 126 46 = mG Me 126 46) → (VL M (l1)) → (NP M) → 82 - l4 < (fu51 : Int) → I n M → Keep n W_X9_leaf Me M → wp (k51 126 l1 l2 l3 l4 M) (fun q => I n q.2 ∧ Keep n W_X9_leaf Me q.2 ∧ (mG q.2 126 46 = mG Me 126 46 + 1) ∧ True)) {l1 l2 l3 l4 l5 : Int} {M : Mem} (r_l1 : 0 ≤ l1 ∧ l1 ≤ 359) (r_l2 : 0 ≤ l2 ∧ l2 ≤ 12) (r_l3 : 0 ≤ l3 ∧ l3 ≤ 1) (r_l4 : 0 ≤ l4 ∧ l4 ≤ 80) (r_l5 : 0 ≤ l5 ∧ l5 ≤ 1) (y0 : mG M 142 l1 = l2) (y1 : mG M 126 46 ≤ 39 ∧ mG M 126 46 = mG Me 126 46) (lpVL : VL M (l1)) (p_NP : NP M) (hf51 : 82 - l4 < (fu51 : Int) + 1) (iM : I n M) (kM : Keep n W_X9_leaf Me M) : wp (mX9_leaf_216 k51 126 l1 l2 l3 l4 l5 M) (fun q => I n q.2 ∧ Keep n W_X9_leaf Me q.2 ∧ (mG q.2 126 46 = mG Me 126 46 + 1) ∧ True) := by
  have hn : (169 : Int) ≤ (n : Int) := by have := iM.2.2.2.2.1; omega
  obtain ⟨nh0, enh0⟩ : ∃ v, Is (mG M 142 l1) v := ⟨_, rfl⟩
  have rnh0 : 0 ≤ nh0 ∧ nh0 ≤ 12 := by rw [← enh0.e]; exact rd_Mact iM rfl
  have qnh0 : mG M 142 l1 = nh0 := enh0
  (try rw [enh0.e] at y0); (try rw [enh0.e] at y1); (try rw [enh0.e] at hf51)
  obtain ⟨nh1, enh1⟩ : ∃ v, Is (mG M 126 46) v := ⟨_, rfl⟩
  have rnh1 : 0 ≤ nh1 ∧ nh1 ≤ 41 := by rw [← enh1.e]; exact rd_Model_46 iM rfl
  have qnh1 : mG M 126 46 = nh1 := enh1
  (try rw [enh1.e] at y0); (try rw [enh1.e] at y1); (try rw [enh1.e] at hf51)
  unfold mX9_leaf_216
  refine w_gFc (ji := 45) rfl (congrArg Prod.fst (kl_126 iM)) (show mG M 126 45 = 160 from rd_Model_45 iM (a := 126) rfl) ?_
  refine w_gFc (ji := 46) rfl (congrArg Prod.fst (kl_126 iM)) (show mG M 126 46 = nh1 from (show mG M 126 46 = nh1 from enh1)) ?_
  have w1_ := wI_id (x := (81 * nh1)) (by omega) (by omega)
  have w2_ := wI_id (x := ((wI (81 * nh1)) + l4)) (by omega) (by omega)
  refine w_aSZ (kl_160 iM) (by omega) (by omega) (by omega) (fun M232 hM232 => ?_)
  replace hM232 : M232 = mS M 160 (wI ((wI (81 * nh1)) + l4)) l5 := hM232
  have iM232 : I n M232 := wr_Mready iM rfl ⟨by omega, by omega⟩ hM232
  have kM232 : Keep n W_X9_leaf Me M232 := kM.st hM232 (Or.inl (Or.inl ⟨by decide, by decide⟩))
  have w3_ := wI_id (x := (l4 + 1)) (by omega) (by omega)
  have lp4_ : VL M232 (l1) := (VL_of lpVL (fun j => st_ne hM232 (fun z => ne_fam rfl rfl (by decide) z.1)) (fun j => st_ne hM232 (fun z => ne_fam rfl rfl (by decide) z.1)) (fun j => st_ne hM232 (fun z => ne_fam rfl rfl (by decide) z.1)))
  have ppNP_M232 : NP M232 := (NP_of p_NP (fun j => st_ne hM232 (fun z => ne_fam rfl rfl (by decide) z.1)))
  exact hk51 _ _ _ _ _ ⟨by omega, by omega⟩ ⟨by omega, by omega⟩ ⟨by omega, by omega⟩ ⟨by omega, by omega⟩ (by (try rw [(show mG M232 142 l1 = nh0 from ((st_ne hM232 (fun z => ne_fam rfl rfl (by decide) z.1)).trans (show mG M 142 l1 = nh0 from enh0)))]); (try rw [(show mG M232 126 46 = nh1 from ((st_ne hM232 (fun z => ne_fam rfl rfl (by decide) z.1)).trans (show mG M 126 46 = nh1 from enh1)))]); all_goals omega) (by (try rw [(show mG M232 142 l1 = nh0 from ((st_ne hM232 (fun z => ne_fam rfl rfl (by decide) z.1)).trans (show mG M 142 l1 = nh0 from enh0)))]); (try rw [(show mG M232 126 46 = nh1 from ((st_ne hM232 (fun z => ne_fam rfl rfl (by decide) z.1)).trans (show mG M 126 46 = nh1 from enh1)))]); all_goals omega) (VL.mono lp4_ (by omega)) ppNP_M232 (by omega) iM232 kM232
theorem s_X9_leaf_97 {n : Nat} {Me : Mem} {k51 : Int → Int → Int → Int → Int → Mem → Option (Int × Mem)} {fu51 : Nat} (hk51 : ∀ (l1 l2 l3 l4 : Int) (M : Mem), (0 ≤ l1 ∧ l1 ≤ 359) → (0 ≤ l2 ∧ l2 ≤ 12) → (0 ≤ l3 ∧ l3 ≤ 1) → (0 ≤ l4 ∧ l4 ≤ 81) → (mG M 142 l1 = l2) → (mG M 126 46 ≤ 39 ∧ mG M 126 46 = mG Me 126 46) → (VL M (l1)) → (NP M) → 82 - l4 < (fu51 : Int) → I n M → Keep n W_X9_leaf Me M → wp (k51 126 l1 l2 l3 l4 M) (fun q => I n q.2 ∧ Keep n W_X9_leaf Me q.2 ∧ (mG q.2 126 46 = mG Me 126 46 + 1) ∧ True)) {l1 l2 l3 l4 s0 : Int} {M : Mem} (r_l1 : 0 ≤ l1 ∧ l1 ≤ 359) (r_l2 : 8 ≤ l2 ∧ l2 ≤ 8) (r_l3 : 0 ≤ l3 ∧ l3 ≤ 1) (r_l4 : 0 ≤ l4 ∧ l4 ≤ 80) (r_s0 : 0 ≤ s0 ∧ s0 ≤ 1) (y0 : mG M 142 l1 = l2) (y1 : mG M 126 46 ≤ 39 ∧ mG M 126 46 = mG Me 126 46) (lpVL : VL M (l1)) (p_NP : NP M) (hf51 : 82 - l4 < (fu51 : Int) + 1) (iM : I n M) (kM : Keep n W_X9_leaf Me M) : wp (mX9_leaf_97 k51 126 l1 l2 l3 l4 s0 M) (fun q => I n q.2 ∧ Keep n W_X9_leaf Me q.2 ∧ (mG q.2 126 46 = mG Me 126 46 + 1) ∧ True) := by
  have hn : (169 : Int) ≤ (n : Int) := by have := iM.2.2.2.2.1; omega
  obtain ⟨nh0, enh0⟩ : ∃ v, Is (mG M 142 l1) v := ⟨_, rfl⟩
  have rnh0 : 0 ≤ nh0 ∧ nh0 ≤ 12 := by rw [← enh0.e]; exact rd_Mact iM rfl
  have qnh0 : mG M 142 l1 = nh0 := enh0
  (try rw [enh0.e] at y0); (try rw [enh0.e] at y1); (try rw [enh0.e] at hf51)
  obtain ⟨nh1, enh1⟩ : ∃ v, Is (mG M 126 46) v := ⟨_, rfl⟩
  have rnh1 : 0 ≤ nh1 ∧ nh1 ≤ 41 := by rw [← enh1.e]; exact rd_Model_46 iM rfl
  have qnh1 : mG M 126 46 = nh1 := enh1
  (try rw [enh1.e] at y0); (try rw [enh1.e] at y1); (try rw [enh1.e] at hf51)
  unfold mX9_leaf_97
  exact s_X9_leaf_216 hk51 ⟨by omega, by omega⟩ ⟨by omega, by omega⟩ ⟨by omega, by omega⟩ ⟨by omega, by omega⟩ ⟨by omega, by omega⟩ (by (try rw [(show mG M 142 l1 = nh0 from (show mG M 142 l1 = nh0 from enh0))]); (try rw [(show mG M 126 46 = nh1 from (show mG M 126 46 = nh1 from enh1))]); all_goals omega) (by (try rw [(show mG M 142 l1 = nh0 from (show mG M 142 l1 = nh0 from enh0))]); (try rw [(show mG M 126 46 = nh1 from (show mG M 126 46 = nh1 from enh1))]); all_goals omega) (VL.mono lpVL (by omega)) p_NP (by omega) iM kM
theorem sb_X9_leaf_51 {n : Nat} {Me : Mem} {k51 : Int → Int → Int → Int → Int → Mem → Option (Int × Mem)} {fu51 : Nat} (hk51 : ∀ (l1 l2 l3 l4 : Int) (M : Mem), (0 ≤ l1 ∧ l1 ≤ 359) → (0 ≤ l2 ∧ l2 ≤ 12) → (0 ≤ l3 ∧ l3 ≤ 1) → (0 ≤ l4 ∧ l4 ≤ 81) → (mG M 142 l1 = l2) → (mG M 126 46 ≤ 39 ∧ mG M 126 46 = mG Me 126 46) → (VL M (l1)) → (NP M) → 82 - l4 < (fu51 : Int) → I n M → Keep n W_X9_leaf Me M → wp (k51 126 l1 l2 l3 l4 M) (fun q => I n q.2 ∧ Keep n W_X9_leaf Me q.2 ∧ (mG q.2 126 46 = mG Me 126 46 + 1) ∧ True)) {l1 l2 l3 l4 : Int} {M : Mem} (r_l1 : 0 ≤ l1 ∧ l1 ≤ 359) (r_l2 : 0 ≤ l2 ∧ l2 ≤ 12) (r_l3 : 0 ≤ l3 ∧ l3 ≤ 1) (r_l4 : 0 ≤ l4 ∧ l4 ≤ 81) (y0 : mG M 142 l1 = l2) (y1 : mG M 126 46 ≤ 39 ∧ mG M 126 46 = mG Me 126 46) (lpVL : VL M (l1)) (p_NP : NP M) (hf51 : 82 - l4 < (fu51 : Int) + 1) (iM : I n M) (kM : Keep n W_X9_leaf Me M) : wp (bX9_leaf_51 k51 126 l1 l2 l3 l4 M) (fun q => I n q.2 ∧ Keep n W_X9_leaf Me q.2 ∧ (mG q.2 126 46 = mG Me 126 46 + 1) ∧ True) := by
  have hn : (169 : Int) ≤ (n : Int) := by have := iM.2.2.2.2.1; omega
  obtain ⟨nh0, enh0⟩ : ∃ v, Is (mG M 142 l1) v := ⟨_, rfl⟩
  have rnh0 : 0 ≤ nh0 ∧ nh0 ≤ 12 := by rw [← enh0.e]; exact rd_Mact iM rfl
  have qnh0 : mG M 142 l1 = nh0 := enh0
  (try rw [enh0.e] at y0); (try rw [enh0.e] at y1); (try rw [enh0.e] at hf51)
  obtain ⟨nh1, enh1⟩ : ∃ v, Is (mG M 126 46) v := ⟨_, rfl⟩
  have rnh1 : 0 ≤ nh1 ∧ nh1 ≤ 41 := by rw [← enh1.e]; exact rd_Model_46 iM rfl
  have qnh1 : mG M 126 46 = nh1 := enh1
  (try rw [enh1.e] at y0); (try rw [enh1.e] at y1); (try rw [enh1.e] at hf51)
  unfold bX9_leaf_51
  refine w_if (fun c1_ => ?_) (fun c1_ => ?_)
  · skip
    refine w_gFc (ji := 46) rfl (congrArg Prod.fst (kl_126 iM)) (show mG M 126 46 = nh1 from (show mG M 126 46 = nh1 from enh1)) ?_
    have w2_ := wI_id (x := (nh1 + 1)) (by omega) (by omega)
    refine w_pF (ji := 46) rfl (congrArg Prod.fst (kl_126 iM)) (fun M246 hM246 => ?_)
    replace hM246 : M246 = mS M 126 46 (wI (nh1 + 1)) := hM246
    have iM246 : I n M246 := wr_Model_46 iM rfl ⟨by omega, by omega⟩ hM246
    have kM246 : Keep n W_X9_leaf Me M246 := kM.st hM246 (Or.inl (Or.inr ⟨rfl, rfl⟩))
    obtain ⟨svM246, esvM246⟩ : ∃ z, z = (wI (nh1 + 1)) := ⟨_, rfl⟩
    exact w_ret ⟨iM246, kM246, (show mG M246 126 46 = mG Me 126 46 + 1 from (by (try rw [(show mG M246 126 46 = svM246 from (show mG M246 126 46 = svM246 from ((st_eq hM246).trans esvM246.symm)))]); all_goals omega)), trivial⟩
  · skip
    refine w_if (fun c3_ => ?_) (fun c3_ => ?_)
    · skip
      refine w_gFc (ji := 17) rfl (congrArg Prod.fst (kl_126 iM)) (show mG M 126 17 = 143 from rd_Model_17 iM (a := 126) rfl) ?_
      refine w_aG (kl_143 iM) (by omega) (by omega) (fun a74 ha74 => ?_)
      have ra74 : (-1) ≤ a74 ∧ a74 ≤ 3 := ha74.tr (P := fun z => (-1) ≤ z ∧ z ≤ 3) (rd_Mone iM rfl)
      have z1a74 := lpVL.1
      have z2a74 := ha74.e
      have z3a74 : mG M 142 l1 = nh0 := (show mG M 142 l1 = nh0 from enh0)
      refine w_call (s_X9_valueIn ⟨by omega, by omega⟩ ⟨by omega, by omega⟩ iM) ?_
      intro v75 m75 pp75
      obtain ⟨im75, kk75, e75_0, -⟩ := pp75
      try dsimp only
      replace im75 : I n m75 := im75
      replace kk75 : Keep n W_X9_valueIn M m75 := kk75
      have km75 : Keep n W_X9_leaf Me m75 := kM.tr kk75 (fun b j z => z.elim)
      replace e75_0 : 0 ≤ v75 ∧ v75 ≤ 2 := e75_0
      refine w_gFc (ji := 18) rfl (congrArg Prod.fst (kl_126 im75)) (show mG m75 126 18 = 144 from rd_Model_18 im75 (a := 126) rfl) ?_
      refine w_aG (kl_144 im75) (by omega) (by omega) (fun a85 ha85 => ?_)
      have ra85 : (-1) ≤ a85 ∧ a85 ≤ 3 := ha85.tr (P := fun z => (-1) ≤ z ∧ z ≤ 3) (rd_Mtwo im75 rfl)
      have lp4_ : VL m75 (l1) := (VL_of lpVL (fun j => kk75.2.2 142 j (by omega) (fun z => z)) (fun j => kk75.2.2 143 j (by omega) (fun z => z)) (fun j => kk75.2.2 144 j (by omega) (fun z => z)))
      have z1a85 := lp4_.2
      have z2a85 := ha85.e
      have z3a85 : mG m75 142 l1 = nh0 := ((kk75.2.2 142 l1 (by omega) (fun z => z)).trans (show mG M 142 l1 = nh0 from enh0))
      refine w_call (s_X9_valueIn ⟨by omega, by omega⟩ ⟨by omega, by omega⟩ im75) ?_
      intro v86 m86 pp86
      obtain ⟨im86, kk86, e86_0, -⟩ := pp86
      try dsimp only
      replace im86 : I n m86 := im86
      replace kk86 : Keep n W_X9_valueIn m75 m86 := kk86
      have km86 : Keep n W_X9_leaf Me m86 := km75.tr kk86 (fun b j z => z.elim)
      replace e86_0 : 0 ≤ v86 ∧ v86 ≤ 2 := e86_0
      refine w_if (fun c5_ => ?_) (fun c5_ => ?_)
      · skip
        have lp6_ : VL m86 (l1) := (VL_of lp4_ (fun j => kk86.2.2 142 j (by omega) (fun z => z)) (fun j => kk86.2.2 143 j (by omega) (fun z => z)) (fun j => kk86.2.2 144 j (by omega) (fun z => z)))
        have ppNP_m86 : NP m86 := (NP_of (NP_of p_NP (fun j => kk75.2.2 152 j (by omega) (fun z => z))) (fun j => kk86.2.2 152 j (by omega) (fun z => z)))
        exact s_X9_leaf_97 hk51 ⟨by omega, by omega⟩ ⟨by omega, by omega⟩ ⟨by omega, by omega⟩ ⟨by omega, by omega⟩ ⟨by omega, by omega⟩ (by (try rw [(show mG m86 142 l1 = nh0 from ((kk86.2.2 142 l1 (by omega) (fun z => z)).trans ((kk75.2.2 142 l1 (by omega) (fun z => z)).trans (show mG M 142 l1 = nh0 from enh0))))]); (try rw [(show mG m86 126 46 = nh1 from ((kk86.2.2 126 46 (by omega) (fun z => z)).trans ((kk75.2.2 126 46 (by omega) (fun z => z)).trans (show mG M 126 46 = nh1 from enh1))))]); all_goals omega) (by (try rw [(show mG m86 142 l1 = nh0 from ((kk86.2.2 142 l1 (by omega) (fun z => z)).trans ((kk75.2.2 142 l1 (by omega) (fun z => z)).trans (show mG M 142 l1 = nh0 from enh0))))]); (try rw [(show mG m86 126 46 = nh1 from ((kk86.2.2 126 46 (by omega) (fun z => z)).trans ((kk75.2.2 126 46 (by omega) (fun z => z)).trans (show mG M 126 46 = nh1 from enh1))))]); all_goals omega) (VL.mono lp6_ (by omega)) ppNP_m86 (by omega) im86 km86
      · skip
        have lp7_ : VL m86 (l1) := (VL_of lp4_ (fun j => kk86.2.2 142 j (by omega) (fun z => z)) (fun j => kk86.2.2 143 j (by omega) (fun z => z)) (fun j => kk86.2.2 144 j (by omega) (fun z => z)))
        have ppNP_m86 : NP m86 := (NP_of (NP_of p_NP (fun j => kk75.2.2 152 j (by omega) (fun z => z))) (fun j => kk86.2.2 152 j (by omega) (fun z => z)))
        exact s_X9_leaf_97 hk51 ⟨by omega, by omega⟩ ⟨by omega, by omega⟩ ⟨by omega, by omega⟩ ⟨by omega, by omega⟩ ⟨by omega, by omega⟩ (by (try rw [(show mG m86 142 l1 = nh0 from ((kk86.2.2 142 l1 (by omega) (fun z => z)).trans ((kk75.2.2 142 l1 (by omega) (fun z => z)).trans (show mG M 142 l1 = nh0 from enh0))))]); (try rw [(show mG m86 126 46 = nh1 from ((kk86.2.2 126 46 (by omega) (fun z => z)).trans ((kk75.2.2 126 46 (by omega) (fun z => z)).trans (show mG M 126 46 = nh1 from enh1))))]); all_goals omega) (by (try rw [(show mG m86 142 l1 = nh0 from ((kk86.2.2 142 l1 (by omega) (fun z => z)).trans ((kk75.2.2 142 l1 (by omega) (fun z => z)).trans (show mG M 142 l1 = nh0 from enh0))))]); (try rw [(show mG m86 126 46 = nh1 from ((kk86.2.2 126 46 (by omega) (fun z => z)).trans ((kk75.2.2 126 46 (by omega) (fun z => z)).trans (show mG M 126 46 = nh1 from enh1))))]); all_goals omega) (VL.mono lp7_ (by omega)) ppNP_m86 (by omega) im86 km86
    · skip
      refine w_if (fun c8_ => ?_) (fun c8_ => ?_)
      · skip
        refine w_gFc (ji := 47) rfl (congrArg Prod.fst (kl_126 iM)) (show mG M 126 47 = 161 from rd_Model_47 iM (a := 126) rfl) ?_
        refine w_gFc (ji := 18) rfl (congrArg Prod.fst (kl_126 iM)) (show mG M 126 18 = 144 from rd_Model_18 iM (a := 126) rfl) ?_
        refine w_aG (kl_144 iM) (by omega) (by omega) (fun a120 ha120 => ?_)
        have ra120 : (-1) ≤ a120 ∧ a120 ≤ 3 := ha120.tr (P := fun z => (-1) ≤ z ∧ z ≤ 3) (rd_Mtwo iM rfl)
        have z1a120 := lpVL.2
        have z2a120 := ha120.e
        have z3a120 : mG M 142 l1 = nh0 := (show mG M 142 l1 = nh0 from enh0)
        refine w_call (s_X9_valueIn ⟨by omega, by omega⟩ ⟨by omega, by omega⟩ iM) ?_
        intro v121 m121 pp121
        obtain ⟨im121, kk121, e121_0, -⟩ := pp121
        try dsimp only
        replace im121 : I n m121 := im121
        replace kk121 : Keep n W_X9_valueIn M m121 := kk121
        have km121 : Keep n W_X9_leaf Me m121 := kM.tr kk121 (fun b j z => z.elim)
        replace e121_0 : 0 ≤ v121 ∧ v121 ≤ 2 := e121_0
        refine w_gFc (ji := 19) rfl (congrArg Prod.fst (kl_126 im121)) (show mG m121 126 19 = 145 from rd_Model_19 im121 (a := 126) rfl) ?_
        refine w_aG (kl_145 im121) (by omega) (by omega) (fun a132 ha132 => ?_)
        have ra132 : (-2147483648) ≤ a132 ∧ a132 ≤ 2147483647 := ha132.tr (P := fun z => (-2147483648) ≤ z ∧ z ≤ 2147483647) (rd_Mthree im121 rfl)
        refine w_call (s_X9_valueIn ⟨by omega, by omega⟩ ⟨by omega, by omega⟩ im121) ?_
        intro v133 m133 pp133
        obtain ⟨im133, kk133, e133_0, -⟩ := pp133
        try dsimp only
        replace im133 : I n m133 := im133
        replace kk133 : Keep n W_X9_valueIn m121 m133 := kk133
        have km133 : Keep n W_X9_leaf Me m133 := km121.tr kk133 (fun b j z => z.elim)
        replace e133_0 : 0 ≤ v133 ∧ v133 ≤ 2 := e133_0
        have w9_ := wI_id (x := (3 * v121)) (by omega) (by omega)
        have w10_ := wI_id (x := ((wI (3 * v121)) + v133)) (by omega) (by omega)
        refine w_aG (kl_161 im133) (by omega) (by omega) (fun a137 ha137 => ?_)
        have ra137 : 0 ≤ a137 ∧ a137 ≤ 1 := ha137.tr (P := fun z => 0 ≤ z ∧ z ≤ 1) (rd_Mjoined im133 rfl)
        have lp11_ : VL m133 (l1) := (VL_of (VL_of lpVL (fun j => kk121.2.2 142 j (by omega) (fun z => z)) (fun j => kk121.2.2 143 j (by omega) (fun z => z)) (fun j => kk121.2.2 144 j (by omega) (fun z => z))) (fun j => kk133.2.2 142 j (by omega) (fun z => z)) (fun j => kk133.2.2 143 j (by omega) (fun z => z)) (fun j => kk133.2.2 144 j (by omega) (fun z => z)))
        have ppNP_m133 : NP m133 := (NP_of (NP_of p_NP (fun j => kk121.2.2 152 j (by omega) (fun z => z))) (fun j => kk133.2.2 152 j (by omega) (fun z => z)))
        exact s_X9_leaf_216 hk51 ⟨by omega, by omega⟩ ⟨by omega, by omega⟩ ⟨by omega, by omega⟩ ⟨by omega, by omega⟩ ⟨by omega, by omega⟩ (by (try rw [(show mG m133 142 l1 = nh0 from ((kk133.2.2 142 l1 (by omega) (fun z => z)).trans ((kk121.2.2 142 l1 (by omega) (fun z => z)).trans (show mG M 142 l1 = nh0 from enh0))))]); (try rw [(show mG m133 126 46 = nh1 from ((kk133.2.2 126 46 (by omega) (fun z => z)).trans ((kk121.2.2 126 46 (by omega) (fun z => z)).trans (show mG M 126 46 = nh1 from enh1))))]); all_goals omega) (by (try rw [(show mG m133 142 l1 = nh0 from ((kk133.2.2 142 l1 (by omega) (fun z => z)).trans ((kk121.2.2 142 l1 (by omega) (fun z => z)).trans (show mG M 142 l1 = nh0 from enh0))))]); (try rw [(show mG m133 126 46 = nh1 from ((kk133.2.2 126 46 (by omega) (fun z => z)).trans ((kk121.2.2 126 46 (by omega) (fun z => z)).trans (show mG M 126 46 = nh1 from enh1))))]); all_goals omega) (VL.mono lp11_ (by omega)) ppNP_m133 (by omega) im133 km133
      · skip
        refine w_if (fun c12_ => ?_) (fun c12_ => ?_)
        · skip
          refine w_gFc (ji := 17) rfl (congrArg Prod.fst (kl_126 iM)) (show mG M 126 17 = 143 from rd_Model_17 iM (a := 126) rfl) ?_
          refine w_aG (kl_143 iM) (by omega) (by omega) (fun a155 ha155 => ?_)
          have ra155 : (-1) ≤ a155 ∧ a155 ≤ 3 := ha155.tr (P := fun z => (-1) ≤ z ∧ z ≤ 3) (rd_Mone iM rfl)
          have z1a155 := lpVL.1
          have z2a155 := ha155.e
          have z3a155 : mG M 142 l1 = nh0 := (show mG M 142 l1 = nh0 from enh0)
          refine w_gFc (ji := 18) rfl (congrArg Prod.fst (kl_126 iM)) (show mG M 126 18 = 144 from rd_Model_18 iM (a := 126) rfl) ?_
          refine w_aG (kl_144 iM) (by omega) (by omega) (fun a163 ha163 => ?_)
          have ra163 : (-1) ≤ a163 ∧ a163 ≤ 3 := ha163.tr (P := fun z => (-1) ≤ z ∧ z ≤ 3) (rd_Mtwo iM rfl)
          have z1a163 := lpVL.2
          have z2a163 := ha163.e
          have z3a163 : mG M 142 l1 = nh0 := (show mG M 142 l1 = nh0 from enh0)
          refine w_call (s_X9_valueIn ⟨by omega, by omega⟩ ⟨by omega, by omega⟩ iM) ?_
          intro v164 m164 pp164
          obtain ⟨im164, kk164, e164_0, -⟩ := pp164
          try dsimp only
          replace im164 : I n m164 := im164
          replace kk164 : Keep n W_X9_valueIn M m164 := kk164
          have km164 : Keep n W_X9_leaf Me m164 := kM.tr kk164 (fun b j z => z.elim)
          replace e164_0 : 0 ≤ v164 ∧ v164 ≤ 2 := e164_0
          refine w_gK (congrArg Prod.fst (kl_126 im164)) ?_
          have ppNP_m164 : NP m164 := (NP_of p_NP (fun j => kk164.2.2 152 j (by omega) (fun z => z)))
          refine w_call (s_X9_isSo ⟨by omega, by omega⟩ ⟨by omega, by omega⟩ ⟨by omega, by omega⟩ ppNP_m164 im164) ?_
          intro v168 m168 pp168
          obtain ⟨im168, kk168, e168_0, -⟩ := pp168
          try dsimp only
          replace im168 : I n m168 := im168
          replace kk168 : Keep n W_X9_isSo m164 m168 := kk168
          have km168 : Keep n W_X9_leaf Me m168 := km164.tr kk168 (fun b j z => z.elim)
          replace e168_0 : 0 ≤ v168 ∧ v168 ≤ 1 := e168_0
          have lp13_ : VL m168 (l1) := (VL_of (VL_of lpVL (fun j => kk164.2.2 142 j (by omega) (fun z => z)) (fun j => kk164.2.2 143 j (by omega) (fun z => z)) (fun j => kk164.2.2 144 j (by omega) (fun z => z))) (fun j => kk168.2.2 142 j (by omega) (fun z => z)) (fun j => kk168.2.2 143 j (by omega) (fun z => z)) (fun j => kk168.2.2 144 j (by omega) (fun z => z)))
          have ppNP_m168 : NP m168 := (NP_of ppNP_m164 (fun j => kk168.2.2 152 j (by omega) (fun z => z)))
          exact s_X9_leaf_216 hk51 ⟨by omega, by omega⟩ ⟨by omega, by omega⟩ ⟨by omega, by omega⟩ ⟨by omega, by omega⟩ ⟨by omega, by omega⟩ (by (try rw [(show mG m168 142 l1 = nh0 from ((kk168.2.2 142 l1 (by omega) (fun z => z)).trans ((kk164.2.2 142 l1 (by omega) (fun z => z)).trans (show mG M 142 l1 = nh0 from enh0))))]); (try rw [(show mG m168 126 46 = nh1 from ((kk168.2.2 126 46 (by omega) (fun z => z)).trans ((kk164.2.2 126 46 (by omega) (fun z => z)).trans (show mG M 126 46 = nh1 from enh1))))]); all_goals omega) (by (try rw [(show mG m168 142 l1 = nh0 from ((kk168.2.2 142 l1 (by omega) (fun z => z)).trans ((kk164.2.2 142 l1 (by omega) (fun z => z)).trans (show mG M 142 l1 = nh0 from enh0))))]); (try rw [(show mG m168 126 46 = nh1 from ((kk168.2.2 126 46 (by omega) (fun z => z)).trans ((kk164.2.2 126 46 (by omega) (fun z => z)).trans (show mG M 126 46 = nh1 from enh1))))]); all_goals omega) (VL.mono lp13_ (by omega)) ppNP_m168 (by omega) im168 km168
        · skip
          refine w_if (fun c14_ => ?_) (fun c14_ => ?_)
          · skip
            refine w_gFc (ji := 17) rfl (congrArg Prod.fst (kl_126 iM)) (show mG M 126 17 = 143 from rd_Model_17 iM (a := 126) rfl) ?_
            refine w_aG (kl_143 iM) (by omega) (by omega) (fun a188 ha188 => ?_)
            have ra188 : (-1) ≤ a188 ∧ a188 ≤ 3 := ha188.tr (P := fun z => (-1) ≤ z ∧ z ≤ 3) (rd_Mone iM rfl)
            have z1a188 := lpVL.1
            have z2a188 := ha188.e
            have z3a188 : mG M 142 l1 = nh0 := (show mG M 142 l1 = nh0 from enh0)
            refine w_gFc (ji := 18) rfl (congrArg Prod.fst (kl_126 iM)) (show mG M 126 18 = 144 from rd_Model_18 iM (a := 126) rfl) ?_
            refine w_aG (kl_144 iM) (by omega) (by omega) (fun a196 ha196 => ?_)
            have ra196 : (-1) ≤ a196 ∧ a196 ≤ 3 := ha196.tr (P := fun z => (-1) ≤ z ∧ z ≤ 3) (rd_Mtwo iM rfl)
            have z1a196 := lpVL.2
            have z2a196 := ha196.e
            have z3a196 : mG M 142 l1 = nh0 := (show mG M 142 l1 = nh0 from enh0)
            refine w_call (s_X9_valueIn ⟨by omega, by omega⟩ ⟨by omega, by omega⟩ iM) ?_
            intro v197 m197 pp197
            obtain ⟨im197, kk197, e197_0, -⟩ := pp197
            try dsimp only
            replace im197 : I n m197 := im197
            replace kk197 : Keep n W_X9_valueIn M m197 := kk197
            have km197 : Keep n W_X9_leaf Me m197 := kM.tr kk197 (fun b j z => z.elim)
            replace e197_0 : 0 ≤ v197 ∧ v197 ≤ 2 := e197_0
            refine w_gFc (ji := 19) rfl (congrArg Prod.fst (kl_126 im197)) (show mG m197 126 19 = 145 from rd_Model_19 im197 (a := 126) rfl) ?_
            refine w_aG (kl_145 im197) (by omega) (by omega) (fun a207 ha207 => ?_)
            have ra207 : (-2147483648) ≤ a207 ∧ a207 ≤ 2147483647 := ha207.tr (P := fun z => (-2147483648) ≤ z ∧ z ≤ 2147483647) (rd_Mthree im197 rfl)
            refine w_call (s_X9_valueIn ⟨by omega, by omega⟩ ⟨by omega, by omega⟩ im197) ?_
            intro v208 m208 pp208
            obtain ⟨im208, kk208, e208_0, -⟩ := pp208
            try dsimp only
            replace im208 : I n m208 := im208
            replace kk208 : Keep n W_X9_valueIn m197 m208 := kk208
            have km208 : Keep n W_X9_leaf Me m208 := km197.tr kk208 (fun b j z => z.elim)
            replace e208_0 : 0 ≤ v208 ∧ v208 ≤ 2 := e208_0
            refine w_gK (congrArg Prod.fst (kl_126 im208)) ?_
            have ppNP_m208 : NP m208 := (NP_of (NP_of p_NP (fun j => kk197.2.2 152 j (by omega) (fun z => z))) (fun j => kk208.2.2 152 j (by omega) (fun z => z)))
            refine w_call (s_X9_isSo ⟨by omega, by omega⟩ ⟨by omega, by omega⟩ ⟨by omega, by omega⟩ ppNP_m208 im208) ?_
            intro v211 m211 pp211
            obtain ⟨im211, kk211, e211_0, -⟩ := pp211
            try dsimp only
            replace im211 : I n m211 := im211
            replace kk211 : Keep n W_X9_isSo m208 m211 := kk211
            have km211 : Keep n W_X9_leaf Me m211 := km208.tr kk211 (fun b j z => z.elim)
            replace e211_0 : 0 ≤ v211 ∧ v211 ≤ 1 := e211_0
            have lp15_ : VL m211 (l1) := (VL_of (VL_of (VL_of lpVL (fun j => kk197.2.2 142 j (by omega) (fun z => z)) (fun j => kk197.2.2 143 j (by omega) (fun z => z)) (fun j => kk197.2.2 144 j (by omega) (fun z => z))) (fun j => kk208.2.2 142 j (by omega) (fun z => z)) (fun j => kk208.2.2 143 j (by omega) (fun z => z)) (fun j => kk208.2.2 144 j (by omega) (fun z => z))) (fun j => kk211.2.2 142 j (by omega) (fun z => z)) (fun j => kk211.2.2 143 j (by omega) (fun z => z)) (fun j => kk211.2.2 144 j (by omega) (fun z => z)))
            have ppNP_m211 : NP m211 := (NP_of ppNP_m208 (fun j => kk211.2.2 152 j (by omega) (fun z => z)))
            exact s_X9_leaf_216 hk51 ⟨by omega, by omega⟩ ⟨by omega, by omega⟩ ⟨by omega, by omega⟩ ⟨by omega, by omega⟩ ⟨by omega, by omega⟩ (by (try rw [(show mG m211 142 l1 = nh0 from ((kk211.2.2 142 l1 (by omega) (fun z => z)).trans ((kk208.2.2 142 l1 (by omega) (fun z => z)).trans ((kk197.2.2 142 l1 (by omega) (fun z => z)).trans (show mG M 142 l1 = nh0 from enh0)))))]); (try rw [(show mG m211 126 46 = nh1 from ((kk211.2.2 126 46 (by omega) (fun z => z)).trans ((kk208.2.2 126 46 (by omega) (fun z => z)).trans ((kk197.2.2 126 46 (by omega) (fun z => z)).trans (show mG M 126 46 = nh1 from enh1)))))]); all_goals omega) (by (try rw [(show mG m211 142 l1 = nh0 from ((kk211.2.2 142 l1 (by omega) (fun z => z)).trans ((kk208.2.2 142 l1 (by omega) (fun z => z)).trans ((kk197.2.2 142 l1 (by omega) (fun z => z)).trans (show mG M 142 l1 = nh0 from enh0)))))]); (try rw [(show mG m211 126 46 = nh1 from ((kk211.2.2 126 46 (by omega) (fun z => z)).trans ((kk208.2.2 126 46 (by omega) (fun z => z)).trans ((kk197.2.2 126 46 (by omega) (fun z => z)).trans (show mG M 126 46 = nh1 from enh1)))))]); all_goals omega) (VL.mono lp15_ (by omega)) ppNP_m211 (by omega) im211 km211
          · skip
            exact s_X9_leaf_216 hk51 ⟨by omega, by omega⟩ ⟨by omega, by omega⟩ ⟨by omega, by omega⟩ ⟨by omega, by omega⟩ ⟨by omega, by omega⟩ (by (try rw [(show mG M 142 l1 = nh0 from (show mG M 142 l1 = nh0 from enh0))]); (try rw [(show mG M 126 46 = nh1 from (show mG M 126 46 = nh1 from enh1))]); all_goals omega) (by (try rw [(show mG M 142 l1 = nh0 from (show mG M 142 l1 = nh0 from enh0))]); (try rw [(show mG M 126 46 = nh1 from (show mG M 126 46 = nh1 from enh1))]); all_goals omega) (VL.mono lpVL (by omega)) p_NP (by omega) iM kM
theorem s_X9_leaf_51 {n : Nat} {Me : Mem} : ∀ (fu : Nat) (l1 l2 l3 l4 : Int) (M : Mem), (0 ≤ l1 ∧ l1 ≤ 359) → (0 ≤ l2 ∧ l2 ≤ 12) → (0 ≤ l3 ∧ l3 ≤ 1) → (0 ≤ l4 ∧ l4 ≤ 81) → (mG M 142 l1 = l2) → (mG M 126 46 ≤ 39 ∧ mG M 126 46 = mG Me 126 46) → (VL M (l1)) → (NP M) → 82 - l4 < (fu : Int) → I n M → Keep n W_X9_leaf Me M → wp (mX9_leaf_51 fu 126 l1 l2 l3 l4 M) (fun q => I n q.2 ∧ Keep n W_X9_leaf Me q.2 ∧ (mG q.2 126 46 = mG Me 126 46 + 1) ∧ True) := by
  intro fu
  induction fu with
  | zero =>
    intro l1 l2 l3 l4 M r_l1 r_l2 r_l3 r_l4 y0 y1 lpVL p_NP hf iM kM
    exfalso
    omega
  | succ fu ih =>
    intro l1 l2 l3 l4 M r_l1 r_l2 r_l3 r_l4 y0 y1 lpVL p_NP hf iM kM
    exact sb_X9_leaf_51 ih r_l1 r_l2 r_l3 r_l4 y0 y1 lpVL p_NP (by have e : ((fu + 1 : Nat) : Int) = (fu : Int) + 1 := rfl; rw [e] at hf; exact hf) iM kM
theorem s_X9_leaf_48 {n : Nat} {Me : Mem} {l1 l2 l3 : Int} {M : Mem} (r_l1 : 0 ≤ l1 ∧ l1 ≤ 359) (r_l2 : 0 ≤ l2 ∧ l2 ≤ 12) (r_l3 : 0 ≤ l3 ∧ l3 ≤ 1) (y0 : mG M 142 l1 = l2) (y1 : mG M 126 46 ≤ 39 ∧ mG M 126 46 = mG Me 126 46) (lpVL : VL M (l1)) (p_NP : NP M) (iM : I n M) (kM : Keep n W_X9_leaf Me M) : wp (mX9_leaf_48 126 l1 l2 l3 M) (fun q => I n q.2 ∧ Keep n W_X9_leaf Me q.2 ∧ (mG q.2 126 46 = mG Me 126 46 + 1) ∧ True) := by
  have hn : (169 : Int) ≤ (n : Int) := by have := iM.2.2.2.2.1; omega
  obtain ⟨nh0, enh0⟩ : ∃ v, Is (mG M 142 l1) v := ⟨_, rfl⟩
  have rnh0 : 0 ≤ nh0 ∧ nh0 ≤ 12 := by rw [← enh0.e]; exact rd_Mact iM rfl
  have qnh0 : mG M 142 l1 = nh0 := enh0
  (try rw [enh0.e] at y0); (try rw [enh0.e] at y1)
  obtain ⟨nh1, enh1⟩ : ∃ v, Is (mG M 126 46) v := ⟨_, rfl⟩
  have rnh1 : 0 ≤ nh1 ∧ nh1 ≤ 41 := by rw [← enh1.e]; exact rd_Model_46 iM rfl
  have qnh1 : mG M 126 46 = nh1 := enh1
  (try rw [enh1.e] at y0); (try rw [enh1.e] at y1)
  unfold mX9_leaf_48
  exact s_X9_leaf_51 FU _ _ _ _ _ ⟨by omega, by omega⟩ ⟨by omega, by omega⟩ ⟨by omega, by omega⟩ ⟨by omega, by omega⟩ (by (try rw [(show mG M 142 l1 = nh0 from (show mG M 142 l1 = nh0 from enh0))]); (try rw [(show mG M 126 46 = nh1 from (show mG M 126 46 = nh1 from enh1))]); all_goals omega) (by (try rw [(show mG M 142 l1 = nh0 from (show mG M 142 l1 = nh0 from enh0))]); (try rw [(show mG M 126 46 = nh1 from (show mG M 126 46 = nh1 from enh1))]); all_goals omega) (VL.mono lpVL (by omega)) p_NP (by show _ < (70000 : Int); omega) iM kM
theorem s_X9_leaf_31 {n : Nat} {Me : Mem} {l1 l2 s0 : Int} {M : Mem} (r_l1 : 0 ≤ l1 ∧ l1 ≤ 359) (r_l2 : 0 ≤ l2 ∧ l2 ≤ 12) (r_s0 : 0 ≤ s0 ∧ s0 ≤ 1) (y0 : mG M 142 l1 = l2) (y1 : mG M 126 46 ≤ 39 ∧ mG M 126 46 = mG Me 126 46) (lpVL : VL M (l1)) (p_NP : NP M) (iM : I n M) (kM : Keep n W_X9_leaf Me M) : wp (mX9_leaf_31 126 l1 l2 s0 M) (fun q => I n q.2 ∧ Keep n W_X9_leaf Me q.2 ∧ (mG q.2 126 46 = mG Me 126 46 + 1) ∧ True) := by
  have hn : (169 : Int) ≤ (n : Int) := by have := iM.2.2.2.2.1; omega
  obtain ⟨nh0, enh0⟩ : ∃ v, Is (mG M 142 l1) v := ⟨_, rfl⟩
  have rnh0 : 0 ≤ nh0 ∧ nh0 ≤ 12 := by rw [← enh0.e]; exact rd_Mact iM rfl
  have qnh0 : mG M 142 l1 = nh0 := enh0
  (try rw [enh0.e] at y0); (try rw [enh0.e] at y1)
  obtain ⟨nh1, enh1⟩ : ∃ v, Is (mG M 126 46) v := ⟨_, rfl⟩
  have rnh1 : 0 ≤ nh1 ∧ nh1 ≤ 41 := by rw [← enh1.e]; exact rd_Model_46 iM rfl
  have qnh1 : mG M 126 46 = nh1 := enh1
  (try rw [enh1.e] at y0); (try rw [enh1.e] at y1)
  unfold mX9_leaf_31
  refine w_if (fun c1_ => ?_) (fun c1_ => ?_)
  · skip
    refine w_gFc (ji := 17) rfl (congrArg Prod.fst (kl_126 iM)) (show mG M 126 17 = 143 from rd_Model_17 iM (a := 126) rfl) ?_
    refine w_aG (kl_143 iM) (by omega) (by omega) (fun a44 ha44 => ?_)
    have ra44 : (-1) ≤ a44 ∧ a44 ≤ 3 := ha44.tr (P := fun z => (-1) ≤ z ∧ z ≤ 3) (rd_Mone iM rfl)
    have z1a44 := lpVL.1
    have z2a44 := ha44.e
    have z3a44 : mG M 142 l1 = nh0 := (show mG M 142 l1 = nh0 from enh0)
    refine w_gK (congrArg Prod.fst (kl_126 iM)) ?_
    refine w_call (s_X9_findJoined ⟨by omega, by omega⟩ p_NP iM) ?_
    intro v45 m45 pp45
    obtain ⟨im45, kk45, -⟩ := pp45
    try dsimp only
    replace im45 : I n m45 := im45
    replace kk45 : Keep n W_X9_findJoined M m45 := kk45
    have km45 : Keep n W_X9_leaf Me m45 := kM.tr kk45 (fun b j z => by unfold W_X9_findJoined at z; exact (Or.inl ⟨by omega, by omega⟩))
    have lp2_ : VL m45 (l1) := (VL_of lpVL (fun j => kk45.2.2 142 j (by omega) (fun z => by unfold W_X9_findJoined at z; (try unfold isWS at z); (try unfold isShape at z); (try unfold isTold at z); (try dsimp only at z); omega)) (fun j => kk45.2.2 143 j (by omega) (fun z => by unfold W_X9_findJoined at z; (try unfold isWS at z); (try unfold isShape at z); (try unfold isTold at z); (try dsimp only at z); omega)) (fun j => kk45.2.2 144 j (by omega) (fun z => by unfold W_X9_findJoined at z; (try unfold isWS at z); (try unfold isShape at z); (try unfold isTold at z); (try dsimp only at z); omega)))
    have ppNP_m45 : NP m45 := (NP_of p_NP (fun j => kk45.2.2 152 j (by omega) (fun z => by unfold W_X9_findJoined at z; (try unfold isWS at z); (try unfold isShape at z); (try unfold isTold at z); (try dsimp only at z); omega)))
    exact s_X9_leaf_48 ⟨by omega, by omega⟩ ⟨by omega, by omega⟩ ⟨by omega, by omega⟩ (by (try rw [(show mG m45 142 l1 = nh0 from ((kk45.2.2 142 l1 (by omega) (fun z => by unfold W_X9_findJoined at z; (try unfold isWS at z); (try unfold isShape at z); (try unfold isTold at z); (try dsimp only at z); omega)).trans (show mG M 142 l1 = nh0 from enh0)))]); (try rw [(show mG m45 126 46 = nh1 from ((kk45.2.2 126 46 (by omega) (fun z => by unfold W_X9_findJoined at z; (try unfold isWS at z); (try unfold isShape at z); (try unfold isTold at z); (try dsimp only at z); omega)).trans (show mG M 126 46 = nh1 from enh1)))]); all_goals omega) (by (try rw [(show mG m45 142 l1 = nh0 from ((kk45.2.2 142 l1 (by omega) (fun z => by unfold W_X9_findJoined at z; (try unfold isWS at z); (try unfold isShape at z); (try unfold isTold at z); (try dsimp only at z); omega)).trans (show mG M 142 l1 = nh0 from enh0)))]); (try rw [(show mG m45 126 46 = nh1 from ((kk45.2.2 126 46 (by omega) (fun z => by unfold W_X9_findJoined at z; (try unfold isWS at z); (try unfold isShape at z); (try unfold isTold at z); (try dsimp only at z); omega)).trans (show mG M 126 46 = nh1 from enh1)))]); all_goals omega) (VL.mono lp2_ (by omega)) ppNP_m45 im45 km45
  · skip
    exact s_X9_leaf_48 ⟨by omega, by omega⟩ ⟨by omega, by omega⟩ ⟨by omega, by omega⟩ (by (try rw [(show mG M 142 l1 = nh0 from (show mG M 142 l1 = nh0 from enh0))]); (try rw [(show mG M 126 46 = nh1 from (show mG M 126 46 = nh1 from enh1))]); all_goals omega) (by (try rw [(show mG M 142 l1 = nh0 from (show mG M 142 l1 = nh0 from enh0))]); (try rw [(show mG M 126 46 = nh1 from (show mG M 126 46 = nh1 from enh1))]); all_goals omega) (VL.mono lpVL (by omega)) p_NP iM kM
theorem s_X9_leaf_30 {n : Nat} {Me : Mem} {l1 l2 : Int} {M : Mem} (r_l1 : 0 ≤ l1 ∧ l1 ≤ 359) (r_l2 : 0 ≤ l2 ∧ l2 ≤ 12) (y0 : mG M 142 l1 = l2) (y1 : mG M 126 46 ≤ 39 ∧ mG M 126 46 = mG Me 126 46) (lpVL : VL M (l1)) (p_NP : NP M) (iM : I n M) (kM : Keep n W_X9_leaf Me M) : wp (mX9_leaf_30 126 l1 l2 M) (fun q => I n q.2 ∧ Keep n W_X9_leaf Me q.2 ∧ (mG q.2 126 46 = mG Me 126 46 + 1) ∧ True) := by
  have hn : (169 : Int) ≤ (n : Int) := by have := iM.2.2.2.2.1; omega
  obtain ⟨nh0, enh0⟩ : ∃ v, Is (mG M 142 l1) v := ⟨_, rfl⟩
  have rnh0 : 0 ≤ nh0 ∧ nh0 ≤ 12 := by rw [← enh0.e]; exact rd_Mact iM rfl
  have qnh0 : mG M 142 l1 = nh0 := enh0
  (try rw [enh0.e] at y0); (try rw [enh0.e] at y1)
  obtain ⟨nh1, enh1⟩ : ∃ v, Is (mG M 126 46) v := ⟨_, rfl⟩
  have rnh1 : 0 ≤ nh1 ∧ nh1 ≤ 41 := by rw [← enh1.e]; exact rd_Model_46 iM rfl
  have qnh1 : mG M 126 46 = nh1 := enh1
  (try rw [enh1.e] at y0); (try rw [enh1.e] at y1)
  unfold mX9_leaf_30
  exact s_X9_leaf_31 ⟨by omega, by omega⟩ ⟨by omega, by omega⟩ ⟨by omega, by omega⟩ (by (try rw [(show mG M 142 l1 = nh0 from (show mG M 142 l1 = nh0 from enh0))]); (try rw [(show mG M 126 46 = nh1 from (show mG M 126 46 = nh1 from enh1))]); all_goals omega) (by (try rw [(show mG M 142 l1 = nh0 from (show mG M 142 l1 = nh0 from enh0))]); (try rw [(show mG M 126 46 = nh1 from (show mG M 126 46 = nh1 from enh1))]); all_goals omega) (VL.mono lpVL (by omega)) p_NP iM kM
theorem s_X9_leaf {n : Nat} {l1 : Int} {M : Mem} (r_l1 : 0 ≤ l1 ∧ l1 ≤ 359) (y0 : mG M 126 46 ≤ 39) (lpVL : VL M (l1)) (p_NP : NP M) (iM : I n M) : wp (mX9_leaf 126 l1 M) (fun q => I n q.2 ∧ Keep n W_X9_leaf M q.2 ∧ (mG q.2 126 46 = mG M 126 46 + 1) ∧ True) := by
  have hn : (169 : Int) ≤ (n : Int) := by have := iM.2.2.2.2.1; omega
  have kM : Keep n W_X9_leaf M M := Keep.rf
  obtain ⟨nh0, enh0⟩ : ∃ v, Is (mG M 126 46) v := ⟨_, rfl⟩
  have rnh0 : 0 ≤ nh0 ∧ nh0 ≤ 41 := by rw [← enh0.e]; exact rd_Model_46 iM rfl
  have qnh0 : mG M 126 46 = nh0 := enh0
  (try rw [enh0.e] at y0)
  unfold mX9_leaf
  refine w_gFc (ji := 16) rfl (congrArg Prod.fst (kl_126 iM)) (show mG M 126 16 = 142 from rd_Model_16 iM (a := 126) rfl) ?_
  refine w_aG (kl_142 iM) (by omega) (by omega) (fun a5 ha5 => ?_)
  have ra5 : 0 ≤ a5 ∧ a5 ≤ 12 := ha5.tr (P := fun z => 0 ≤ z ∧ z ≤ 12) (rd_Mact iM rfl)
  refine w_if (fun c1_ => ?_) (fun c1_ => ?_)
  · skip
    refine w_gFc (ji := 17) rfl (congrArg Prod.fst (kl_126 iM)) (show mG M 126 17 = 143 from rd_Model_17 iM (a := 126) rfl) ?_
    refine w_aG (kl_143 iM) (by omega) (by omega) (fun a19 ha19 => ?_)
    have ra19 : (-1) ≤ a19 ∧ a19 ≤ 3 := ha19.tr (P := fun z => (-1) ≤ z ∧ z ≤ 3) (rd_Mone iM rfl)
    have z1a19 := lpVL.1
    have z2a19 := ha19.e
    have z3a19 : mG M 142 l1 = a5 := (show mG M 142 l1 = a5 from ha5)
    refine w_gK (congrArg Prod.fst (kl_126 iM)) ?_
    refine w_call (s_X9_isTree ⟨by omega, by omega⟩ p_NP iM) ?_
    intro v20 m20 pp20
    obtain ⟨im20, kk20, e20_0, -⟩ := pp20
    try dsimp only
    replace im20 : I n m20 := im20
    replace kk20 : Keep n W_X9_isTree M m20 := kk20
    have km20 : Keep n W_X9_leaf M m20 := kM.tr kk20 (fun b j z => by unfold W_X9_isTree at z; exact (Or.inl ⟨by omega, by omega⟩))
    replace e20_0 : 0 ≤ v20 ∧ v20 ≤ 1 := e20_0
    refine w_if (fun c2_ => ?_) (fun c2_ => ?_)
    · skip
      have lp3_ : VL m20 (l1) := (VL_of lpVL (fun j => kk20.2.2 142 j (by omega) (fun z => by unfold W_X9_isTree at z; (try unfold isWS at z); (try unfold isShape at z); (try unfold isTold at z); (try dsimp only at z); omega)) (fun j => kk20.2.2 143 j (by omega) (fun z => by unfold W_X9_isTree at z; (try unfold isWS at z); (try unfold isShape at z); (try unfold isTold at z); (try dsimp only at z); omega)) (fun j => kk20.2.2 144 j (by omega) (fun z => by unfold W_X9_isTree at z; (try unfold isWS at z); (try unfold isShape at z); (try unfold isTold at z); (try dsimp only at z); omega)))
      have ppNP_m20 : NP m20 := (NP_of p_NP (fun j => kk20.2.2 152 j (by omega) (fun z => by unfold W_X9_isTree at z; (try unfold isWS at z); (try unfold isShape at z); (try unfold isTold at z); (try dsimp only at z); omega)))
      exact s_X9_leaf_30 ⟨by omega, by omega⟩ ⟨by omega, by omega⟩ (by (try rw [(show mG m20 142 l1 = a5 from ((kk20.2.2 142 l1 (by omega) (fun z => by unfold W_X9_isTree at z; (try unfold isWS at z); (try unfold isShape at z); (try unfold isTold at z); (try dsimp only at z); omega)).trans (show mG M 142 l1 = a5 from ha5)))]); (try rw [(show mG m20 126 46 = nh0 from ((kk20.2.2 126 46 (by omega) (fun z => by unfold W_X9_isTree at z; (try unfold isWS at z); (try unfold isShape at z); (try unfold isTold at z); (try dsimp only at z); omega)).trans (show mG M 126 46 = nh0 from enh0)))]); all_goals omega) (by (try rw [(show mG m20 142 l1 = a5 from ((kk20.2.2 142 l1 (by omega) (fun z => by unfold W_X9_isTree at z; (try unfold isWS at z); (try unfold isShape at z); (try unfold isTold at z); (try dsimp only at z); omega)).trans (show mG M 142 l1 = a5 from ha5)))]); (try rw [(show mG m20 126 46 = nh0 from ((kk20.2.2 126 46 (by omega) (fun z => by unfold W_X9_isTree at z; (try unfold isWS at z); (try unfold isShape at z); (try unfold isTold at z); (try dsimp only at z); omega)).trans (show mG M 126 46 = nh0 from enh0)))]); all_goals omega) (VL.mono lp3_ (by omega)) ppNP_m20 im20 km20
    · skip
      have lp4_ : VL m20 (l1) := (VL_of lpVL (fun j => kk20.2.2 142 j (by omega) (fun z => by unfold W_X9_isTree at z; (try unfold isWS at z); (try unfold isShape at z); (try unfold isTold at z); (try dsimp only at z); omega)) (fun j => kk20.2.2 143 j (by omega) (fun z => by unfold W_X9_isTree at z; (try unfold isWS at z); (try unfold isShape at z); (try unfold isTold at z); (try dsimp only at z); omega)) (fun j => kk20.2.2 144 j (by omega) (fun z => by unfold W_X9_isTree at z; (try unfold isWS at z); (try unfold isShape at z); (try unfold isTold at z); (try dsimp only at z); omega)))
      have ppNP_m20 : NP m20 := (NP_of p_NP (fun j => kk20.2.2 152 j (by omega) (fun z => by unfold W_X9_isTree at z; (try unfold isWS at z); (try unfold isShape at z); (try unfold isTold at z); (try dsimp only at z); omega)))
      exact s_X9_leaf_31 ⟨by omega, by omega⟩ ⟨by omega, by omega⟩ ⟨by omega, by omega⟩ (by (try rw [(show mG m20 142 l1 = a5 from ((kk20.2.2 142 l1 (by omega) (fun z => by unfold W_X9_isTree at z; (try unfold isWS at z); (try unfold isShape at z); (try unfold isTold at z); (try dsimp only at z); omega)).trans (show mG M 142 l1 = a5 from ha5)))]); (try rw [(show mG m20 126 46 = nh0 from ((kk20.2.2 126 46 (by omega) (fun z => by unfold W_X9_isTree at z; (try unfold isWS at z); (try unfold isShape at z); (try unfold isTold at z); (try dsimp only at z); omega)).trans (show mG M 126 46 = nh0 from enh0)))]); all_goals omega) (by (try rw [(show mG m20 142 l1 = a5 from ((kk20.2.2 142 l1 (by omega) (fun z => by unfold W_X9_isTree at z; (try unfold isWS at z); (try unfold isShape at z); (try unfold isTold at z); (try dsimp only at z); omega)).trans (show mG M 142 l1 = a5 from ha5)))]); (try rw [(show mG m20 126 46 = nh0 from ((kk20.2.2 126 46 (by omega) (fun z => by unfold W_X9_isTree at z; (try unfold isWS at z); (try unfold isShape at z); (try unfold isTold at z); (try dsimp only at z); omega)).trans (show mG M 126 46 = nh0 from enh0)))]); all_goals omega) (VL.mono lp4_ (by omega)) ppNP_m20 im20 km20
  · skip
    exact s_X9_leaf_30 ⟨by omega, by omega⟩ ⟨by omega, by omega⟩ (by (try rw [(show mG M 142 l1 = a5 from (show mG M 142 l1 = a5 from ha5))]); (try rw [(show mG M 126 46 = nh0 from (show mG M 126 46 = nh0 from enh0))]); all_goals omega) (by (try rw [(show mG M 142 l1 = a5 from (show mG M 142 l1 = a5 from ha5))]); (try rw [(show mG M 126 46 = nh0 from (show mG M 126 46 = nh0 from enh0))]); all_goals omega) (VL.mono lpVL (by omega)) p_NP iM kM
def W_X9_work (b j : Int) : Prop := (160 ≤ b ∧ b ≤ 161) ∨ (b = 126 ∧ j = 46)
theorem s_X9_work {n : Nat} {l1 l2 : Int} {M : Mem} (r_l1 : 0 ≤ l1 ∧ l1 ≤ 8) (r_l2 : 0 ≤ l2 ∧ l2 ≤ 40) (p_NP : NP M) (p_WF : WF M) (iM : I n M) : wp (mX9_work 126 l1 l2 M) (fun q => I n q.2 ∧ Keep n W_X9_work M q.2 ∧ True) := by
  have hn : (169 : Int) ≤ (n : Int) := by have := iM.2.2.2.2.1; omega
  obtain ⟨⟨h, h0, hk⟩, -⟩ := p_WF.1 l1 (by omega) (by omega)
  have gk : ∀ {M' : Mem} (b j : Int), Keep n W_X9_work M M' → b ≤ 159 → ¬ b = 126 → mG M' b j = mG M b j := fun b j k z1 z2 => k.2.2 b j (by omega) (fun z => by unfold W_X9_work at z; omega)
  have rp : 0 ≤ mG M 141 l1 ∧ mG M 141 l1 ≤ 40 := rd_Mparts iM (a := 141) rfl
  have ar0 : ∀ a : Int, 0 ≤ arN a := fun a => by unfold arN; split <;> (try split) <;> omega
  have hb : ∀ (d k : Nat), (k : Int) + d = mG M 141 l1 → h k ≤ (d : Int) := by
    intro d
    induction d with
    | zero =>
      intro k e
      have e2 : k = (mG M 141 l1).toNat := by omega
      rw [e2, h0]; exact Int.le_refl _
    | succ d ih =>
      intro k e
      have e1 := ih (k + 1) (by omega)
      obtain ⟨-, e2, -⟩ := hk k (by omega)
      have a0 := ar0 (mG M 142 (40 * l1 + k))
      omega
  have key : ∀ (fu : Nat) (l3 : Int) (M' : Mem), -1 ≤ l3 → l3 < mG M 141 l1 → l3 + 1 < (fu : Int) → mG M' 126 46 = h (l3 + 1).toNat → I n M' → Keep n W_X9_work M M' → wp (mX9_work_14 fu 126 l1 l2 l3 M') (fun q => I n q.2 ∧ Keep n W_X9_work M q.2 ∧ True) := by
    intro fu
    induction fu with
    | zero => intro l3 M' b0 b1 hf; exfalso; omega
    | succ fu ih =>
      intro l3 M' b0 b1 hf ht iM' kM'
      show wp (bX9_work_14 (mX9_work_14 fu) 126 l1 l2 l3 M') _
      unfold bX9_work_14
      refine w_if (fun c => ?_) (fun c => ?_)
      · exact w_ret ⟨iM', kM', trivial⟩
      · have w1 := wI_id (x := 40 * l1) (by omega) (by omega)
        have w2 := wI_id (x := wI (40 * l1) + l3) (by omega) (by omega)
        have w3 := wI_id (x := l3 + (-1)) (by omega) (by omega)
        refine w_some (fun b25 hb25 => ?_)
        have e25 : b25 = 40 * l1 + l3 := by rw [hb25]; omega
        refine w_gFc (ji := 16) rfl (congrArg Prod.fst (kl_126 iM')) (rd_Model_16 iM' rfl) ?_
        refine w_aG (kl_142 iM') (by omega) (by omega) (fun a33 h33 => ?_)
        have ek : ((l3.toNat : Nat) : Int) = l3 := by omega
        obtain ⟨c1, c2, c3⟩ := hk l3.toNat (by omega)
        rw [ek, ← e25] at c1 c2 c3
        have g142 : mG M' 142 b25 = mG M 142 b25 := gk _ _ kM' (by decide) (by decide)
        have vl : VL M' b25 := VL_of c3 (fun j => gk _ _ kM' (by decide) (by decide)) (fun j => gk _ _ kM' (by decide) (by decide)) (fun j => gk _ _ kM' (by decide) (by decide))
        have np : NP M' := NP_of p_NP (fun j => gk _ _ kM' (by decide) (by decide))
        have hh : (l3 + 1).toNat = l3.toNat + 1 := by omega
        rw [hh] at ht
        have b1' := hb (mG M 141 l1 - l3 - 1).toNat (l3.toNat + 1) (by omega)
        have e33 : mG M' 142 b25 = a33 := h33.e
        rw [← g142, e33] at c1 c2
        have nxt : ∀ m : Mem, mG m 126 46 = h l3.toNat → I n m → Keep n W_X9_work M m → wp (mX9_work_74 (mX9_work_14 fu) 126 l1 l2 l3 m) (fun q => I n q.2 ∧ Keep n W_X9_work M q.2 ∧ True) := by
          intro m e1 e2 e3
          unfold mX9_work_74
          refine ih _ m (by omega) (by omega) (by have : ((fu + 1 : Nat) : Int) = (fu : Int) + 1 := rfl; omega) ?_ e2 e3
          rw [e1]; congr 1; omega
        refine w_if (fun d1 => ?_) (fun d1 => ?_)
        · refine w_gFc (ji := 16) rfl (congrArg Prod.fst (kl_126 iM')) (rd_Model_16 iM' rfl) ?_
          refine w_aGc (kl_142 iM') (by omega) (by omega) e33 ?_
          refine w_if (fun d2 => ?_) (fun d2 => ?_)
          · refine w_gK (congrArg Prod.fst (kl_126 iM')) ?_
            have ar : arN a33 = if a33 = 4 then 1 else 2 := by unfold arN; split <;> (try split) <;> (try split) <;> omega
            refine w_call (s_X9_join ⟨by omega, by omega⟩ (by rw [e33]; omega) (by rw [e33]; split at ar <;> omega) np iM') ?_
            rintro v m ⟨im, km, em, -⟩
            have em : (mG M' 142 b25 = 4 ∧ mG m 126 46 = mG M' 126 46) ∨ (¬ mG M' 142 b25 = 4 ∧ mG m 126 46 = mG M' 126 46 - 1) := em
            rw [e33] at em
            exact nxt m (by split at ar <;> omega) im (kM'.tr km (fun b j z => by unfold W_X9_join at z; unfold W_X9_work; omega))
          · refine w_gK (congrArg Prod.fst (kl_126 iM')) ?_
            have ar : arN a33 = 1 := by unfold arN; split <;> omega
            refine w_call (s_X9_bind ⟨by omega, by omega⟩ (by rw [e33]; omega) ⟨by omega, by omega⟩ vl np iM') ?_
            rintro v m ⟨im, km, -⟩
            have em : mG m 126 46 = mG M' 126 46 := km.2.2 126 46 (by omega) (fun z => by unfold W_X9_bind at z; omega)
            exact nxt m (by omega) im (kM'.tr km (fun b j z => by unfold W_X9_bind at z; unfold W_X9_work; omega))
        · refine w_gK (congrArg Prod.fst (kl_126 iM')) ?_
          have ar : arN a33 = 0 := by unfold arN; split <;> (try split) <;> omega
          refine w_call (s_X9_leaf ⟨by omega, by omega⟩ (by omega) vl np iM') ?_
          rintro v m ⟨im, km, em, -⟩
          have em : mG m 126 46 = mG M' 126 46 + 1 := em
          exact nxt m (by omega) im (kM'.tr km (fun b j z => by unfold W_X9_leaf at z; unfold W_X9_work; omega))
  unfold mX9_work
  refine w_pF (ji := 46) rfl (congrArg Prod.fst (kl_126 iM)) (fun M2 hM2 => ?_)
  have iM2 : I n M2 := wr_Model_46 iM rfl ⟨by omega, by omega⟩ hM2
  have kM2 : Keep n W_X9_work M M2 := Keep.rf.st hM2 (Or.inl (Or.inr ⟨rfl, rfl⟩))
  refine w_gFc (ji := 15) rfl (congrArg Prod.fst (kl_126 iM2)) (rd_Model_15 iM2 rfl) ?_
  refine w_aG (kl_141 iM2) (by omega) (by omega) (fun a10 h10 => ?_)
  have e10 : a10 = mG M 141 l1 := by rw [← h10.e]; exact gk _ _ kM2 (by decide) (by decide)
  have w1 := wI_id (x := a10 - 1) (by omega) (by omega)
  refine key FU _ M2 (by omega) (by omega) (by show _ < (70000 : Int); omega) ?_ iM2 kM2
  have e11 : (wI (a10 - 1) + 1).toNat = (mG M 141 l1).toNat := by omega
  rw [e11, h0]
  exact st_eq hM2
def W_X9_means (b j : Int) : Prop := (160 ≤ b ∧ b ≤ 161) ∨ (b = 126 ∧ j = 46)
theorem s_X9_means {n : Nat} {l1 : Int} {M : Mem} (r_l1 : 0 ≤ l1 ∧ l1 ≤ 8) (p_NP : NP M) (p_WF : WF M) (iM : I n M) : wp (mX9_means 126 l1 M) (fun q => I n q.2 ∧ Keep n W_X9_means M q.2 ∧ (0 ≤ q.1 ∧ q.1 ≤ 1) ∧ True) := by
  have hn : (169 : Int) ≤ (n : Int) := by have := iM.2.2.2.2.1; omega
  have kM : Keep n W_X9_means M M := Keep.rf
  unfold mX9_means
  refine w_gK (congrArg Prod.fst (kl_126 iM)) ?_
  refine w_call (s_X9_work ⟨by omega, by omega⟩ ⟨by omega, by omega⟩ p_NP p_WF iM) ?_
  intro v3 m3 pp3
  obtain ⟨im3, kk3, -⟩ := pp3
  try dsimp only
  replace im3 : I n m3 := im3
  replace kk3 : Keep n W_X9_work M m3 := kk3
  have km3 : Keep n W_X9_means M m3 := kM.tr kk3 (fun b j z => Or.elim z (fun z => (Or.inl z)) (fun z => (Or.inr z)))
  refine w_gFc (ji := 45) rfl (congrArg Prod.fst (kl_126 im3)) (show mG m3 126 45 = 160 from rd_Model_45 im3 (a := 126) rfl) ?_
  refine w_aG (kl_160 im3) (by decide) (by decide) (fun a11 ha11 => ?_)
  have ra11 : 0 ≤ a11 ∧ a11 ≤ 1 := ha11.tr (P := fun z => 0 ≤ z ∧ z ≤ 1) (rd_Mready im3 rfl)
  refine w_zR (by omega) (fun z hz => ?_)
  exact w_ret ⟨im3, km3, (show 0 ≤ z ∧ z ≤ 1 from ⟨by omega, by omega⟩), trivial⟩
def W_X9_so (b j : Int) : Prop := (152 ≤ b ∧ b ≤ 154) ∨ (160 ≤ b ∧ b ≤ 161) ∨ (b = 126 ∧ j = 0) ∨ (b = 126 ∧ j = 46)
theorem s_X9_so_53 {n : Nat} {Me : Mem} {l2 : Int} {M : Mem} (r_l2 : 0 ≤ l2 ∧ l2 ≤ 8) (p_WF : WF M) (iM : I n M) (kM : Keep n W_X9_so Me M) : wp (mX9_so_53 126 l2 M) (fun q => I n q.2 ∧ Keep n W_X9_so Me q.2 ∧ ((-1) ≤ q.1 ∧ q.1 ≤ 1) ∧ True) := by
  have hn : (169 : Int) ≤ (n : Int) := by have := iM.2.2.2.2.1; omega
  unfold mX9_so_53
  refine w_gK (congrArg Prod.fst (kl_126 iM)) ?_
  refine w_call (s_X9_bringWorld iM) ?_
  intro v54 m54 pp54
  obtain ⟨im54, kk54, e54_0, e54_1, -⟩ := pp54
  try dsimp only
  replace im54 : I n m54 := im54
  replace kk54 : Keep n W_X9_bringWorld M m54 := kk54
  have km54 : Keep n W_X9_so Me m54 := kM.tr kk54 (fun b j z => by unfold W_X9_bringWorld at z; exact (Or.inl z))
  replace e54_0 : NP m54 := e54_0
  have gNP_m54 := e54_0
  replace e54_1 : SF m54 := e54_1
  have gSF_m54 := e54_1
  refine w_gK (congrArg Prod.fst (kl_126 im54)) ?_
  have ppWF_m54 : WF m54 := (WF_of p_WF (fun j => kk54.2.2 141 j (by omega) (fun z => by unfold W_X9_bringWorld at z; (try unfold isWS at z); (try unfold isShape at z); (try unfold isTold at z); (try dsimp only at z); omega)) (fun j => kk54.2.2 142 j (by omega) (fun z => by unfold W_X9_bringWorld at z; (try unfold isWS at z); (try unfold isShape at z); (try unfold isTold at z); (try dsimp only at z); omega)) (fun j => kk54.2.2 143 j (by omega) (fun z => by unfold W_X9_bringWorld at z; (try unfold isWS at z); (try unfold isShape at z); (try unfold isTold at z); (try dsimp only at z); omega)) (fun j => kk54.2.2 144 j (by omega) (fun z => by unfold W_X9_bringWorld at z; (try unfold isWS at z); (try unfold isShape at z); (try unfold isTold at z); (try dsimp only at z); omega)) (fun j => kk54.2.2 138 j (by omega) (fun z => by unfold W_X9_bringWorld at z; (try unfold isWS at z); (try unfold isShape at z); (try unfold isTold at z); (try dsimp only at z); omega)))
  refine w_call (s_X9_means ⟨by omega, by omega⟩ gNP_m54 ppWF_m54 im54) ?_
  intro v59 m59 pp59
  obtain ⟨im59, kk59, e59_0, -⟩ := pp59
  try dsimp only
  replace im59 : I n m59 := im59
  replace kk59 : Keep n W_X9_means m54 m59 := kk59
  have km59 : Keep n W_X9_so Me m59 := km54.tr kk59 (fun b j z => Or.elim z (fun z => (Or.inr (Or.inl z))) (fun z => (Or.inr (Or.inr (Or.inr z)))))
  replace e59_0 : 0 ≤ v59 ∧ v59 ≤ 1 := e59_0
  refine w_if (fun c1_ => ?_) (fun c1_ => ?_)
  · skip
    exact w_ret ⟨im59, km59, (show (-1) ≤ 0 ∧ 0 ≤ 1 from ⟨by omega, by omega⟩), trivial⟩
  · skip
    exact w_ret ⟨im59, km59, (show (-1) ≤ 1 ∧ 1 ≤ 1 from ⟨by omega, by omega⟩), trivial⟩
theorem s_X9_so_16 {n : Nat} {Me : Mem} {l1 s0 : Int} {M : Mem} (r_l1 : (-2147483648) ≤ l1 ∧ l1 ≤ 2147483647) (r_s0 : (-2147483648) ≤ s0 ∧ s0 ≤ 2147483647) (z0 : (l1 = -1 ∧ s0 = 8) ∨ (¬ l1 = -1 ∧ s0 = l1)) (p_WF : WF M) (iM : I n M) (kM : Keep n W_X9_so Me M) : wp (mX9_so_16 126 l1 s0 M) (fun q => I n q.2 ∧ Keep n W_X9_so Me q.2 ∧ ((-1) ≤ q.1 ∧ q.1 ≤ 1) ∧ True) := by
  have hn : (169 : Int) ≤ (n : Int) := by have := iM.2.2.2.2.1; omega
  unfold mX9_so_16
  refine w_if (fun c1_ => ?_) (fun c1_ => ?_)
  · skip
    refine w_gFc (ji := 15) rfl (congrArg Prod.fst (kl_126 iM)) (show mG M 126 15 = 141 from rd_Model_15 iM (a := 126) rfl) ?_
    refine w_aG (kl_141 iM) (by decide) (by decide) (fun a28 ha28 => ?_)
    have ra28 : 0 ≤ a28 ∧ a28 ≤ 40 := ha28.tr (P := fun z => 0 ≤ z ∧ z ≤ 40) (rd_Mparts iM rfl)
    refine w_if (fun c2_ => ?_) (fun c2_ => ?_)
    · skip
      exact w_ret ⟨iM, kM, (show (-1) ≤ (-1) ∧ (-1) ≤ 1 from ⟨by omega, by omega⟩), trivial⟩
    · skip
      exact s_X9_so_53 ⟨by omega, by omega⟩ p_WF iM kM
  · skip
    refine w_gFc (ji := 12) rfl (congrArg Prod.fst (kl_126 iM)) (show mG M 126 12 = 138 from rd_Model_12 iM (a := 126) rfl) ?_
    refine w_aG (kl_138 iM) (by decide) (by decide) (fun a42 ha42 => ?_)
    have ra42 : 0 ≤ a42 ∧ a42 ≤ 8 := ha42.tr (P := fun z => 0 ≤ z ∧ z ≤ 8) (rd_Mstories iM rfl)
    have w3_ := wI_id (x := (a42 - 1)) (by omega) (by omega)
    refine w_call (s_X9_in ⟨by omega, by omega⟩ ⟨by omega, by omega⟩ ⟨by omega, by omega⟩ iM) ?_
    intro v45 m45 pp45
    obtain ⟨im45, kk45, e45_0, e45_1, -⟩ := pp45
    try dsimp only
    replace im45 : I n m45 := im45
    replace kk45 : Keep n W_X9_in M m45 := kk45
    have km45 : Keep n W_X9_so Me m45 := kM.tr kk45 (fun b j z => z.elim)
    replace e45_0 : 0 ≤ v45 ∧ v45 ≤ 1 := e45_0
    replace e45_1 : v45 = 1 → 0 ≤ l1 ∧ l1 ≤ (wI (a42 - 1)) := e45_1
    refine w_if (fun c4_ => ?_) (fun c4_ => ?_)
    · skip
      exact w_ret ⟨im45, km45, (show (-1) ≤ (-1) ∧ (-1) ≤ 1 from ⟨by omega, by omega⟩), trivial⟩
    · skip
      have ppWF_m45 : WF m45 := (WF_of p_WF (fun j => kk45.2.2 141 j (by omega) (fun z => z)) (fun j => kk45.2.2 142 j (by omega) (fun z => z)) (fun j => kk45.2.2 143 j (by omega) (fun z => z)) (fun j => kk45.2.2 144 j (by omega) (fun z => z)) (fun j => kk45.2.2 138 j (by omega) (fun z => z)))
      exact s_X9_so_53 ⟨by omega, by omega⟩ ppWF_m45 im45 km45
theorem s_X9_so {n : Nat} {l1 : Int} {M : Mem} (r_l1 : (-2147483648) ≤ l1 ∧ l1 ≤ 2147483647) (p_WF : WF M) (iM : I n M) : wp (mX9_so 126 l1 M) (fun q => I n q.2 ∧ Keep n W_X9_so M q.2 ∧ ((-1) ≤ q.1 ∧ q.1 ≤ 1) ∧ True) := by
  have hn : (169 : Int) ≤ (n : Int) := by have := iM.2.2.2.2.1; omega
  have kM : Keep n W_X9_so M M := Keep.rf
  unfold mX9_so
  refine w_pF (ji := 0) rfl (congrArg Prod.fst (kl_126 iM)) (fun M2 hM2 => ?_)
  replace hM2 : M2 = mS M 126 0 0 := hM2
  have iM2 : I n M2 := wr_Model_0 iM rfl ⟨by omega, by omega⟩ hM2
  have kM2 : Keep n W_X9_so M M2 := kM.st hM2 (Or.inl (Or.inr (Or.inr (Or.inl ⟨rfl, rfl⟩))))
  refine w_if (fun c1_ => ?_) (fun c1_ => ?_)
  · skip
    have ppWF_M2 : WF M2 := (WF_of p_WF (fun j => st_ne hM2 (fun z => ne_fam rfl rfl (by decide) z.1)) (fun j => st_ne hM2 (fun z => ne_fam rfl rfl (by decide) z.1)) (fun j => st_ne hM2 (fun z => ne_fam rfl rfl (by decide) z.1)) (fun j => st_ne hM2 (fun z => ne_fam rfl rfl (by decide) z.1)) (fun j => st_ne hM2 (fun z => ne_fam rfl rfl (by decide) z.1)))
    exact s_X9_so_16 ⟨by omega, by omega⟩ ⟨by omega, by omega⟩ (by all_goals omega) ppWF_M2 iM2 kM2
  · skip
    have ppWF_M2 : WF M2 := (WF_of p_WF (fun j => st_ne hM2 (fun z => ne_fam rfl rfl (by decide) z.1)) (fun j => st_ne hM2 (fun z => ne_fam rfl rfl (by decide) z.1)) (fun j => st_ne hM2 (fun z => ne_fam rfl rfl (by decide) z.1)) (fun j => st_ne hM2 (fun z => ne_fam rfl rfl (by decide) z.1)) (fun j => st_ne hM2 (fun z => ne_fam rfl rfl (by decide) z.1)))
    exact s_X9_so_16 ⟨by omega, by omega⟩ ⟨by omega, by omega⟩ (by all_goals omega) ppWF_M2 iM2 kM2
