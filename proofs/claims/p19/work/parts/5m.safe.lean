def W_X9_takeOrders (b j : Int) : Prop := b = 162
theorem s_X9_takeOrders {n : Nat} {l1 : Int} {M : Mem} (r_l1 : 0 ≤ l1 ∧ l1 ≤ 215) (p_NP : NP M) (iM : I n M) : wp (mX9_takeOrders 126 l1 M) (fun q => I n q.2 ∧ Keep n W_X9_takeOrders M q.2 ∧ (0 ≤ q.1 ∧ q.1 ≤ 1) ∧ True) := by
  have hn : (169 : Int) ≤ (n : Int) := by have := iM.2.2.2.2.1; omega
  have kM : Keep n W_X9_takeOrders M M := Keep.rf
  unfold mX9_takeOrders
  refine w_gFc (ji := 51) rfl (congrArg Prod.fst (kl_126 iM)) (show mG M 126 51 = 162 from rd_Model_51 iM (a := 126) rfl) ?_
  refine w_dQ (by omega) (fun a8 ha8 => ?_)
  have ea8 : a8 = l1 / 36 := ha8.trans (idiv_e (by omega) (by omega) (by omega) (by omega))
  refine w_aS (kl_162 iM) (by omega) (by omega) (fun M9 hM9 => ?_)
  replace hM9 : M9 = mS M 162 0 a8 := hM9
  have iM9 : I n M9 := wr_MorderOf iM rfl ⟨by omega, by omega⟩ hM9
  have kM9 : Keep n W_X9_takeOrders M M9 := kM.st hM9 (Or.inl rfl)
  refine w_gFc (ji := 51) rfl (congrArg Prod.fst (kl_126 iM9)) (show mG M9 126 51 = 162 from rd_Model_51 iM9 (a := 126) rfl) ?_
  refine w_dQ (by omega) (fun a18 ha18 => ?_)
  have ea18 : a18 = l1 / 6 := ha18.trans (idiv_e (by omega) (by omega) (by omega) (by omega))
  refine w_dM (by omega) (fun a21 ha21 => ?_)
  have ea21 : a21 = a18 % 6 := ha21.trans (irem_e (by omega) (by omega) (by omega) (by omega))
  refine w_aS (kl_162 iM9) (by omega) (by omega) (fun M22 hM22 => ?_)
  replace hM22 : M22 = mS M9 162 1 a21 := hM22
  have iM22 : I n M22 := wr_MorderOf iM9 rfl ⟨by omega, by omega⟩ hM22
  have kM22 : Keep n W_X9_takeOrders M M22 := kM9.st hM22 (Or.inl rfl)
  refine w_gFc (ji := 51) rfl (congrArg Prod.fst (kl_126 iM22)) (show mG M22 126 51 = 162 from rd_Model_51 iM22 (a := 126) rfl) ?_
  refine w_dM (by omega) (fun a31 ha31 => ?_)
  have ea31 : a31 = l1 % 6 := ha31.trans (irem_e (by omega) (by omega) (by omega) (by omega))
  refine w_aS (kl_162 iM22) (by omega) (by omega) (fun M32 hM32 => ?_)
  replace hM32 : M32 = mS M22 162 2 a31 := hM32
  have iM32 : I n M32 := wr_MorderOf iM22 rfl ⟨by omega, by omega⟩ hM32
  have kM32 : Keep n W_X9_takeOrders M M32 := kM22.st hM32 (Or.inl rfl)
  refine w_gFc (ji := 51) rfl (congrArg Prod.fst (kl_126 iM32)) (show mG M32 126 51 = 162 from rd_Model_51 iM32 (a := 126) rfl) ?_
  refine w_aGc (kl_162 iM32) (by omega) (by omega) (show mG M32 162 0 = a8 from ((st_ne hM32 (fun z => absurd z.2 (by decide))).trans ((st_ne hM22 (fun z => absurd z.2 (by decide))).trans (show mG M9 162 0 = a8 from (st_eq hM9))))) ?_
  refine w_gFc (ji := 26) rfl (congrArg Prod.fst (kl_126 iM32)) (show mG M32 126 26 = 152 from rd_Model_26 iM32 (a := 126) rfl) ?_
  refine w_aG (kl_152 iM32) (by decide) (by decide) (fun a44 ha44 => ?_)
  have ra44 : (-9) ≤ a44 ∧ a44 ≤ 9 := ha44.tr (P := fun z => (-9) ≤ z ∧ z ≤ 9) (rd_Mnow iM32 rfl)
  have ppNP_M32 : NP M32 := (NP_of (NP_of (NP_of p_NP (fun j => st_ne hM9 (fun z => ne_fam rfl rfl (by decide) z.1))) (fun j => st_ne hM22 (fun z => ne_fam rfl rfl (by decide) z.1))) (fun j => st_ne hM32 (fun z => ne_fam rfl rfl (by decide) z.1)))
  have qa44 : 1 ≤ a44 ∧ a44 ≤ 3 := by rw [← ha44.e]; exact ppNP_M32 0 (by omega) (by omega)
  refine w_call (s_X9_isOrder ⟨by omega, by omega⟩ ⟨by omega, by omega⟩ iM32) ?_
  intro v45 m45 pp45
  obtain ⟨im45, kk45, e45_0, -⟩ := pp45
  try dsimp only
  replace im45 : I n m45 := im45
  replace kk45 : Keep n W_X9_isOrder M32 m45 := kk45
  have km45 : Keep n W_X9_takeOrders M m45 := kM32.tr kk45 (fun b j z => z.elim)
  replace e45_0 : 0 ≤ v45 ∧ v45 ≤ 1 := e45_0
  refine w_if (fun c1_ => ?_) (fun c1_ => ?_)
  · skip
    exact w_ret ⟨im45, km45, (show 0 ≤ 0 ∧ 0 ≤ 1 from ⟨by omega, by omega⟩), trivial⟩
  · skip
    refine w_gFc (ji := 51) rfl (congrArg Prod.fst (kl_126 im45)) (show mG m45 126 51 = 162 from rd_Model_51 im45 (a := 126) rfl) ?_
    refine w_aGc (kl_162 im45) (by omega) (by omega) (show mG m45 162 1 = a21 from ((kk45.2.2 162 1 (by omega) (fun z => z)).trans ((st_ne hM32 (fun z => absurd z.2 (by decide))).trans (show mG M22 162 1 = a21 from (st_eq hM22))))) ?_
    refine w_gFc (ji := 26) rfl (congrArg Prod.fst (kl_126 im45)) (show mG m45 126 26 = 152 from rd_Model_26 im45 (a := 126) rfl) ?_
    refine w_aG (kl_152 im45) (by decide) (by decide) (fun a62 ha62 => ?_)
    have ra62 : (-9) ≤ a62 ∧ a62 ≤ 9 := ha62.tr (P := fun z => (-9) ≤ z ∧ z ≤ 9) (rd_Mnow im45 rfl)
    have ppNP_m45 : NP m45 := (NP_of ppNP_M32 (fun j => kk45.2.2 152 j (by omega) (fun z => z)))
    have qa62 : 1 ≤ a62 ∧ a62 ≤ 3 := by rw [← ha62.e]; exact ppNP_m45 1 (by omega) (by omega)
    refine w_call (s_X9_isOrder ⟨by omega, by omega⟩ ⟨by omega, by omega⟩ im45) ?_
    intro v63 m63 pp63
    obtain ⟨im63, kk63, e63_0, -⟩ := pp63
    try dsimp only
    replace im63 : I n m63 := im63
    replace kk63 : Keep n W_X9_isOrder m45 m63 := kk63
    have km63 : Keep n W_X9_takeOrders M m63 := km45.tr kk63 (fun b j z => z.elim)
    replace e63_0 : 0 ≤ v63 ∧ v63 ≤ 1 := e63_0
    refine w_if (fun c2_ => ?_) (fun c2_ => ?_)
    · skip
      exact w_ret ⟨im63, km63, (show 0 ≤ 0 ∧ 0 ≤ 1 from ⟨by omega, by omega⟩), trivial⟩
    · skip
      refine w_gFc (ji := 51) rfl (congrArg Prod.fst (kl_126 im63)) (show mG m63 126 51 = 162 from rd_Model_51 im63 (a := 126) rfl) ?_
      refine w_aGc (kl_162 im63) (by omega) (by omega) (show mG m63 162 2 = a31 from ((kk63.2.2 162 2 (by omega) (fun z => z)).trans ((kk45.2.2 162 2 (by omega) (fun z => z)).trans (show mG M32 162 2 = a31 from (st_eq hM32))))) ?_
      refine w_gFc (ji := 26) rfl (congrArg Prod.fst (kl_126 im63)) (show mG m63 126 26 = 152 from rd_Model_26 im63 (a := 126) rfl) ?_
      refine w_aG (kl_152 im63) (by decide) (by decide) (fun a80 ha80 => ?_)
      have ra80 : (-9) ≤ a80 ∧ a80 ≤ 9 := ha80.tr (P := fun z => (-9) ≤ z ∧ z ≤ 9) (rd_Mnow im63 rfl)
      have ppNP_m63 : NP m63 := (NP_of ppNP_m45 (fun j => kk63.2.2 152 j (by omega) (fun z => z)))
      have qa80 : 1 ≤ a80 ∧ a80 ≤ 3 := by rw [← ha80.e]; exact ppNP_m63 2 (by omega) (by omega)
      refine w_call (s_X9_isOrder ⟨by omega, by omega⟩ ⟨by omega, by omega⟩ im63) ?_
      intro v81 m81 pp81
      obtain ⟨im81, kk81, e81_0, -⟩ := pp81
      try dsimp only
      replace im81 : I n m81 := im81
      replace kk81 : Keep n W_X9_isOrder m63 m81 := kk81
      have km81 : Keep n W_X9_takeOrders M m81 := km63.tr kk81 (fun b j z => z.elim)
      replace e81_0 : 0 ≤ v81 ∧ v81 ≤ 1 := e81_0
      refine w_if (fun c3_ => ?_) (fun c3_ => ?_)
      · skip
        exact w_ret ⟨im81, km81, (show 0 ≤ 0 ∧ 0 ≤ 1 from ⟨by omega, by omega⟩), trivial⟩
      · skip
        exact w_ret ⟨im81, km81, (show 0 ≤ 1 ∧ 1 ≤ 1 from ⟨by omega, by omega⟩), trivial⟩
def W_X9_renamed (b j : Int) : Prop := False
theorem s_X9_renamed {n : Nat} {l1 l2 : Int} {M : Mem} (r_l1 : (-1) ≤ l1 ∧ l1 ≤ 2) (r_l2 : 0 ≤ l2 ∧ l2 ≤ 35) (iM : I n M) : wp (mX9_renamed 126 l1 l2 M) (fun q => I n q.2 ∧ Keep n W_X9_renamed M q.2 ∧ ((-1) ≤ q.1 ∧ q.1 ≤ 3) ∧ True) := by
  have hn : (169 : Int) ≤ (n : Int) := by have := iM.2.2.2.2.1; omega
  have kM : Keep n W_X9_renamed M M := Keep.rf
  unfold mX9_renamed
  refine w_if (fun c1_ => ?_) (fun c1_ => ?_)
  · skip
    exact w_ret ⟨iM, kM, (show (-1) ≤ 0 ∧ 0 ≤ 3 from ⟨by omega, by omega⟩), trivial⟩
  · skip
    refine w_gFc (ji := 51) rfl (congrArg Prod.fst (kl_126 iM)) (show mG M 126 51 = 162 from rd_Model_51 iM (a := 126) rfl) ?_
    refine w_aG (kl_162 iM) (by omega) (by omega) (fun a14 ha14 => ?_)
    have ra14 : 0 ≤ a14 ∧ a14 ≤ 5 := ha14.tr (P := fun z => 0 ≤ z ∧ z ≤ 5) (rd_MorderOf iM rfl)
    refine w_call (s_X9_inOrder ⟨by omega, by omega⟩ ⟨by omega, by omega⟩ iM) ?_
    intro v16 m16 pp16
    obtain ⟨im16, kk16, e16_0, -⟩ := pp16
    try dsimp only
    replace im16 : I n m16 := im16
    replace kk16 : Keep n W_X9_inOrder M m16 := kk16
    have km16 : Keep n W_X9_renamed M m16 := kM.tr kk16 (fun b j z => z.elim)
    replace e16_0 : (-1) ≤ v16 ∧ v16 ≤ 3 := e16_0
    exact w_ret ⟨im16, km16, (show (-1) ≤ v16 ∧ v16 ≤ 3 from ⟨by omega, by omega⟩), trivial⟩
def W_X9_imageOf (b j : Int) : Prop := False
theorem s_X9_imageOf_127 {n : Nat} {Me : Mem} {k9 : Int → Int → Int → Int → Mem → Option (Int × Mem)} {fu9 : Nat} (hk9 : ∀ (l1 l2 l3 : Int) (M : Mem), (0 ≤ l1 ∧ l1 ≤ 36) → ((-2147483648) ≤ l2 ∧ l2 ≤ 2147483647) → (0 ≤ l3 ∧ l3 ≤ 4) → (NP M) → 5 - l3 < (fu9 : Int) → I n M → Keep n W_X9_imageOf Me M → wp (k9 126 l1 l2 l3 M) (fun q => I n q.2 ∧ Keep n W_X9_imageOf Me q.2 ∧ ((-2147483648) ≤ q.1 ∧ q.1 ≤ 2147483647) ∧ True)) {k34 : Int → Int → Int → Int → Int → Int → Mem → Option (Int × Mem)} {fu34 : Nat} (hk34 : ∀ (l1 l2 l3 l4 l5 : Int) (M : Mem), (0 ≤ l1 ∧ l1 ≤ 36) → ((-2147483648) ≤ l2 ∧ l2 ≤ 2147483647) → (0 ≤ l3 ∧ l3 ≤ 3) → (1 ≤ l4 ∧ l4 ≤ 3) → (0 ≤ l5 ∧ l5 ≤ 36) → (NP M) → 5 - l3 < (fu9 : Int) + 1 → 37 - l5 < (fu34 : Int) → I n M → Keep n W_X9_imageOf Me M → wp (k34 126 l1 l2 l3 l4 l5 M) (fun q => I n q.2 ∧ Keep n W_X9_imageOf Me q.2 ∧ ((-2147483648) ≤ q.1 ∧ q.1 ≤ 2147483647) ∧ True)) {l1 l3 l4 l5 s0 s1 : Int} {M : Mem} (r_l1 : 0 ≤ l1 ∧ l1 ≤ 36) (r_l3 : 0 ≤ l3 ∧ l3 ≤ 3) (r_l4 : 1 ≤ l4 ∧ l4 ≤ 3) (r_l5 : 0 ≤ l5 ∧ l5 ≤ 35) (r_s0 : (-2147483648) ≤ s0 ∧ s0 ≤ 2147483647) (r_s1 : (-2147483648) ≤ s1 ∧ s1 ≤ 2147483647) (p_NP : NP M) (hf9 : 5 - l3 < (fu9 : Int) + 1) (hf34 : 37 - l5 < (fu34 : Int) + 1) (iM : I n M) (kM : Keep n W_X9_imageOf Me M) : wp (mX9_imageOf_127 k9 k34 126 l1 l3 l4 l5 s0 s1 M) (fun q => I n q.2 ∧ Keep n W_X9_imageOf Me q.2 ∧ ((-2147483648) ≤ q.1 ∧ q.1 ≤ 2147483647) ∧ True) := by
  have hn : (169 : Int) ≤ (n : Int) := by have := iM.2.2.2.2.1; omega
  unfold mX9_imageOf_127
  have w1_ := ior_in s0 s1
  have w2_ := wI_id (x := (l5 + 1)) (by omega) (by omega)
  exact hk34 _ _ _ _ _ _ ⟨by omega, by omega⟩ ⟨by omega, by omega⟩ ⟨by omega, by omega⟩ ⟨by omega, by omega⟩ ⟨by omega, by omega⟩ p_NP (by omega) (by omega) iM kM
theorem sb_X9_imageOf_34 {n : Nat} {Me : Mem} {k9 : Int → Int → Int → Int → Mem → Option (Int × Mem)} {fu9 : Nat} (hk9 : ∀ (l1 l2 l3 : Int) (M : Mem), (0 ≤ l1 ∧ l1 ≤ 36) → ((-2147483648) ≤ l2 ∧ l2 ≤ 2147483647) → (0 ≤ l3 ∧ l3 ≤ 4) → (NP M) → 5 - l3 < (fu9 : Int) → I n M → Keep n W_X9_imageOf Me M → wp (k9 126 l1 l2 l3 M) (fun q => I n q.2 ∧ Keep n W_X9_imageOf Me q.2 ∧ ((-2147483648) ≤ q.1 ∧ q.1 ≤ 2147483647) ∧ True)) {k34 : Int → Int → Int → Int → Int → Int → Mem → Option (Int × Mem)} {fu34 : Nat} (hk34 : ∀ (l1 l2 l3 l4 l5 : Int) (M : Mem), (0 ≤ l1 ∧ l1 ≤ 36) → ((-2147483648) ≤ l2 ∧ l2 ≤ 2147483647) → (0 ≤ l3 ∧ l3 ≤ 3) → (1 ≤ l4 ∧ l4 ≤ 3) → (0 ≤ l5 ∧ l5 ≤ 36) → (NP M) → 5 - l3 < (fu9 : Int) + 1 → 37 - l5 < (fu34 : Int) → I n M → Keep n W_X9_imageOf Me M → wp (k34 126 l1 l2 l3 l4 l5 M) (fun q => I n q.2 ∧ Keep n W_X9_imageOf Me q.2 ∧ ((-2147483648) ≤ q.1 ∧ q.1 ≤ 2147483647) ∧ True)) {l1 l2 l3 l4 l5 : Int} {M : Mem} (r_l1 : 0 ≤ l1 ∧ l1 ≤ 36) (r_l2 : (-2147483648) ≤ l2 ∧ l2 ≤ 2147483647) (r_l3 : 0 ≤ l3 ∧ l3 ≤ 3) (r_l4 : 1 ≤ l4 ∧ l4 ≤ 3) (r_l5 : 0 ≤ l5 ∧ l5 ≤ 36) (p_NP : NP M) (hf9 : 5 - l3 < (fu9 : Int) + 1) (hf34 : 37 - l5 < (fu34 : Int) + 1) (iM : I n M) (kM : Keep n W_X9_imageOf Me M) : wp (bX9_imageOf_34 k9 k34 126 l1 l2 l3 l4 l5 M) (fun q => I n q.2 ∧ Keep n W_X9_imageOf Me q.2 ∧ ((-2147483648) ≤ q.1 ∧ q.1 ≤ 2147483647) ∧ True) := by
  have hn : (169 : Int) ≤ (n : Int) := by have := iM.2.2.2.2.1; omega
  unfold bX9_imageOf_34
  refine w_gFc (ji := 27) rfl (congrArg Prod.fst (kl_126 iM)) (show mG M 126 27 = 153 from rd_Model_27 iM (a := 126) rfl) ?_
  have w1_ := wI_id (x := (l3 + 1)) (by omega) (by omega)
  refine w_aG (kl_153 iM) (by omega) (by omega) (fun a43 ha43 => ?_)
  have ra43 : 0 ≤ a43 ∧ a43 ≤ 9 * (wI (l3 + 1)) := ha43.tr (P := fun z => 0 ≤ z ∧ z ≤ 9 * (wI (l3 + 1))) (rd_Mstart iM rfl (by omega) (by omega))
  refine w_gFc (ji := 27) rfl (congrArg Prod.fst (kl_126 iM)) (show mG M 126 27 = 153 from rd_Model_27 iM (a := 126) rfl) ?_
  refine w_aG (kl_153 iM) (by omega) (by omega) (fun a49 ha49 => ?_)
  have ra49 : 0 ≤ a49 ∧ a49 ≤ 9 * l3 := ha49.tr (P := fun z => 0 ≤ z ∧ z ≤ 9 * l3) (rd_Mstart iM rfl (by omega) (by omega))
  have w2_ := wI_id (x := (a43 - a49)) (by omega) (by omega)
  refine w_if (fun c3_ => ?_) (fun c3_ => ?_)
  · skip
    exact hk9 _ _ _ _ ⟨by omega, by omega⟩ ⟨by omega, by omega⟩ ⟨by omega, by omega⟩ p_NP (by omega) iM kM
  · skip
    refine w_gFc (ji := 27) rfl (congrArg Prod.fst (kl_126 iM)) (show mG M 126 27 = 153 from rd_Model_27 iM (a := 126) rfl) ?_
    refine w_aGc (kl_153 iM) (by omega) (by omega) (show mG M 153 l3 = a49 from (show mG M 153 l3 = a49 from ha49)) ?_
    refine w_gFc (ji := 9) rfl (congrArg Prod.fst (kl_126 iM)) (show mG M 126 9 = 135 from rd_Model_9 iM (a := 126) rfl) ?_
    refine w_aG (kl_135 iM) (by omega) (by omega) (fun a68 ha68 => ?_)
    have ra68 : 0 ≤ a68 ∧ a68 ≤ 2 := ha68.tr (P := fun z => 0 ≤ z ∧ z ≤ 2) (rd_MfirstKind iM rfl)
    refine w_dQ (by omega) (fun a73 ha73 => ?_)
    have ea73 : a73 = l5 / l4 := ha73.trans (idiv_e (by omega) (by omega) (by omega) (by omega))
    have ra73 : 0 ≤ a73 ∧ a73 ≤ l5 := by rw [ea73]; exact ⟨Int.ediv_nonneg (by omega) (by omega), Int.ediv_le_self _ (by omega)⟩
    refine w_gK (congrArg Prod.fst (kl_126 iM)) ?_
    refine w_call (s_X9_renamed ⟨by omega, by omega⟩ ⟨by omega, by omega⟩ iM) ?_
    intro v74 m74 pp74
    obtain ⟨im74, kk74, e74_0, -⟩ := pp74
    try dsimp only
    replace im74 : I n m74 := im74
    replace kk74 : Keep n W_X9_renamed M m74 := kk74
    have km74 : Keep n W_X9_imageOf Me m74 := kM.tr kk74 (fun b j z => z.elim)
    replace e74_0 : (-1) ≤ v74 ∧ v74 ≤ 3 := e74_0
    refine w_gFc (ji := 10) rfl (congrArg Prod.fst (kl_126 im74)) (show mG m74 126 10 = 136 from rd_Model_10 im74 (a := 126) rfl) ?_
    refine w_aG (kl_136 im74) (by omega) (by omega) (fun a85 ha85 => ?_)
    have ra85 : (-1) ≤ a85 ∧ a85 ≤ 2 := ha85.tr (P := fun z => (-1) ≤ z ∧ z ≤ 2) (rd_MsecondKind im74 rfl)
    refine w_dM (by omega) (fun a90 ha90 => ?_)
    have ea90 : a90 = l5 % l4 := ha90.trans (irem_e (by omega) (by omega) (by omega) (by omega))
    have ra90 : 0 ≤ a90 ∧ a90 < l4 := by rw [ea90]; exact ⟨Int.emod_nonneg _ (by omega), Int.emod_lt_of_pos _ (by omega)⟩
    refine w_gK (congrArg Prod.fst (kl_126 im74)) ?_
    refine w_call (s_X9_renamed ⟨by omega, by omega⟩ ⟨by omega, by omega⟩ im74) ?_
    intro v91 m91 pp91
    obtain ⟨im91, kk91, e91_0, -⟩ := pp91
    try dsimp only
    replace im91 : I n m91 := im91
    replace kk91 : Keep n W_X9_renamed m74 m91 := kk91
    have km91 : Keep n W_X9_imageOf Me m91 := km74.tr kk91 (fun b j z => z.elim)
    replace e91_0 : (-1) ≤ v91 ∧ v91 ≤ 3 := e91_0
    have w4_ := mul_s (x := v74) (y := l4) (a0 := (-1)) (a1 := 3) (b := 3) (by omega) (by omega) (by omega) (by omega) (by decide) (by decide)
    rw [Int.mul_comm (v74) (l4)] at w4_
    have w5_ := wI_id (x := (l4 * v74)) (by omega) (by omega)
    have w6_ := wI_id (x := (a49 + (wI (l4 * v74)))) (by omega) (by omega)
    have w7_ := wI_id (x := ((wI (a49 + (wI (l4 * v74)))) + v91)) (by omega) (by omega)
    refine w_some (fun b95 hb95 => ?_)
    replace hb95 : b95 = (wI ((wI (a49 + (wI (l4 * v74)))) + v91)) := hb95
    refine w_gFc (ji := 28) rfl (congrArg Prod.fst (kl_126 im91)) (show mG m91 126 28 = 154 from rd_Model_28 im91 (a := 126) rfl) ?_
    refine w_gFc (ji := 27) rfl (congrArg Prod.fst (kl_126 im91)) (show mG m91 126 27 = 153 from rd_Model_27 im91 (a := 126) rfl) ?_
    refine w_aGc (kl_153 im91) (by omega) (by omega) (show mG m91 153 l3 = a49 from ((kk91.2.2 153 l3 (by omega) (fun z => z)).trans ((kk74.2.2 153 l3 (by omega) (fun z => z)).trans (show mG M 153 l3 = a49 from ha49)))) ?_
    have w8_ := wI_id (x := (a49 + l5)) (by omega) (by omega)
    refine w_aG (kl_154 im91) (by omega) (by omega) (fun a111 ha111 => ?_)
    have ra111 : 0 ≤ a111 ∧ a111 ≤ 1 := ha111.tr (P := fun z => 0 ≤ z ∧ z ≤ 1) (rd_Mis im91 rfl)
    refine w_if (fun c9_ => ?_) (fun c9_ => ?_)
    · skip
      have ppNP_m91 : NP m91 := (NP_of (NP_of p_NP (fun j => kk74.2.2 152 j (by omega) (fun z => z))) (fun j => kk91.2.2 152 j (by omega) (fun z => z)))
      exact s_X9_imageOf_127 hk9 hk34 ⟨by omega, by omega⟩ ⟨by omega, by omega⟩ ⟨by omega, by omega⟩ ⟨by omega, by omega⟩ ⟨by omega, by omega⟩ ⟨by omega, by omega⟩ ppNP_m91 (by omega) (by omega) im91 km91
    · skip
      have w10_ := wI_id (x := (l1 - 1)) (by omega) (by omega)
      have w11_ := wI_id (x := ((wI (l1 - 1)) - b95)) (by omega) (by omega)
      have w12_ := ishl_in 1 (wI ((wI (l1 - 1)) - b95))
      have ppNP_m91 : NP m91 := (NP_of (NP_of p_NP (fun j => kk74.2.2 152 j (by omega) (fun z => z))) (fun j => kk91.2.2 152 j (by omega) (fun z => z)))
      exact s_X9_imageOf_127 hk9 hk34 ⟨by omega, by omega⟩ ⟨by omega, by omega⟩ ⟨by omega, by omega⟩ ⟨by omega, by omega⟩ ⟨by omega, by omega⟩ ⟨by omega, by omega⟩ ppNP_m91 (by omega) (by omega) im91 km91
theorem s_X9_imageOf_34 {n : Nat} {Me : Mem} {k9 : Int → Int → Int → Int → Mem → Option (Int × Mem)} {fu9 : Nat} (hk9 : ∀ (l1 l2 l3 : Int) (M : Mem), (0 ≤ l1 ∧ l1 ≤ 36) → ((-2147483648) ≤ l2 ∧ l2 ≤ 2147483647) → (0 ≤ l3 ∧ l3 ≤ 4) → (NP M) → 5 - l3 < (fu9 : Int) → I n M → Keep n W_X9_imageOf Me M → wp (k9 126 l1 l2 l3 M) (fun q => I n q.2 ∧ Keep n W_X9_imageOf Me q.2 ∧ ((-2147483648) ≤ q.1 ∧ q.1 ≤ 2147483647) ∧ True)) : ∀ (fu : Nat) (l1 l2 l3 l4 l5 : Int) (M : Mem), (0 ≤ l1 ∧ l1 ≤ 36) → ((-2147483648) ≤ l2 ∧ l2 ≤ 2147483647) → (0 ≤ l3 ∧ l3 ≤ 3) → (1 ≤ l4 ∧ l4 ≤ 3) → (0 ≤ l5 ∧ l5 ≤ 36) → (NP M) → 5 - l3 < (fu9 : Int) + 1 → 37 - l5 < (fu : Int) → I n M → Keep n W_X9_imageOf Me M → wp (mX9_imageOf_34 k9 fu 126 l1 l2 l3 l4 l5 M) (fun q => I n q.2 ∧ Keep n W_X9_imageOf Me q.2 ∧ ((-2147483648) ≤ q.1 ∧ q.1 ≤ 2147483647) ∧ True) := by
  intro fu
  induction fu with
  | zero =>
    intro l1 l2 l3 l4 l5 M r_l1 r_l2 r_l3 r_l4 r_l5 p_NP hf9 hf iM kM
    exfalso
    omega
  | succ fu ih =>
    intro l1 l2 l3 l4 l5 M r_l1 r_l2 r_l3 r_l4 r_l5 p_NP hf9 hf iM kM
    exact sb_X9_imageOf_34 hk9 ih r_l1 r_l2 r_l3 r_l4 r_l5 p_NP hf9 (by have e : ((fu + 1 : Nat) : Int) = (fu : Int) + 1 := rfl; rw [e] at hf; exact hf) iM kM
theorem sb_X9_imageOf_9 {n : Nat} {Me : Mem} {k9 : Int → Int → Int → Int → Mem → Option (Int × Mem)} {fu9 : Nat} (hk9 : ∀ (l1 l2 l3 : Int) (M : Mem), (0 ≤ l1 ∧ l1 ≤ 36) → ((-2147483648) ≤ l2 ∧ l2 ≤ 2147483647) → (0 ≤ l3 ∧ l3 ≤ 4) → (NP M) → 5 - l3 < (fu9 : Int) → I n M → Keep n W_X9_imageOf Me M → wp (k9 126 l1 l2 l3 M) (fun q => I n q.2 ∧ Keep n W_X9_imageOf Me q.2 ∧ ((-2147483648) ≤ q.1 ∧ q.1 ≤ 2147483647) ∧ True)) {l1 l2 l3 : Int} {M : Mem} (r_l1 : 0 ≤ l1 ∧ l1 ≤ 36) (r_l2 : (-2147483648) ≤ l2 ∧ l2 ≤ 2147483647) (r_l3 : 0 ≤ l3 ∧ l3 ≤ 4) (p_NP : NP M) (hf9 : 5 - l3 < (fu9 : Int) + 1) (iM : I n M) (kM : Keep n W_X9_imageOf Me M) : wp (bX9_imageOf_9 k9 126 l1 l2 l3 M) (fun q => I n q.2 ∧ Keep n W_X9_imageOf Me q.2 ∧ ((-2147483648) ≤ q.1 ∧ q.1 ≤ 2147483647) ∧ True) := by
  have hn : (169 : Int) ≤ (n : Int) := by have := iM.2.2.2.2.1; omega
  unfold bX9_imageOf_9
  refine w_gFc (ji := 8) rfl (congrArg Prod.fst (kl_126 iM)) (show mG M 126 8 = 134 from rd_Model_8 iM (a := 126) rfl) ?_
  refine w_aG (kl_134 iM) (by decide) (by decide) (fun a15 ha15 => ?_)
  have ra15 : 0 ≤ a15 ∧ a15 ≤ 4 := ha15.tr (P := fun z => 0 ≤ z ∧ z ≤ 4) (rd_Mrelations iM rfl)
  refine w_if (fun c1_ => ?_) (fun c1_ => ?_)
  · skip
    exact w_ret ⟨iM, kM, (show (-2147483648) ≤ l2 ∧ l2 ≤ 2147483647 from ⟨by omega, by omega⟩), trivial⟩
  · skip
    refine w_gFc (ji := 10) rfl (congrArg Prod.fst (kl_126 iM)) (show mG M 126 10 = 136 from rd_Model_10 iM (a := 126) rfl) ?_
    refine w_aG (kl_136 iM) (by omega) (by omega) (fun a25 ha25 => ?_)
    have ra25 : (-1) ≤ a25 ∧ a25 ≤ 2 := ha25.tr (P := fun z => (-1) ≤ z ∧ z ≤ 2) (rd_MsecondKind iM rfl)
    refine w_gK (congrArg Prod.fst (kl_126 iM)) ?_
    refine w_call (s_X9_sizeOf ⟨by omega, by omega⟩ p_NP iM) ?_
    intro v26 m26 pp26
    obtain ⟨im26, kk26, e26_0, -⟩ := pp26
    try dsimp only
    replace im26 : I n m26 := im26
    replace kk26 : Keep n W_X9_sizeOf M m26 := kk26
    have km26 : Keep n W_X9_imageOf Me m26 := kM.tr kk26 (fun b j z => z.elim)
    replace e26_0 : 1 ≤ v26 ∧ v26 ≤ 3 := e26_0
    have ppNP_m26 : NP m26 := (NP_of p_NP (fun j => kk26.2.2 152 j (by omega) (fun z => z)))
    exact s_X9_imageOf_34 hk9 FU _ _ _ _ _ _ ⟨by omega, by omega⟩ ⟨by omega, by omega⟩ ⟨by omega, by omega⟩ ⟨by omega, by omega⟩ ⟨by omega, by omega⟩ ppNP_m26 (by omega) (by show _ < (70000 : Int); omega) im26 km26
theorem s_X9_imageOf_9 {n : Nat} {Me : Mem} : ∀ (fu : Nat) (l1 l2 l3 : Int) (M : Mem), (0 ≤ l1 ∧ l1 ≤ 36) → ((-2147483648) ≤ l2 ∧ l2 ≤ 2147483647) → (0 ≤ l3 ∧ l3 ≤ 4) → (NP M) → 5 - l3 < (fu : Int) → I n M → Keep n W_X9_imageOf Me M → wp (mX9_imageOf_9 fu 126 l1 l2 l3 M) (fun q => I n q.2 ∧ Keep n W_X9_imageOf Me q.2 ∧ ((-2147483648) ≤ q.1 ∧ q.1 ≤ 2147483647) ∧ True) := by
  intro fu
  induction fu with
  | zero =>
    intro l1 l2 l3 M r_l1 r_l2 r_l3 p_NP hf iM kM
    exfalso
    omega
  | succ fu ih =>
    intro l1 l2 l3 M r_l1 r_l2 r_l3 p_NP hf iM kM
    exact sb_X9_imageOf_9 ih r_l1 r_l2 r_l3 p_NP (by have e : ((fu + 1 : Nat) : Int) = (fu : Int) + 1 := rfl; rw [e] at hf; exact hf) iM kM
theorem s_X9_imageOf {n : Nat} {M : Mem} (p_NP : NP M) (iM : I n M) : wp (mX9_imageOf 126 M) (fun q => I n q.2 ∧ Keep n W_X9_imageOf M q.2 ∧ ((-2147483648) ≤ q.1 ∧ q.1 ≤ 2147483647) ∧ True) := by
  have hn : (169 : Int) ≤ (n : Int) := by have := iM.2.2.2.2.1; omega
  have kM : Keep n W_X9_imageOf M M := Keep.rf
  unfold mX9_imageOf
  refine w_gK (congrArg Prod.fst (kl_126 iM)) ?_
  refine w_call (s_X9_manyFacts iM) ?_
  intro v1 m1 pp1
  obtain ⟨im1, kk1, e1_0, e1_1, -⟩ := pp1
  try dsimp only
  replace im1 : I n m1 := im1
  replace kk1 : Keep n W_X9_manyFacts M m1 := kk1
  have km1 : Keep n W_X9_imageOf M m1 := kM.tr kk1 (fun b j z => z.elim)
  replace e1_0 : 0 ≤ v1 ∧ v1 ≤ 36 := e1_0
  replace e1_1 : v1 = mG m1 153 (mG m1 134 0) := e1_1
  have ev1 := e1_1
  have ppNP_m1 : NP m1 := (NP_of p_NP (fun j => kk1.2.2 152 j (by omega) (fun z => z)))
  exact s_X9_imageOf_9 FU _ _ _ _ ⟨by omega, by omega⟩ ⟨by omega, by omega⟩ ⟨by omega, by omega⟩ ppNP_m1 (by show _ < (70000 : Int); omega) im1 km1
def W_X9_ones (b j : Int) : Prop := False
theorem sb_X9_ones_4 {n : Nat} {Me : Mem} {k4 : Int → Int → Int → Mem → Option (Int × Mem)} {fu4 : Nat} (hk4 : ∀ (l0 l1 l2 : Int) (M : Mem), ((-2147483648) ≤ l0 ∧ l0 ≤ 2147483647) → ((-2147483648) ≤ l1 ∧ l1 ≤ 2147483647) → (0 ≤ l2 ∧ l2 ≤ 16) → 17 - l2 < (fu4 : Int) → I n M → Keep n W_X9_ones Me M → wp (k4 l0 l1 l2 M) (fun q => I n q.2 ∧ Keep n W_X9_ones Me q.2 ∧ ((-2147483648) ≤ q.1 ∧ q.1 ≤ 2147483647) ∧ True)) {l0 l1 l2 : Int} {M : Mem} (r_l0 : (-2147483648) ≤ l0 ∧ l0 ≤ 2147483647) (r_l1 : (-2147483648) ≤ l1 ∧ l1 ≤ 2147483647) (r_l2 : 0 ≤ l2 ∧ l2 ≤ 16) (hf4 : 17 - l2 < (fu4 : Int) + 1) (iM : I n M) (kM : Keep n W_X9_ones Me M) : wp (bX9_ones_4 k4 l0 l1 l2 M) (fun q => I n q.2 ∧ Keep n W_X9_ones Me q.2 ∧ ((-2147483648) ≤ q.1 ∧ q.1 ≤ 2147483647) ∧ True) := by
  have hn : (169 : Int) ≤ (n : Int) := by have := iM.2.2.2.2.1; omega
  unfold bX9_ones_4
  refine w_if (fun c1_ => ?_) (fun c1_ => ?_)
  · skip
    exact w_ret ⟨iM, kM, (show (-2147483648) ≤ l1 ∧ l1 ≤ 2147483647 from ⟨by omega, by omega⟩), trivial⟩
  · skip
    have w2_ := ishr_in l0 l2
    have w3_ := iand_r (x := (ishr l0 l2)) (y := 1) (by omega) (by omega)
    have w4_ := And.intro (wI_lo (l1 + (iand (ishr l0 l2) 1))) (wI_hi (l1 + (iand (ishr l0 l2) 1)))
    refine w_some (fun b17 hb17 => ?_)
    replace hb17 : b17 = (wI (l1 + (iand (ishr l0 l2) 1))) := hb17
    have w5_ := wI_id (x := (l2 + 1)) (by omega) (by omega)
    exact hk4 _ _ _ _ ⟨by omega, by omega⟩ ⟨by omega, by omega⟩ ⟨by omega, by omega⟩ (by omega) iM kM
theorem s_X9_ones_4 {n : Nat} {Me : Mem} : ∀ (fu : Nat) (l0 l1 l2 : Int) (M : Mem), ((-2147483648) ≤ l0 ∧ l0 ≤ 2147483647) → ((-2147483648) ≤ l1 ∧ l1 ≤ 2147483647) → (0 ≤ l2 ∧ l2 ≤ 16) → 17 - l2 < (fu : Int) → I n M → Keep n W_X9_ones Me M → wp (mX9_ones_4 fu l0 l1 l2 M) (fun q => I n q.2 ∧ Keep n W_X9_ones Me q.2 ∧ ((-2147483648) ≤ q.1 ∧ q.1 ≤ 2147483647) ∧ True) := by
  intro fu
  induction fu with
  | zero =>
    intro l0 l1 l2 M r_l0 r_l1 r_l2 hf iM kM
    exfalso
    omega
  | succ fu ih =>
    intro l0 l1 l2 M r_l0 r_l1 r_l2 hf iM kM
    exact sb_X9_ones_4 ih r_l0 r_l1 r_l2 (by have e : ((fu + 1 : Nat) : Int) = (fu : Int) + 1 := rfl; rw [e] at hf; exact hf) iM kM
theorem s_X9_ones {n : Nat} {l0 : Int} {M : Mem} (r_l0 : (-2147483648) ≤ l0 ∧ l0 ≤ 2147483647) (iM : I n M) : wp (mX9_ones l0 M) (fun q => I n q.2 ∧ Keep n W_X9_ones M q.2 ∧ ((-2147483648) ≤ q.1 ∧ q.1 ≤ 2147483647) ∧ True) := by
  have hn : (169 : Int) ≤ (n : Int) := by have := iM.2.2.2.2.1; omega
  have kM : Keep n W_X9_ones M M := Keep.rf
  unfold mX9_ones
  exact s_X9_ones_4 FU _ _ _ _ ⟨by omega, by omega⟩ ⟨by omega, by omega⟩ ⟨by omega, by omega⟩ (by show _ < (70000 : Int); omega) iM kM
def W_X9_apart (b j : Int) : Prop := (152 ≤ b ∧ b ≤ 154) ∨ b = 162 ∨ (b = 126 ∧ j = 0)
theorem s_X9_apart_123 {n : Nat} {Me : Mem} {k79 : Int → Int → Int → Int → Mem → Option (Int × Mem)} {fu79 : Nat} (hk79 : ∀ (l3 l4 l5 : Int) (M : Mem), ((-2147483648) ≤ l3 ∧ l3 ≤ 2147483647) → ((-2147483648) ≤ l4 ∧ l4 ≤ 36) → (0 ≤ l5 ∧ l5 ≤ 216) → (F12 M) → (NP M) → (SF M) → 217 - l5 < (fu79 : Int) → I n M → Keep n W_X9_apart Me M → wp (k79 126 l3 l4 l5 M) (fun q => I n q.2 ∧ Keep n W_X9_apart Me q.2 ∧ ((-2147483648) ≤ q.1 ∧ q.1 ≤ 36) ∧ True)) {l3 l4 l5 : Int} {M : Mem} (r_l3 : (-2147483648) ≤ l3 ∧ l3 ≤ 2147483647) (r_l4 : (-2147483648) ≤ l4 ∧ l4 ≤ 36) (r_l5 : 0 ≤ l5 ∧ l5 ≤ 215) (p_F12 : F12 M) (p_NP : NP M) (p_SF : SF M) (hf79 : 217 - l5 < (fu79 : Int) + 1) (iM : I n M) (kM : Keep n W_X9_apart Me M) : wp (mX9_apart_123 k79 126 l3 l4 l5 M) (fun q => I n q.2 ∧ Keep n W_X9_apart Me q.2 ∧ ((-2147483648) ≤ q.1 ∧ q.1 ≤ 36) ∧ True) := by
  have hn : (169 : Int) ≤ (n : Int) := by have := iM.2.2.2.2.1; omega
  unfold mX9_apart_123
  have w1_ := wI_id (x := (l5 + 1)) (by omega) (by omega)
  exact hk79 _ _ _ _ ⟨by omega, by omega⟩ ⟨by omega, by omega⟩ ⟨by omega, by omega⟩ p_F12 p_NP p_SF (by omega) iM kM
theorem s_X9_apart_121 {n : Nat} {Me : Mem} {k79 : Int → Int → Int → Int → Mem → Option (Int × Mem)} {fu79 : Nat} (hk79 : ∀ (l3 l4 l5 : Int) (M : Mem), ((-2147483648) ≤ l3 ∧ l3 ≤ 2147483647) → ((-2147483648) ≤ l4 ∧ l4 ≤ 36) → (0 ≤ l5 ∧ l5 ≤ 216) → (F12 M) → (NP M) → (SF M) → 217 - l5 < (fu79 : Int) → I n M → Keep n W_X9_apart Me M → wp (k79 126 l3 l4 l5 M) (fun q => I n q.2 ∧ Keep n W_X9_apart Me q.2 ∧ ((-2147483648) ≤ q.1 ∧ q.1 ≤ 36) ∧ True)) {l3 l5 s0 : Int} {M : Mem} (r_l3 : (-2147483648) ≤ l3 ∧ l3 ≤ 2147483647) (r_l5 : 0 ≤ l5 ∧ l5 ≤ 215) (r_s0 : (-2147483648) ≤ s0 ∧ s0 ≤ 36) (p_F12 : F12 M) (p_NP : NP M) (p_SF : SF M) (hf79 : 217 - l5 < (fu79 : Int) + 1) (iM : I n M) (kM : Keep n W_X9_apart Me M) : wp (mX9_apart_121 k79 126 l3 l5 s0 M) (fun q => I n q.2 ∧ Keep n W_X9_apart Me q.2 ∧ ((-2147483648) ≤ q.1 ∧ q.1 ≤ 36) ∧ True) := by
  have hn : (169 : Int) ≤ (n : Int) := by have := iM.2.2.2.2.1; omega
  unfold mX9_apart_121
  exact s_X9_apart_123 hk79 ⟨by omega, by omega⟩ ⟨by omega, by omega⟩ ⟨by omega, by omega⟩ p_F12 p_NP p_SF (by omega) iM kM
theorem sb_X9_apart_79 {n : Nat} {Me : Mem} {k79 : Int → Int → Int → Int → Mem → Option (Int × Mem)} {fu79 : Nat} (hk79 : ∀ (l3 l4 l5 : Int) (M : Mem), ((-2147483648) ≤ l3 ∧ l3 ≤ 2147483647) → ((-2147483648) ≤ l4 ∧ l4 ≤ 36) → (0 ≤ l5 ∧ l5 ≤ 216) → (F12 M) → (NP M) → (SF M) → 217 - l5 < (fu79 : Int) → I n M → Keep n W_X9_apart Me M → wp (k79 126 l3 l4 l5 M) (fun q => I n q.2 ∧ Keep n W_X9_apart Me q.2 ∧ ((-2147483648) ≤ q.1 ∧ q.1 ≤ 36) ∧ True)) {l3 l4 l5 : Int} {M : Mem} (r_l3 : (-2147483648) ≤ l3 ∧ l3 ≤ 2147483647) (r_l4 : (-2147483648) ≤ l4 ∧ l4 ≤ 36) (r_l5 : 0 ≤ l5 ∧ l5 ≤ 216) (p_F12 : F12 M) (p_NP : NP M) (p_SF : SF M) (hf79 : 217 - l5 < (fu79 : Int) + 1) (iM : I n M) (kM : Keep n W_X9_apart Me M) : wp (bX9_apart_79 k79 126 l3 l4 l5 M) (fun q => I n q.2 ∧ Keep n W_X9_apart Me q.2 ∧ ((-2147483648) ≤ q.1 ∧ q.1 ≤ 36) ∧ True) := by
  have hn : (169 : Int) ≤ (n : Int) := by have := iM.2.2.2.2.1; omega
  unfold bX9_apart_79
  refine w_if (fun c1_ => ?_) (fun c1_ => ?_)
  · skip
    exact w_ret ⟨iM, kM, (show (-2147483648) ≤ l4 ∧ l4 ≤ 36 from ⟨by omega, by omega⟩), trivial⟩
  · skip
    refine w_gK (congrArg Prod.fst (kl_126 iM)) ?_
    refine w_call (s_X9_takeOrders ⟨by omega, by omega⟩ p_NP iM) ?_
    intro v90 m90 pp90
    obtain ⟨im90, kk90, e90_0, -⟩ := pp90
    try dsimp only
    replace im90 : I n m90 := im90
    replace kk90 : Keep n W_X9_takeOrders M m90 := kk90
    have km90 : Keep n W_X9_apart Me m90 := kM.tr kk90 (fun b j z => by unfold W_X9_takeOrders at z; exact (Or.inr (Or.inl z)))
    replace e90_0 : 0 ≤ v90 ∧ v90 ≤ 1 := e90_0
    refine w_if (fun c2_ => ?_) (fun c2_ => ?_)
    · skip
      have ppF12_m90 : F12 m90 := (F12_of p_F12 (fun j => kk90.2.2 153 j (by omega) (fun z => by unfold W_X9_takeOrders at z; (try unfold isWS at z); (try unfold isShape at z); (try unfold isTold at z); (try dsimp only at z); omega)) (fun j => kk90.2.2 134 j (by omega) (fun z => by unfold W_X9_takeOrders at z; (try unfold isWS at z); (try unfold isShape at z); (try unfold isTold at z); (try dsimp only at z); omega)))
      have ppNP_m90 : NP m90 := (NP_of p_NP (fun j => kk90.2.2 152 j (by omega) (fun z => by unfold W_X9_takeOrders at z; (try unfold isWS at z); (try unfold isShape at z); (try unfold isTold at z); (try dsimp only at z); omega)))
      have ppSF_m90 : SF m90 := (SF_of p_SF (fun j => kk90.2.2 153 j (by omega) (fun z => by unfold W_X9_takeOrders at z; (try unfold isWS at z); (try unfold isShape at z); (try unfold isTold at z); (try dsimp only at z); omega)) (fun j => kk90.2.2 134 j (by omega) (fun z => by unfold W_X9_takeOrders at z; (try unfold isWS at z); (try unfold isShape at z); (try unfold isTold at z); (try dsimp only at z); omega)) (fun j => kk90.2.2 133 j (by omega) (fun z => by unfold W_X9_takeOrders at z; (try unfold isWS at z); (try unfold isShape at z); (try unfold isTold at z); (try dsimp only at z); omega)) (fun j => kk90.2.2 135 j (by omega) (fun z => by unfold W_X9_takeOrders at z; (try unfold isWS at z); (try unfold isShape at z); (try unfold isTold at z); (try dsimp only at z); omega)) (fun j => kk90.2.2 136 j (by omega) (fun z => by unfold W_X9_takeOrders at z; (try unfold isWS at z); (try unfold isShape at z); (try unfold isTold at z); (try dsimp only at z); omega)) (fun j => kk90.2.2 152 j (by omega) (fun z => by unfold W_X9_takeOrders at z; (try unfold isWS at z); (try unfold isShape at z); (try unfold isTold at z); (try dsimp only at z); omega)))
      exact s_X9_apart_123 hk79 ⟨by omega, by omega⟩ ⟨by omega, by omega⟩ ⟨by omega, by omega⟩ ppF12_m90 ppNP_m90 ppSF_m90 (by omega) im90 km90
    · skip
      refine w_gK (congrArg Prod.fst (kl_126 im90)) ?_
      have ppNP_m90 : NP m90 := (NP_of p_NP (fun j => kk90.2.2 152 j (by omega) (fun z => by unfold W_X9_takeOrders at z; (try unfold isWS at z); (try unfold isShape at z); (try unfold isTold at z); (try dsimp only at z); omega)))
      refine w_call (s_X9_imageOf ppNP_m90 im90) ?_
      intro v97 m97 pp97
      obtain ⟨im97, kk97, e97_0, -⟩ := pp97
      try dsimp only
      replace im97 : I n m97 := im97
      replace kk97 : Keep n W_X9_imageOf m90 m97 := kk97
      have km97 : Keep n W_X9_apart Me m97 := km90.tr kk97 (fun b j z => z.elim)
      replace e97_0 : (-2147483648) ≤ v97 ∧ v97 ≤ 2147483647 := e97_0
      have w3_ := ixor_in v97 l3
      refine w_call (s_X9_ones ⟨by omega, by omega⟩ im97) ?_
      intro v102 m102 pp102
      obtain ⟨im102, kk102, e102_0, -⟩ := pp102
      try dsimp only
      replace im102 : I n m102 := im102
      replace kk102 : Keep n W_X9_ones m97 m102 := kk102
      have km102 : Keep n W_X9_apart Me m102 := km97.tr kk102 (fun b j z => z.elim)
      replace e102_0 : (-2147483648) ≤ v102 ∧ v102 ≤ 2147483647 := e102_0
      refine w_if (fun c4_ => ?_) (fun c4_ => ?_)
      · skip
        have ppF12_m102 : F12 m102 := (F12_of (F12_of (F12_of p_F12 (fun j => kk90.2.2 153 j (by omega) (fun z => by unfold W_X9_takeOrders at z; (try unfold isWS at z); (try unfold isShape at z); (try unfold isTold at z); (try dsimp only at z); omega)) (fun j => kk90.2.2 134 j (by omega) (fun z => by unfold W_X9_takeOrders at z; (try unfold isWS at z); (try unfold isShape at z); (try unfold isTold at z); (try dsimp only at z); omega))) (fun j => kk97.2.2 153 j (by omega) (fun z => z)) (fun j => kk97.2.2 134 j (by omega) (fun z => z))) (fun j => kk102.2.2 153 j (by omega) (fun z => z)) (fun j => kk102.2.2 134 j (by omega) (fun z => z)))
        have ppNP_m102 : NP m102 := (NP_of (NP_of ppNP_m90 (fun j => kk97.2.2 152 j (by omega) (fun z => z))) (fun j => kk102.2.2 152 j (by omega) (fun z => z)))
        have ppSF_m102 : SF m102 := (SF_of (SF_of (SF_of p_SF (fun j => kk90.2.2 153 j (by omega) (fun z => by unfold W_X9_takeOrders at z; (try unfold isWS at z); (try unfold isShape at z); (try unfold isTold at z); (try dsimp only at z); omega)) (fun j => kk90.2.2 134 j (by omega) (fun z => by unfold W_X9_takeOrders at z; (try unfold isWS at z); (try unfold isShape at z); (try unfold isTold at z); (try dsimp only at z); omega)) (fun j => kk90.2.2 133 j (by omega) (fun z => by unfold W_X9_takeOrders at z; (try unfold isWS at z); (try unfold isShape at z); (try unfold isTold at z); (try dsimp only at z); omega)) (fun j => kk90.2.2 135 j (by omega) (fun z => by unfold W_X9_takeOrders at z; (try unfold isWS at z); (try unfold isShape at z); (try unfold isTold at z); (try dsimp only at z); omega)) (fun j => kk90.2.2 136 j (by omega) (fun z => by unfold W_X9_takeOrders at z; (try unfold isWS at z); (try unfold isShape at z); (try unfold isTold at z); (try dsimp only at z); omega)) (fun j => kk90.2.2 152 j (by omega) (fun z => by unfold W_X9_takeOrders at z; (try unfold isWS at z); (try unfold isShape at z); (try unfold isTold at z); (try dsimp only at z); omega))) (fun j => kk97.2.2 153 j (by omega) (fun z => z)) (fun j => kk97.2.2 134 j (by omega) (fun z => z)) (fun j => kk97.2.2 133 j (by omega) (fun z => z)) (fun j => kk97.2.2 135 j (by omega) (fun z => z)) (fun j => kk97.2.2 136 j (by omega) (fun z => z)) (fun j => kk97.2.2 152 j (by omega) (fun z => z))) (fun j => kk102.2.2 153 j (by omega) (fun z => z)) (fun j => kk102.2.2 134 j (by omega) (fun z => z)) (fun j => kk102.2.2 133 j (by omega) (fun z => z)) (fun j => kk102.2.2 135 j (by omega) (fun z => z)) (fun j => kk102.2.2 136 j (by omega) (fun z => z)) (fun j => kk102.2.2 152 j (by omega) (fun z => z)))
        exact s_X9_apart_121 hk79 ⟨by omega, by omega⟩ ⟨by omega, by omega⟩ ⟨by omega, by omega⟩ ppF12_m102 ppNP_m102 ppSF_m102 (by omega) im102 km102
      · skip
        have ppF12_m102 : F12 m102 := (F12_of (F12_of (F12_of p_F12 (fun j => kk90.2.2 153 j (by omega) (fun z => by unfold W_X9_takeOrders at z; (try unfold isWS at z); (try unfold isShape at z); (try unfold isTold at z); (try dsimp only at z); omega)) (fun j => kk90.2.2 134 j (by omega) (fun z => by unfold W_X9_takeOrders at z; (try unfold isWS at z); (try unfold isShape at z); (try unfold isTold at z); (try dsimp only at z); omega))) (fun j => kk97.2.2 153 j (by omega) (fun z => z)) (fun j => kk97.2.2 134 j (by omega) (fun z => z))) (fun j => kk102.2.2 153 j (by omega) (fun z => z)) (fun j => kk102.2.2 134 j (by omega) (fun z => z)))
        have ppNP_m102 : NP m102 := (NP_of (NP_of ppNP_m90 (fun j => kk97.2.2 152 j (by omega) (fun z => z))) (fun j => kk102.2.2 152 j (by omega) (fun z => z)))
        have ppSF_m102 : SF m102 := (SF_of (SF_of (SF_of p_SF (fun j => kk90.2.2 153 j (by omega) (fun z => by unfold W_X9_takeOrders at z; (try unfold isWS at z); (try unfold isShape at z); (try unfold isTold at z); (try dsimp only at z); omega)) (fun j => kk90.2.2 134 j (by omega) (fun z => by unfold W_X9_takeOrders at z; (try unfold isWS at z); (try unfold isShape at z); (try unfold isTold at z); (try dsimp only at z); omega)) (fun j => kk90.2.2 133 j (by omega) (fun z => by unfold W_X9_takeOrders at z; (try unfold isWS at z); (try unfold isShape at z); (try unfold isTold at z); (try dsimp only at z); omega)) (fun j => kk90.2.2 135 j (by omega) (fun z => by unfold W_X9_takeOrders at z; (try unfold isWS at z); (try unfold isShape at z); (try unfold isTold at z); (try dsimp only at z); omega)) (fun j => kk90.2.2 136 j (by omega) (fun z => by unfold W_X9_takeOrders at z; (try unfold isWS at z); (try unfold isShape at z); (try unfold isTold at z); (try dsimp only at z); omega)) (fun j => kk90.2.2 152 j (by omega) (fun z => by unfold W_X9_takeOrders at z; (try unfold isWS at z); (try unfold isShape at z); (try unfold isTold at z); (try dsimp only at z); omega))) (fun j => kk97.2.2 153 j (by omega) (fun z => z)) (fun j => kk97.2.2 134 j (by omega) (fun z => z)) (fun j => kk97.2.2 133 j (by omega) (fun z => z)) (fun j => kk97.2.2 135 j (by omega) (fun z => z)) (fun j => kk97.2.2 136 j (by omega) (fun z => z)) (fun j => kk97.2.2 152 j (by omega) (fun z => z))) (fun j => kk102.2.2 153 j (by omega) (fun z => z)) (fun j => kk102.2.2 134 j (by omega) (fun z => z)) (fun j => kk102.2.2 133 j (by omega) (fun z => z)) (fun j => kk102.2.2 135 j (by omega) (fun z => z)) (fun j => kk102.2.2 136 j (by omega) (fun z => z)) (fun j => kk102.2.2 152 j (by omega) (fun z => z)))
        exact s_X9_apart_121 hk79 ⟨by omega, by omega⟩ ⟨by omega, by omega⟩ ⟨by omega, by omega⟩ ppF12_m102 ppNP_m102 ppSF_m102 (by omega) im102 km102
theorem s_X9_apart_79 {n : Nat} {Me : Mem} : ∀ (fu : Nat) (l3 l4 l5 : Int) (M : Mem), ((-2147483648) ≤ l3 ∧ l3 ≤ 2147483647) → ((-2147483648) ≤ l4 ∧ l4 ≤ 36) → (0 ≤ l5 ∧ l5 ≤ 216) → (F12 M) → (NP M) → (SF M) → 217 - l5 < (fu : Int) → I n M → Keep n W_X9_apart Me M → wp (mX9_apart_79 fu 126 l3 l4 l5 M) (fun q => I n q.2 ∧ Keep n W_X9_apart Me q.2 ∧ ((-2147483648) ≤ q.1 ∧ q.1 ≤ 36) ∧ True) := by
  intro fu
  induction fu with
  | zero =>
    intro l3 l4 l5 M r_l3 r_l4 r_l5 p_F12 p_NP p_SF hf iM kM
    exfalso
    omega
  | succ fu ih =>
    intro l3 l4 l5 M r_l3 r_l4 r_l5 p_F12 p_NP p_SF hf iM kM
    exact sb_X9_apart_79 ih r_l3 r_l4 r_l5 p_F12 p_NP p_SF (by have e : ((fu + 1 : Nat) : Int) = (fu : Int) + 1 := rfl; rw [e] at hf; exact hf) iM kM
theorem sb_X9_apart_39 {n : Nat} {Me : Mem} {k39 : Int → Int → Int → Int → Mem → Option (Int × Mem)} {fu39 : Nat} (hk39 : ∀ (l1 l2 l3 : Int) (M : Mem), (0 ≤ l1 ∧ l1 ≤ 3) → (0 ≤ l2 ∧ l2 ≤ 12) → (0 ≤ l3 ∧ l3 ≤ 12) → (F12 M) → (NP M) → (SF M) → 13 - l3 < (fu39 : Int) → I n M → Keep n W_X9_apart Me M → wp (k39 126 l1 l2 l3 M) (fun q => I n q.2 ∧ Keep n W_X9_apart Me q.2 ∧ ((-2147483648) ≤ q.1 ∧ q.1 ≤ 36) ∧ True)) {l1 l2 l3 : Int} {M : Mem} (r_l1 : 0 ≤ l1 ∧ l1 ≤ 3) (r_l2 : 0 ≤ l2 ∧ l2 ≤ 12) (r_l3 : 0 ≤ l3 ∧ l3 ≤ 12) (p_F12 : F12 M) (p_NP : NP M) (p_SF : SF M) (hf39 : 13 - l3 < (fu39 : Int) + 1) (iM : I n M) (kM : Keep n W_X9_apart Me M) : wp (bX9_apart_39 k39 126 l1 l2 l3 M) (fun q => I n q.2 ∧ Keep n W_X9_apart Me q.2 ∧ ((-2147483648) ≤ q.1 ∧ q.1 ≤ 36) ∧ True) := by
  have hn : (169 : Int) ≤ (n : Int) := by have := iM.2.2.2.2.1; omega
  unfold bX9_apart_39
  refine w_if (fun c1_ => ?_) (fun c1_ => ?_)
  · skip
    refine w_gK (congrArg Prod.fst (kl_126 iM)) ?_
    refine w_call (s_X9_numberOfWorld p_NP iM) ?_
    intro v68 m68 pp68
    obtain ⟨im68, kk68, e68_0, -⟩ := pp68
    try dsimp only
    replace im68 : I n m68 := im68
    replace kk68 : Keep n W_X9_numberOfWorld M m68 := kk68
    have km68 : Keep n W_X9_apart Me m68 := kM.tr kk68 (fun b j z => z.elim)
    replace e68_0 : (-2147483648) ≤ v68 ∧ v68 ≤ 2147483647 := e68_0
    have ppF12_m68 : F12 m68 := (F12_of p_F12 (fun j => kk68.2.2 153 j (by omega) (fun z => z)) (fun j => kk68.2.2 134 j (by omega) (fun z => z)))
    have ppNP_m68 : NP m68 := (NP_of p_NP (fun j => kk68.2.2 152 j (by omega) (fun z => z)))
    have ppSF_m68 : SF m68 := (SF_of p_SF (fun j => kk68.2.2 153 j (by omega) (fun z => z)) (fun j => kk68.2.2 134 j (by omega) (fun z => z)) (fun j => kk68.2.2 133 j (by omega) (fun z => z)) (fun j => kk68.2.2 135 j (by omega) (fun z => z)) (fun j => kk68.2.2 136 j (by omega) (fun z => z)) (fun j => kk68.2.2 152 j (by omega) (fun z => z)))
    exact s_X9_apart_79 FU _ _ _ _ ⟨by omega, by omega⟩ ⟨by omega, by omega⟩ ⟨by omega, by omega⟩ ppF12_m68 ppNP_m68 ppSF_m68 (by show _ < (70000 : Int); omega) im68 km68
  · skip
    refine w_gFc (ji := 28) rfl (congrArg Prod.fst (kl_126 iM)) (show mG M 126 28 = 154 from rd_Model_28 iM (a := 126) rfl) ?_
    refine w_gFc (ji := 24) rfl (congrArg Prod.fst (kl_126 iM)) (show mG M 126 24 = 150 from rd_Model_24 iM (a := 126) rfl) ?_
    have w2_ := wI_id (x := (36 * l1)) (by omega) (by omega)
    have w3_ := wI_id (x := ((wI (36 * l1)) + l3)) (by omega) (by omega)
    refine w_aG (kl_150 iM) (by omega) (by omega) (fun a59 ha59 => ?_)
    have ra59 : 0 ≤ a59 ∧ a59 ≤ 1 := ha59.tr (P := fun z => 0 ≤ z ∧ z ≤ 1) (rd_Mheld iM rfl)
    refine w_aSZ (kl_154 iM) (by omega) (by omega) (by omega) (fun M60 hM60 => ?_)
    replace hM60 : M60 = mS M 154 l3 a59 := hM60
    have iM60 : I n M60 := wr_Mis iM rfl ⟨by omega, by omega⟩ hM60
    have kM60 : Keep n W_X9_apart Me M60 := kM.st hM60 (Or.inl (Or.inl ⟨by decide, by decide⟩))
    have w4_ := wI_id (x := (l3 + 1)) (by omega) (by omega)
    have ppF12_M60 : F12 M60 := (F12_of p_F12 (fun j => st_ne hM60 (fun z => ne_fam rfl rfl (by decide) z.1)) (fun j => st_ne hM60 (fun z => ne_fam rfl rfl (by decide) z.1)))
    have ppNP_M60 : NP M60 := (NP_of p_NP (fun j => st_ne hM60 (fun z => ne_fam rfl rfl (by decide) z.1)))
    have ppSF_M60 : SF M60 := (SF_of p_SF (fun j => st_ne hM60 (fun z => ne_fam rfl rfl (by decide) z.1)) (fun j => st_ne hM60 (fun z => ne_fam rfl rfl (by decide) z.1)) (fun j => st_ne hM60 (fun z => ne_fam rfl rfl (by decide) z.1)) (fun j => st_ne hM60 (fun z => ne_fam rfl rfl (by decide) z.1)) (fun j => st_ne hM60 (fun z => ne_fam rfl rfl (by decide) z.1)) (fun j => st_ne hM60 (fun z => ne_fam rfl rfl (by decide) z.1)))
    exact hk39 _ _ _ _ ⟨by omega, by omega⟩ ⟨by omega, by omega⟩ ⟨by omega, by omega⟩ ppF12_M60 ppNP_M60 ppSF_M60 (by omega) iM60 kM60
theorem s_X9_apart_39 {n : Nat} {Me : Mem} : ∀ (fu : Nat) (l1 l2 l3 : Int) (M : Mem), (0 ≤ l1 ∧ l1 ≤ 3) → (0 ≤ l2 ∧ l2 ≤ 12) → (0 ≤ l3 ∧ l3 ≤ 12) → (F12 M) → (NP M) → (SF M) → 13 - l3 < (fu : Int) → I n M → Keep n W_X9_apart Me M → wp (mX9_apart_39 fu 126 l1 l2 l3 M) (fun q => I n q.2 ∧ Keep n W_X9_apart Me q.2 ∧ ((-2147483648) ≤ q.1 ∧ q.1 ≤ 36) ∧ True) := by
  intro fu
  induction fu with
  | zero =>
    intro l1 l2 l3 M r_l1 r_l2 r_l3 p_F12 p_NP p_SF hf iM kM
    exfalso
    omega
  | succ fu ih =>
    intro l1 l2 l3 M r_l1 r_l2 r_l3 p_F12 p_NP p_SF hf iM kM
    exact sb_X9_apart_39 ih r_l1 r_l2 r_l3 p_F12 p_NP p_SF (by have e : ((fu + 1 : Nat) : Int) = (fu : Int) + 1 := rfl; rw [e] at hf; exact hf) iM kM
theorem s_X9_apart {n : Nat} {l1 : Int} {M : Mem} (r_l1 : (-2147483648) ≤ l1 ∧ l1 ≤ 2147483647) (iM : I n M) : wp (mX9_apart 126 l1 M) (fun q => I n q.2 ∧ Keep n W_X9_apart M q.2 ∧ ((-2147483648) ≤ q.1 ∧ q.1 ≤ 36) ∧ True) := by
  have hn : (169 : Int) ≤ (n : Int) := by have := iM.2.2.2.2.1; omega
  have kM : Keep n W_X9_apart M M := Keep.rf
  unfold mX9_apart
  refine w_pF (ji := 0) rfl (congrArg Prod.fst (kl_126 iM)) (fun M2 hM2 => ?_)
  replace hM2 : M2 = mS M 126 0 0 := hM2
  have iM2 : I n M2 := wr_Model_0 iM rfl ⟨by omega, by omega⟩ hM2
  have kM2 : Keep n W_X9_apart M M2 := kM.st hM2 (Or.inl (Or.inr (Or.inr ⟨rfl, rfl⟩)))
  refine w_call (s_X9_in ⟨by omega, by omega⟩ ⟨by omega, by omega⟩ ⟨by omega, by omega⟩ iM2) ?_
  intro v8 m8 pp8
  obtain ⟨im8, kk8, e8_0, e8_1, -⟩ := pp8
  try dsimp only
  replace im8 : I n m8 := im8
  replace kk8 : Keep n W_X9_in M2 m8 := kk8
  have km8 : Keep n W_X9_apart M m8 := kM2.tr kk8 (fun b j z => z.elim)
  replace e8_0 : 0 ≤ v8 ∧ v8 ≤ 1 := e8_0
  replace e8_1 : v8 = 1 → 0 ≤ l1 ∧ l1 ≤ 3 := e8_1
  refine w_if (fun c1_ => ?_) (fun c1_ => ?_)
  · skip
    exact w_ret ⟨im8, km8, (show (-2147483648) ≤ (-1) ∧ (-1) ≤ 36 from ⟨by omega, by omega⟩), trivial⟩
  · skip
    refine w_gFc (ji := 25) rfl (congrArg Prod.fst (kl_126 im8)) (show mG m8 126 25 = 151 from rd_Model_25 im8 (a := 126) rfl) ?_
    refine w_aG (kl_151 im8) (by omega) (by omega) (fun a19 ha19 => ?_)
    have ra19 : 0 ≤ a19 ∧ a19 ≤ 1 := ha19.tr (P := fun z => 0 ≤ z ∧ z ≤ 1) (rd_MholdsPlace im8 rfl)
    refine w_if (fun c2_ => ?_) (fun c2_ => ?_)
    · skip
      exact w_ret ⟨im8, km8, (show (-2147483648) ≤ (-1) ∧ (-1) ≤ 36 from ⟨by omega, by omega⟩), trivial⟩
    · skip
      refine w_gK (congrArg Prod.fst (kl_126 im8)) ?_
      refine w_call (s_X9_canTell im8) ?_
      intro v24 m24 pp24
      obtain ⟨im24, kk24, e24_0, e24_1, e24_2, e24_3, -⟩ := pp24
      try dsimp only
      replace im24 : I n m24 := im24
      replace kk24 : Keep n W_X9_canTell m8 m24 := kk24
      have km24 : Keep n W_X9_apart M m24 := km8.tr kk24 (fun b j z => by unfold W_X9_canTell at z; exact (Or.inl ⟨by omega, by omega⟩))
      replace e24_0 : 0 ≤ v24 ∧ v24 ≤ 1 := e24_0
      replace e24_1 : NP m24 := e24_1
      have gNP_m24 := e24_1
      replace e24_2 : SF m24 := e24_2
      have gSF_m24 := e24_2
      replace e24_3 : v24 = 1 → F12 m24 := e24_3
      have ev24 := e24_3
      refine w_if (fun c3_ => ?_) (fun c3_ => ?_)
      · skip
        exact w_ret ⟨im24, km24, (show (-2147483648) ≤ (-1) ∧ (-1) ≤ 36 from ⟨by omega, by omega⟩), trivial⟩
      · skip
        have pF12_c3__m24 : F12 m24 := ev24 (by omega)
        refine w_gK (congrArg Prod.fst (kl_126 im24)) ?_
        refine w_call (s_X9_manyFacts im24) ?_
        intro v33 m33 pp33
        obtain ⟨im33, kk33, e33_0, e33_1, -⟩ := pp33
        try dsimp only
        replace im33 : I n m33 := im33
        replace kk33 : Keep n W_X9_manyFacts m24 m33 := kk33
        have km33 : Keep n W_X9_apart M m33 := km24.tr kk33 (fun b j z => z.elim)
        replace e33_0 : 0 ≤ v33 ∧ v33 ≤ 36 := e33_0
        replace e33_1 : v33 = mG m33 153 (mG m33 134 0) := e33_1
        have ev33 := e33_1
        have ppF12_m33 : F12 m33 := (F12_of pF12_c3__m24 (fun j => kk33.2.2 153 j (by omega) (fun z => z)) (fun j => kk33.2.2 134 j (by omega) (fun z => z)))
        have fv33 : v33 ≤ 12 := by rw [ev33]; exact ppF12_m33
        have ppNP_m33 : NP m33 := (NP_of gNP_m24 (fun j => kk33.2.2 152 j (by omega) (fun z => z)))
        have ppSF_m33 : SF m33 := (SF_of gSF_m24 (fun j => kk33.2.2 153 j (by omega) (fun z => z)) (fun j => kk33.2.2 134 j (by omega) (fun z => z)) (fun j => kk33.2.2 133 j (by omega) (fun z => z)) (fun j => kk33.2.2 135 j (by omega) (fun z => z)) (fun j => kk33.2.2 136 j (by omega) (fun z => z)) (fun j => kk33.2.2 152 j (by omega) (fun z => z)))
        exact s_X9_apart_39 FU _ _ _ _ ⟨by omega, by omega⟩ ⟨by omega, by omega⟩ ⟨by omega, by omega⟩ ppF12_m33 ppNP_m33 ppSF_m33 (by show _ < (70000 : Int); omega) im33 km33
def W_X9_four (b j : Int) : Prop := (127 ≤ b ∧ b ≤ 128)
theorem sb_X9_four_3 {n : Nat} {Me : Mem} {k3 : Int → Int → Int → Mem → Option (Int × Mem)} {fu3 : Nat} (hk3 : ∀ (l1 l2 : Int) (M : Mem), ((-2147483648) ≤ l1 ∧ l1 ≤ 2147483647) → ((-8) ≤ l2 ∧ l2 ≤ 24) → (8 * mG M 128 0 + l2 + 8 = 8 * mG Me 128 0 + 32 ∧ l2 % 8 = 0 ∧ -8 ≤ l2 ∧ mG Me 128 0 ≤ 396) → l2 - (-9) < (fu3 : Int) → I n M → Keep n W_X9_four Me M → wp (k3 126 l1 l2 M) (fun q => I n q.2 ∧ Keep n W_X9_four Me q.2 ∧ (mG q.2 128 0 = mG Me 128 0 + 4) ∧ True)) {l1 l2 : Int} {M : Mem} (r_l1 : (-2147483648) ≤ l1 ∧ l1 ≤ 2147483647) (r_l2 : (-8) ≤ l2 ∧ l2 ≤ 24) (y0 : 8 * mG M 128 0 + l2 + 8 = 8 * mG Me 128 0 + 32 ∧ l2 % 8 = 0 ∧ -8 ≤ l2 ∧ mG Me 128 0 ≤ 396) (hf3 : l2 - (-9) < (fu3 : Int) + 1) (iM : I n M) (kM : Keep n W_X9_four Me M) : wp (bX9_four_3 k3 126 l1 l2 M) (fun q => I n q.2 ∧ Keep n W_X9_four Me q.2 ∧ (mG q.2 128 0 = mG Me 128 0 + 4) ∧ True) := by
  have hn : (169 : Int) ≤ (n : Int) := by have := iM.2.2.2.2.1; omega
  obtain ⟨nh0, enh0⟩ : ∃ v, Is (mG M 128 0) v := ⟨_, rfl⟩
  have rnh0 : 0 ≤ nh0 ∧ nh0 ≤ 400 := by rw [← enh0.e]; exact rd_Msize iM rfl
  have qnh0 : mG M 128 0 = nh0 := enh0
  (try rw [enh0.e] at y0); (try rw [enh0.e] at hf3)
  unfold bX9_four_3
  refine w_if (fun c1_ => ?_) (fun c1_ => ?_)
  · skip
    exact w_ret ⟨iM, kM, (show mG M 128 0 = mG Me 128 0 + 4 from (by (try rw [(show mG M 128 0 = nh0 from (show mG M 128 0 = nh0 from enh0))]); all_goals omega)), trivial⟩
  · skip
    refine w_gFc (ji := 1) rfl (congrArg Prod.fst (kl_126 iM)) (show mG M 126 1 = 127 from rd_Model_1 iM (a := 126) rfl) ?_
    refine w_gFc (ji := 2) rfl (congrArg Prod.fst (kl_126 iM)) (show mG M 126 2 = 128 from rd_Model_2 iM (a := 126) rfl) ?_
    refine w_aGc (kl_128 iM) (by omega) (by omega) (show mG M 128 0 = nh0 from (show mG M 128 0 = nh0 from enh0)) ?_
    have w2_ := ishr_in l1 l2
    have w3_ := i2b_in (ishr l1 l2)
    refine w_aSB (kl_127 iM) (by omega) (by omega) ⟨by omega, by omega⟩ (fun M21 hM21 => ?_)
    replace hM21 : M21 = mS M 127 nh0 (i2b (ishr l1 l2)) := hM21
    have iM21 : I n M21 := wr_Mtape iM rfl ⟨by omega, by omega⟩ hM21
    have kM21 : Keep n W_X9_four Me M21 := kM.st hM21 (Or.inl ⟨by decide, by decide⟩)
    obtain ⟨svM21, esvM21⟩ : ∃ z, z = (i2b (ishr l1 l2)) := ⟨_, rfl⟩
    refine w_gFc (ji := 2) rfl (congrArg Prod.fst (kl_126 iM21)) (show mG M21 126 2 = 128 from rd_Model_2 iM21 (a := 126) rfl) ?_
    refine w_aGc (kl_128 iM21) (by omega) (by omega) (show mG M21 128 0 = nh0 from ((st_ne hM21 (fun z => ne_fam rfl rfl (by decide) z.1)).trans (show mG M 128 0 = nh0 from enh0))) ?_
    have w4_ := wI_id (x := (nh0 + 1)) (by omega) (by omega)
    refine w_aS (kl_128 iM21) (by omega) (by omega) (fun M31 hM31 => ?_)
    replace hM31 : M31 = mS M21 128 0 (wI (nh0 + 1)) := hM31
    have iM31 : I n M31 := wr_Msize iM21 rfl ⟨by omega, by omega⟩ hM31
    have kM31 : Keep n W_X9_four Me M31 := kM21.st hM31 (Or.inl ⟨by decide, by decide⟩)
    obtain ⟨svM31, esvM31⟩ : ∃ z, z = (wI (nh0 + 1)) := ⟨_, rfl⟩
    have w5_ := wI_id (x := (l2 + (-8))) (by omega) (by omega)
    exact hk3 _ _ _ ⟨by omega, by omega⟩ ⟨by omega, by omega⟩ (by (try rw [(show mG M31 128 0 = svM31 from (show mG M31 128 0 = svM31 from ((st_eq hM31).trans esvM31.symm)))]); all_goals omega) (by omega) iM31 kM31
theorem s_X9_four_3 {n : Nat} {Me : Mem} : ∀ (fu : Nat) (l1 l2 : Int) (M : Mem), ((-2147483648) ≤ l1 ∧ l1 ≤ 2147483647) → ((-8) ≤ l2 ∧ l2 ≤ 24) → (8 * mG M 128 0 + l2 + 8 = 8 * mG Me 128 0 + 32 ∧ l2 % 8 = 0 ∧ -8 ≤ l2 ∧ mG Me 128 0 ≤ 396) → l2 - (-9) < (fu : Int) → I n M → Keep n W_X9_four Me M → wp (mX9_four_3 fu 126 l1 l2 M) (fun q => I n q.2 ∧ Keep n W_X9_four Me q.2 ∧ (mG q.2 128 0 = mG Me 128 0 + 4) ∧ True) := by
  intro fu
  induction fu with
  | zero =>
    intro l1 l2 M r_l1 r_l2 y0 hf iM kM
    exfalso
    omega
  | succ fu ih =>
    intro l1 l2 M r_l1 r_l2 y0 hf iM kM
    exact sb_X9_four_3 ih r_l1 r_l2 y0 (by have e : ((fu + 1 : Nat) : Int) = (fu : Int) + 1 := rfl; rw [e] at hf; exact hf) iM kM
theorem s_X9_four {n : Nat} {l1 : Int} {M : Mem} (r_l1 : (-2147483648) ≤ l1 ∧ l1 ≤ 2147483647) (y0 : mG M 128 0 ≤ 396) (iM : I n M) : wp (mX9_four 126 l1 M) (fun q => I n q.2 ∧ Keep n W_X9_four M q.2 ∧ (mG q.2 128 0 = mG M 128 0 + 4) ∧ True) := by
  have hn : (169 : Int) ≤ (n : Int) := by have := iM.2.2.2.2.1; omega
  have kM : Keep n W_X9_four M M := Keep.rf
  obtain ⟨nh0, enh0⟩ : ∃ v, Is (mG M 128 0) v := ⟨_, rfl⟩
  have rnh0 : 0 ≤ nh0 ∧ nh0 ≤ 400 := by rw [← enh0.e]; exact rd_Msize iM rfl
  have qnh0 : mG M 128 0 = nh0 := enh0
  (try rw [enh0.e] at y0)
  unfold mX9_four
  exact s_X9_four_3 FU _ _ _ ⟨by omega, by omega⟩ ⟨by omega, by omega⟩ (by (try rw [(show mG M 128 0 = nh0 from (show mG M 128 0 = nh0 from enh0))]); all_goals omega) (by show _ < (70000 : Int); omega) iM kM
def W_X9_feed (b j : Int) : Prop := (127 ≤ b ∧ b ≤ 128) ∨ (b = 126 ∧ j = 0)
theorem s_X9_feed {n : Nat} {l1 l2 l3 l4 l5 : Int} {M : Mem} (r_l1 : (-2147483648) ≤ l1 ∧ l1 ≤ 2147483647) (r_l2 : (-2147483648) ≤ l2 ∧ l2 ≤ 2147483647) (r_l3 : (-2147483648) ≤ l3 ∧ l3 ≤ 2147483647) (r_l4 : (-2147483648) ≤ l4 ∧ l4 ≤ 2147483647) (r_l5 : (-2147483648) ≤ l5 ∧ l5 ≤ 2147483647) (iM : I n M) : wp (mX9_feed 126 l1 l2 l3 l4 l5 M) (fun q => I n q.2 ∧ Keep n W_X9_feed M q.2 ∧ ((-1) ≤ q.1 ∧ q.1 ≤ 400) ∧ True) := by
  have hn : (169 : Int) ≤ (n : Int) := by have := iM.2.2.2.2.1; omega
  have kM : Keep n W_X9_feed M M := Keep.rf
  unfold mX9_feed
  refine w_pF (ji := 0) rfl (congrArg Prod.fst (kl_126 iM)) (fun M2 hM2 => ?_)
  replace hM2 : M2 = mS M 126 0 0 := hM2
  have iM2 : I n M2 := wr_Model_0 iM rfl ⟨by omega, by omega⟩ hM2
  have kM2 : Keep n W_X9_feed M M2 := kM.st hM2 (Or.inl (Or.inr ⟨rfl, rfl⟩))
  refine w_gFc (ji := 2) rfl (congrArg Prod.fst (kl_126 iM2)) (show mG M2 126 2 = 128 from rd_Model_2 iM2 (a := 126) rfl) ?_
  refine w_aG (kl_128 iM2) (by decide) (by decide) (fun a10 ha10 => ?_)
  have ra10 : 0 ≤ a10 ∧ a10 ≤ 400 := ha10.tr (P := fun z => 0 ≤ z ∧ z ≤ 400) (rd_Msize iM2 rfl)
  have w1_ := wI_id (x := (a10 + 20)) (by omega) (by omega)
  refine w_if (fun c2_ => ?_) (fun c2_ => ?_)
  · skip
    refine w_gK (congrArg Prod.fst (kl_126 iM2)) ?_
    have lbm24_0 : mG M2 128 0 = a10 := (show mG M2 128 0 = a10 from (show mG M2 128 0 = a10 from ha10))
    refine w_call (s_X9_four ⟨by omega, by omega⟩ (by (try rw [(show mG M2 128 0 = a10 from (show mG M2 128 0 = a10 from ha10))]); all_goals omega) iM2) ?_
    intro v24 m24 pp24
    obtain ⟨im24, kk24, e24_0, -⟩ := pp24
    try dsimp only
    replace im24 : I n m24 := im24
    replace kk24 : Keep n W_X9_four M2 m24 := kk24
    have km24 : Keep n W_X9_feed M m24 := kM2.tr kk24 (fun b j z => by unfold W_X9_four at z; exact (Or.inl z))
    replace e24_0 : mG m24 128 0 = mG M2 128 0 + 4 := e24_0
    obtain ⟨hv24_0, ehv24_0⟩ : ∃ v, Is (mG m24 128 0) v := ⟨_, rfl⟩
    have lhv24_0 : mG m24 128 0 = hv24_0 := ehv24_0
    have rhv24_0 : 0 ≤ hv24_0 ∧ hv24_0 ≤ 400 := by rw [← ehv24_0.e]; exact rd_Msize im24 rfl
    refine w_gK (congrArg Prod.fst (kl_126 im24)) ?_
    have lbm29_0 : mG m24 128 0 = hv24_0 := (show mG m24 128 0 = hv24_0 from (show mG m24 128 0 = hv24_0 from ehv24_0))
    refine w_call (s_X9_four ⟨by omega, by omega⟩ (by (try rw [(show mG m24 128 0 = hv24_0 from (show mG m24 128 0 = hv24_0 from ehv24_0))]); all_goals omega) im24) ?_
    intro v29 m29 pp29
    obtain ⟨im29, kk29, e29_0, -⟩ := pp29
    try dsimp only
    replace im29 : I n m29 := im29
    replace kk29 : Keep n W_X9_four m24 m29 := kk29
    have km29 : Keep n W_X9_feed M m29 := km24.tr kk29 (fun b j z => by unfold W_X9_four at z; exact (Or.inl z))
    replace e29_0 : mG m29 128 0 = mG m24 128 0 + 4 := e29_0
    obtain ⟨hv29_0, ehv29_0⟩ : ∃ v, Is (mG m29 128 0) v := ⟨_, rfl⟩
    have lhv29_0 : mG m29 128 0 = hv29_0 := ehv29_0
    have rhv29_0 : 0 ≤ hv29_0 ∧ hv29_0 ≤ 400 := by rw [← ehv29_0.e]; exact rd_Msize im29 rfl
    refine w_gK (congrArg Prod.fst (kl_126 im29)) ?_
    have lbm34_0 : mG m29 128 0 = hv29_0 := (show mG m29 128 0 = hv29_0 from (show mG m29 128 0 = hv29_0 from ehv29_0))
    refine w_call (s_X9_four ⟨by omega, by omega⟩ (by (try rw [(show mG m29 128 0 = hv29_0 from (show mG m29 128 0 = hv29_0 from ehv29_0))]); all_goals omega) im29) ?_
    intro v34 m34 pp34
    obtain ⟨im34, kk34, e34_0, -⟩ := pp34
    try dsimp only
    replace im34 : I n m34 := im34
    replace kk34 : Keep n W_X9_four m29 m34 := kk34
    have km34 : Keep n W_X9_feed M m34 := km29.tr kk34 (fun b j z => by unfold W_X9_four at z; exact (Or.inl z))
    replace e34_0 : mG m34 128 0 = mG m29 128 0 + 4 := e34_0
    obtain ⟨hv34_0, ehv34_0⟩ : ∃ v, Is (mG m34 128 0) v := ⟨_, rfl⟩
    have lhv34_0 : mG m34 128 0 = hv34_0 := ehv34_0
    have rhv34_0 : 0 ≤ hv34_0 ∧ hv34_0 ≤ 400 := by rw [← ehv34_0.e]; exact rd_Msize im34 rfl
    refine w_gK (congrArg Prod.fst (kl_126 im34)) ?_
    have lbm40_0 : mG m34 128 0 = hv34_0 := (show mG m34 128 0 = hv34_0 from (show mG m34 128 0 = hv34_0 from ehv34_0))
    refine w_call (s_X9_four ⟨by omega, by omega⟩ (by (try rw [(show mG m34 128 0 = hv34_0 from (show mG m34 128 0 = hv34_0 from ehv34_0))]); all_goals omega) im34) ?_
    intro v40 m40 pp40
    obtain ⟨im40, kk40, e40_0, -⟩ := pp40
    try dsimp only
    replace im40 : I n m40 := im40
    replace kk40 : Keep n W_X9_four m34 m40 := kk40
    have km40 : Keep n W_X9_feed M m40 := km34.tr kk40 (fun b j z => by unfold W_X9_four at z; exact (Or.inl z))
    replace e40_0 : mG m40 128 0 = mG m34 128 0 + 4 := e40_0
    obtain ⟨hv40_0, ehv40_0⟩ : ∃ v, Is (mG m40 128 0) v := ⟨_, rfl⟩
    have lhv40_0 : mG m40 128 0 = hv40_0 := ehv40_0
    have rhv40_0 : 0 ≤ hv40_0 ∧ hv40_0 ≤ 400 := by rw [← ehv40_0.e]; exact rd_Msize im40 rfl
    refine w_gK (congrArg Prod.fst (kl_126 im40)) ?_
    have lbm46_0 : mG m40 128 0 = hv40_0 := (show mG m40 128 0 = hv40_0 from (show mG m40 128 0 = hv40_0 from ehv40_0))
    refine w_call (s_X9_four ⟨by omega, by omega⟩ (by (try rw [(show mG m40 128 0 = hv40_0 from (show mG m40 128 0 = hv40_0 from ehv40_0))]); all_goals omega) im40) ?_
    intro v46 m46 pp46
    obtain ⟨im46, kk46, e46_0, -⟩ := pp46
    try dsimp only
    replace im46 : I n m46 := im46
    replace kk46 : Keep n W_X9_four m40 m46 := kk46
    have km46 : Keep n W_X9_feed M m46 := km40.tr kk46 (fun b j z => by unfold W_X9_four at z; exact (Or.inl z))
    replace e46_0 : mG m46 128 0 = mG m40 128 0 + 4 := e46_0
    obtain ⟨hv46_0, ehv46_0⟩ : ∃ v, Is (mG m46 128 0) v := ⟨_, rfl⟩
    have lhv46_0 : mG m46 128 0 = hv46_0 := ehv46_0
    have rhv46_0 : 0 ≤ hv46_0 ∧ hv46_0 ≤ 400 := by rw [← ehv46_0.e]; exact rd_Msize im46 rfl
    refine w_gFc (ji := 2) rfl (congrArg Prod.fst (kl_126 im46)) (show mG m46 126 2 = 128 from rd_Model_2 im46 (a := 126) rfl) ?_
    refine w_aGc (kl_128 im46) (by omega) (by omega) (show mG m46 128 0 = hv46_0 from (show mG m46 128 0 = hv46_0 from ehv46_0)) ?_
    exact w_ret ⟨im46, km46, (show (-1) ≤ hv46_0 ∧ hv46_0 ≤ 400 from ⟨by omega, by omega⟩), trivial⟩
  · skip
    exact w_ret ⟨iM2, kM2, (show (-1) ≤ (-1) ∧ (-1) ≤ 400 from ⟨by omega, by omega⟩), trivial⟩
def W_X9_end (b j : Int) : Prop := b = 128 ∨ (b = 126 ∧ j = 0)
theorem s_X9_end {n : Nat} {l1 : Int} {M : Mem} (r_l1 : (-2147483648) ≤ l1 ∧ l1 ≤ 2147483647) (iM : I n M) : wp (mX9_end 126 l1 M) (fun q => I n q.2 ∧ Keep n W_X9_end M q.2 ∧ ((-1) ≤ q.1 ∧ q.1 ≤ 400) ∧ True) := by
  have hn : (169 : Int) ≤ (n : Int) := by have := iM.2.2.2.2.1; omega
  have kM : Keep n W_X9_end M M := Keep.rf
  unfold mX9_end
  refine w_pF (ji := 0) rfl (congrArg Prod.fst (kl_126 iM)) (fun M2 hM2 => ?_)
  replace hM2 : M2 = mS M 126 0 0 := hM2
  have iM2 : I n M2 := wr_Model_0 iM rfl ⟨by omega, by omega⟩ hM2
  have kM2 : Keep n W_X9_end M M2 := kM.st hM2 (Or.inl (Or.inr ⟨rfl, rfl⟩))
  refine w_gFc (ji := 2) rfl (congrArg Prod.fst (kl_126 iM2)) (show mG M2 126 2 = 128 from rd_Model_2 iM2 (a := 126) rfl) ?_
  refine w_aG (kl_128 iM2) (by decide) (by decide) (fun a12 ha12 => ?_)
  have ra12 : 0 ≤ a12 ∧ a12 ≤ 400 := ha12.tr (P := fun z => 0 ≤ z ∧ z ≤ 400) (rd_Msize iM2 rfl)
  refine w_call (s_X9_in ⟨by omega, by omega⟩ ⟨by omega, by omega⟩ ⟨by omega, by omega⟩ iM2) ?_
  intro v13 m13 pp13
  obtain ⟨im13, kk13, e13_0, e13_1, -⟩ := pp13
  try dsimp only
  replace im13 : I n m13 := im13
  replace kk13 : Keep n W_X9_in M2 m13 := kk13
  have km13 : Keep n W_X9_end M m13 := kM2.tr kk13 (fun b j z => z.elim)
  replace e13_0 : 0 ≤ v13 ∧ v13 ≤ 1 := e13_0
  replace e13_1 : v13 = 1 → 0 ≤ l1 ∧ l1 ≤ a12 := e13_1
  refine w_if (fun c1_ => ?_) (fun c1_ => ?_)
  · skip
    exact w_ret ⟨im13, km13, (show (-1) ≤ (-1) ∧ (-1) ≤ 400 from ⟨by omega, by omega⟩), trivial⟩
  · skip
    refine w_gFc (ji := 2) rfl (congrArg Prod.fst (kl_126 im13)) (show mG m13 126 2 = 128 from rd_Model_2 im13 (a := 126) rfl) ?_
    refine w_aS (kl_128 im13) (by omega) (by omega) (fun M27 hM27 => ?_)
    replace hM27 : M27 = mS m13 128 0 l1 := hM27
    have iM27 : I n M27 := wr_Msize im13 rfl ⟨by omega, by omega⟩ hM27
    have kM27 : Keep n W_X9_end M M27 := km13.st hM27 (Or.inl (Or.inl rfl))
    exact w_ret ⟨iM27, kM27, (show (-1) ≤ l1 ∧ l1 ≤ 400 from ⟨by omega, by omega⟩), trivial⟩
def W_X9_wait (b j : Int) : Prop := b = 155 ∨ (b = 126 ∧ j = 38)
theorem s_X9_wait {n : Nat} {l1 : Int} {M : Mem} (r_l1 : (-2147483648) ≤ l1 ∧ l1 ≤ 2147483647) (y0 : mG M 126 38 ≤ 419) (iM : I n M) : wp (mX9_wait 126 l1 M) (fun q => I n q.2 ∧ Keep n W_X9_wait M q.2 ∧ (mG q.2 126 38 = mG M 126 38 + 1) ∧ True) := by
  have hn : (169 : Int) ≤ (n : Int) := by have := iM.2.2.2.2.1; omega
  have kM : Keep n W_X9_wait M M := Keep.rf
  obtain ⟨nh0, enh0⟩ : ∃ v, Is (mG M 126 38) v := ⟨_, rfl⟩
  have rnh0 : 0 ≤ nh0 ∧ nh0 ≤ 420 := by rw [← enh0.e]; exact rd_Model_38 iM rfl
  have qnh0 : mG M 126 38 = nh0 := enh0
  (try rw [enh0.e] at y0)
  unfold mX9_wait
  refine w_gFc (ji := 39) rfl (congrArg Prod.fst (kl_126 iM)) (show mG M 126 39 = 155 from rd_Model_39 iM (a := 126) rfl) ?_
  refine w_gFc (ji := 38) rfl (congrArg Prod.fst (kl_126 iM)) (show mG M 126 38 = nh0 from (show mG M 126 38 = nh0 from enh0)) ?_
  refine w_aS (kl_155 iM) (by omega) (by omega) (fun M9 hM9 => ?_)
  replace hM9 : M9 = mS M 155 nh0 l1 := hM9
  have iM9 : I n M9 := wr_Maround iM rfl ⟨by omega, by omega⟩ hM9
  have kM9 : Keep n W_X9_wait M M9 := kM.st hM9 (Or.inl (Or.inl rfl))
  refine w_gFc (ji := 38) rfl (congrArg Prod.fst (kl_126 iM9)) (show mG M9 126 38 = nh0 from ((st_ne hM9 (fun z => ne_fam rfl rfl (by decide) z.1)).trans (show mG M 126 38 = nh0 from enh0))) ?_
  have w1_ := wI_id (x := (nh0 + 1)) (by omega) (by omega)
  refine w_pF (ji := 38) rfl (congrArg Prod.fst (kl_126 iM9)) (fun M17 hM17 => ?_)
  replace hM17 : M17 = mS M9 126 38 (wI (nh0 + 1)) := hM17
  have iM17 : I n M17 := wr_Model_38 iM9 rfl ⟨by omega, by omega⟩ hM17
  have kM17 : Keep n W_X9_wait M M17 := kM9.st hM17 (Or.inl (Or.inr ⟨rfl, rfl⟩))
  obtain ⟨svM17, esvM17⟩ : ∃ z, z = (wI (nh0 + 1)) := ⟨_, rfl⟩
  exact w_ret ⟨iM17, kM17, (show mG M17 126 38 = mG M 126 38 + 1 from (by (try rw [(show mG M17 126 38 = svM17 from (show mG M17 126 38 = svM17 from ((st_eq hM17).trans esvM17.symm)))]); all_goals omega)), trivial⟩
def W_X9_see (b j : Int) : Prop := False
theorem s_X9_see {n : Nat} {M : Mem} (iM : I n M) : wp (mX9_see 126 M) (fun q => I n q.2 ∧ Keep n W_X9_see M q.2 ∧ ((-1) ≤ q.1 ∧ q.1 ≤ 255) ∧ (0 ≤ q.1 → mG q.2 126 29 ≤ 399) ∧ True) := by
  have hn : (169 : Int) ≤ (n : Int) := by have := iM.2.2.2.2.1; omega
  have kM : Keep n W_X9_see M M := Keep.rf
  unfold mX9_see
  refine w_gF (ji := 29) rfl (congrArg Prod.fst (kl_126 iM)) (fun a1 ha1 => ?_)
  have ra1 : 0 ≤ a1 ∧ a1 ≤ 400 := ha1.tr (P := fun z => 0 ≤ z ∧ z ≤ 400) (rd_Model_29 iM rfl)
  refine w_gF (ji := 30) rfl (congrArg Prod.fst (kl_126 iM)) (fun a5 ha5 => ?_)
  have ra5 : 0 ≤ a5 ∧ a5 ≤ 400 := ha5.tr (P := fun z => 0 ≤ z ∧ z ≤ 400) (rd_Model_30 iM rfl)
  refine w_if (fun c1_ => ?_) (fun c1_ => ?_)
  · skip
    exact w_ret ⟨iM, kM, (show (-1) ≤ (-1) ∧ (-1) ≤ 255 from ⟨by omega, by omega⟩), (show 0 ≤ (-1) → mG M 126 29 ≤ 399 from fun z => absurd z (by decide)), trivial⟩
  · skip
    refine w_gFc (ji := 1) rfl (congrArg Prod.fst (kl_126 iM)) (show mG M 126 1 = 127 from rd_Model_1 iM (a := 126) rfl) ?_
    refine w_gFc (ji := 29) rfl (congrArg Prod.fst (kl_126 iM)) (show mG M 126 29 = a1 from (show mG M 126 29 = a1 from ha1)) ?_
    refine w_aG (kl_127 iM) (by omega) (by omega) (fun a19 ha19 => ?_)
    have ra19 : (-128) ≤ a19 ∧ a19 ≤ 127 := ha19.tr (P := fun z => (-128) ≤ z ∧ z ≤ 127) (rd_Mtape iM rfl)
    have w2_ := iand_r (x := a19) (y := 255) (by omega) (by omega)
    exact w_ret ⟨iM, kM, (show (-1) ≤ (iand a19 255) ∧ (iand a19 255) ≤ 255 from ⟨by omega, by omega⟩), (show 0 ≤ (iand a19 255) → mG M 126 29 ≤ 399 from fun _ => by rw [(show mG M 126 29 = a1 from (show mG M 126 29 = a1 from ha1))]; omega), trivial⟩
def W_X9_token (b j : Int) : Prop := (b = 126 ∧ j = 29) ∨ (b = 126 ∧ j = 31) ∨ (b = 126 ∧ j = 32) ∨ (b = 126 ∧ j = 33) ∨ (b = 126 ∧ j = 34)
theorem s_X9_token_235 {n : Nat} {Me : Mem} {s1 : Int} {M : Mem} (r_s1 : 1 ≤ s1 ∧ s1 ≤ 3) (y0 : mG M 126 29 ≤ 400) (y1 : mG Me 126 29 ≤ mG M 126 31 ∧ mG M 126 31 ≤ mG M 126 29) (y2 : mG M 126 34 = 0) (iM : I n M) (kM : Keep n W_X9_token Me M) : wp (mX9_token_235 126 s1 M) (fun q => I n q.2 ∧ Keep n W_X9_token Me q.2 ∧ (mG Me 126 29 ≤ mG q.2 126 31 ∧ mG q.2 126 31 ≤ mG q.2 126 29 ∧ (mG q.2 126 34 = 0 ∨ mG q.2 126 31 < mG q.2 126 29)) ∧ True) := by
  have hn : (169 : Int) ≤ (n : Int) := by have := iM.2.2.2.2.1; omega
  obtain ⟨nh0, enh0⟩ : ∃ v, Is (mG M 126 29) v := ⟨_, rfl⟩
  have rnh0 : 0 ≤ nh0 ∧ nh0 ≤ 400 := by rw [← enh0.e]; exact rd_Model_29 iM rfl
  have qnh0 : mG M 126 29 = nh0 := enh0
  (try rw [enh0.e] at y0); (try rw [enh0.e] at y1); (try rw [enh0.e] at y2)
  obtain ⟨nh1, enh1⟩ : ∃ v, Is (mG M 126 31) v := ⟨_, rfl⟩
  have rnh1 : 0 ≤ nh1 ∧ nh1 ≤ 400 := by rw [← enh1.e]; exact rd_Model_31 iM rfl
  have qnh1 : mG M 126 31 = nh1 := enh1
  (try rw [enh1.e] at y0); (try rw [enh1.e] at y1); (try rw [enh1.e] at y2)
  obtain ⟨nh2, enh2⟩ : ∃ v, Is (mG M 126 34) v := ⟨_, rfl⟩
  have qnh2 : mG M 126 34 = nh2 := enh2
  (try rw [enh2.e] at y0); (try rw [enh2.e] at y1); (try rw [enh2.e] at y2)
  unfold mX9_token_235
  refine w_pF (ji := 32) rfl (congrArg Prod.fst (kl_126 iM)) (fun M235 hM235 => ?_)
  replace hM235 : M235 = mS M 126 32 s1 := hM235
  have iM235 : I n M235 := wr_Model_32 iM rfl ⟨by omega, by omega⟩ hM235
  have kM235 : Keep n W_X9_token Me M235 := kM.st hM235 (Or.inl (Or.inr (Or.inr (Or.inl ⟨rfl, rfl⟩))))
  exact w_ret ⟨iM235, kM235, (show mG Me 126 29 ≤ mG M235 126 31 ∧ mG M235 126 31 ≤ mG M235 126 29 ∧ (mG M235 126 34 = 0 ∨ mG M235 126 31 < mG M235 126 29) from (by (try rw [(show mG M235 126 29 = nh0 from ((st_ne hM235 (fun z => absurd z.2 (by decide))).trans (show mG M 126 29 = nh0 from enh0)))]); (try rw [(show mG M235 126 31 = nh1 from ((st_ne hM235 (fun z => absurd z.2 (by decide))).trans (show mG M 126 31 = nh1 from enh1)))]); (try rw [(show mG M235 126 34 = nh2 from ((st_ne hM235 (fun z => absurd z.2 (by decide))).trans (show mG M 126 34 = nh2 from enh2)))]); all_goals omega)), trivial⟩
theorem s_X9_token_205 {n : Nat} {Me : Mem} {k163 : Int → Int → Mem → Option (Int × Mem)} {fu163 : Nat} (hk163 : ∀ (l2 : Int) (M : Mem), (0 ≤ l2 ∧ l2 ≤ 400) → (mG M 126 29 ≤ 400 ∧ 0 ≤ l2 ∧ l2 ≤ mG M 126 29) → (mG Me 126 29 ≤ mG M 126 31 ∧ mG M 126 31 + l2 ≤ mG M 126 29) → (mG M 126 34 = 0) → 401 - mG M 126 29 < (fu163 : Int) → I n M → Keep n W_X9_token Me M → wp (k163 126 l2 M) (fun q => I n q.2 ∧ Keep n W_X9_token Me q.2 ∧ (mG Me 126 29 ≤ mG q.2 126 31 ∧ mG q.2 126 31 ≤ mG q.2 126 29 ∧ (mG q.2 126 34 = 0 ∨ mG q.2 126 31 < mG q.2 126 29)) ∧ True)) {l2 s1 : Int} {M : Mem} (r_l2 : 0 ≤ l2 ∧ l2 ≤ 399) (r_s1 : (-2147483648) ≤ s1 ∧ s1 ≤ 2147483647) (y0 : mG M 126 29 ≤ 399 ∧ 0 ≤ l2 ∧ l2 ≤ mG M 126 29) (y1 : mG Me 126 29 ≤ mG M 126 31 ∧ mG M 126 31 + l2 ≤ mG M 126 29) (y2 : mG M 126 34 = 0) (hf163 : 401 - mG M 126 29 < (fu163 : Int) + 1) (iM : I n M) (kM : Keep n W_X9_token Me M) : wp (mX9_token_205 k163 126 l2 126 s1 M) (fun q => I n q.2 ∧ Keep n W_X9_token Me q.2 ∧ (mG Me 126 29 ≤ mG q.2 126 31 ∧ mG q.2 126 31 ≤ mG q.2 126 29 ∧ (mG q.2 126 34 = 0 ∨ mG q.2 126 31 < mG q.2 126 29)) ∧ True) := by
  have hn : (169 : Int) ≤ (n : Int) := by have := iM.2.2.2.2.1; omega
  obtain ⟨nh0, enh0⟩ : ∃ v, Is (mG M 126 29) v := ⟨_, rfl⟩
  have rnh0 : 0 ≤ nh0 ∧ nh0 ≤ 400 := by rw [← enh0.e]; exact rd_Model_29 iM rfl
  have qnh0 : mG M 126 29 = nh0 := enh0
  (try rw [enh0.e] at y0); (try rw [enh0.e] at y1); (try rw [enh0.e] at y2); (try rw [enh0.e] at hf163)
  obtain ⟨nh1, enh1⟩ : ∃ v, Is (mG M 126 31) v := ⟨_, rfl⟩
  have rnh1 : 0 ≤ nh1 ∧ nh1 ≤ 400 := by rw [← enh1.e]; exact rd_Model_31 iM rfl
  have qnh1 : mG M 126 31 = nh1 := enh1
  (try rw [enh1.e] at y0); (try rw [enh1.e] at y1); (try rw [enh1.e] at y2); (try rw [enh1.e] at hf163)
  obtain ⟨nh2, enh2⟩ : ∃ v, Is (mG M 126 34) v := ⟨_, rfl⟩
  have qnh2 : mG M 126 34 = nh2 := enh2
  (try rw [enh2.e] at y0); (try rw [enh2.e] at y1); (try rw [enh2.e] at y2); (try rw [enh2.e] at hf163)
  unfold mX9_token_205
  refine w_pF (ji := 33) rfl (congrArg Prod.fst (kl_126 iM)) (fun M205 hM205 => ?_)
  replace hM205 : M205 = mS M 126 33 s1 := hM205
  have iM205 : I n M205 := wr_Model_33 iM rfl ⟨by omega, by omega⟩ hM205
  have kM205 : Keep n W_X9_token Me M205 := kM.st hM205 (Or.inl (Or.inr (Or.inr (Or.inr (Or.inl ⟨rfl, rfl⟩)))))
  refine w_gFc (ji := 29) rfl (congrArg Prod.fst (kl_126 iM205)) (show mG M205 126 29 = nh0 from ((st_ne hM205 (fun z => absurd z.2 (by decide))).trans (show mG M 126 29 = nh0 from enh0))) ?_
  have w1_ := wI_id (x := (nh0 + 1)) (by omega) (by omega)
  refine w_pF (ji := 29) rfl (congrArg Prod.fst (kl_126 iM205)) (fun M215 hM215 => ?_)
  replace hM215 : M215 = mS M205 126 29 (wI (nh0 + 1)) := hM215
  have iM215 : I n M215 := wr_Model_29 iM205 rfl ⟨by omega, by omega⟩ hM215
  have kM215 : Keep n W_X9_token Me M215 := kM205.st hM215 (Or.inl (Or.inl ⟨rfl, rfl⟩))
  obtain ⟨svM215, esvM215⟩ : ∃ z, z = (wI (nh0 + 1)) := ⟨_, rfl⟩
  have w2_ := wI_id (x := (l2 + 1)) (by omega) (by omega)
  exact hk163 _ _ ⟨by omega, by omega⟩ (by (try rw [(show mG M215 126 29 = svM215 from (show mG M215 126 29 = svM215 from ((st_eq hM215).trans esvM215.symm)))]); (try rw [(show mG M215 126 31 = nh1 from ((st_ne hM215 (fun z => absurd z.2 (by decide))).trans ((st_ne hM205 (fun z => absurd z.2 (by decide))).trans (show mG M 126 31 = nh1 from enh1))))]); (try rw [(show mG M215 126 34 = nh2 from ((st_ne hM215 (fun z => absurd z.2 (by decide))).trans ((st_ne hM205 (fun z => absurd z.2 (by decide))).trans (show mG M 126 34 = nh2 from enh2))))]); all_goals omega) (by (try rw [(show mG M215 126 29 = svM215 from (show mG M215 126 29 = svM215 from ((st_eq hM215).trans esvM215.symm)))]); (try rw [(show mG M215 126 31 = nh1 from ((st_ne hM215 (fun z => absurd z.2 (by decide))).trans ((st_ne hM205 (fun z => absurd z.2 (by decide))).trans (show mG M 126 31 = nh1 from enh1))))]); (try rw [(show mG M215 126 34 = nh2 from ((st_ne hM215 (fun z => absurd z.2 (by decide))).trans ((st_ne hM205 (fun z => absurd z.2 (by decide))).trans (show mG M 126 34 = nh2 from enh2))))]); all_goals omega) (by (try rw [(show mG M215 126 29 = svM215 from (show mG M215 126 29 = svM215 from ((st_eq hM215).trans esvM215.symm)))]); (try rw [(show mG M215 126 31 = nh1 from ((st_ne hM215 (fun z => absurd z.2 (by decide))).trans ((st_ne hM205 (fun z => absurd z.2 (by decide))).trans (show mG M 126 31 = nh1 from enh1))))]); (try rw [(show mG M215 126 34 = nh2 from ((st_ne hM215 (fun z => absurd z.2 (by decide))).trans ((st_ne hM205 (fun z => absurd z.2 (by decide))).trans (show mG M 126 34 = nh2 from enh2))))]); all_goals omega) (by rw [(show mG M215 126 29 = svM215 from (show mG M215 126 29 = svM215 from ((st_eq hM215).trans esvM215.symm)))]; omega) iM215 kM215
theorem sb_X9_token_163 {n : Nat} {Me : Mem} {k163 : Int → Int → Mem → Option (Int × Mem)} {fu163 : Nat} (hk163 : ∀ (l2 : Int) (M : Mem), (0 ≤ l2 ∧ l2 ≤ 400) → (mG M 126 29 ≤ 400 ∧ 0 ≤ l2 ∧ l2 ≤ mG M 126 29) → (mG Me 126 29 ≤ mG M 126 31 ∧ mG M 126 31 + l2 ≤ mG M 126 29) → (mG M 126 34 = 0) → 401 - mG M 126 29 < (fu163 : Int) → I n M → Keep n W_X9_token Me M → wp (k163 126 l2 M) (fun q => I n q.2 ∧ Keep n W_X9_token Me q.2 ∧ (mG Me 126 29 ≤ mG q.2 126 31 ∧ mG q.2 126 31 ≤ mG q.2 126 29 ∧ (mG q.2 126 34 = 0 ∨ mG q.2 126 31 < mG q.2 126 29)) ∧ True)) {l2 : Int} {M : Mem} (r_l2 : 0 ≤ l2 ∧ l2 ≤ 400) (y0 : mG M 126 29 ≤ 400 ∧ 0 ≤ l2 ∧ l2 ≤ mG M 126 29) (y1 : mG Me 126 29 ≤ mG M 126 31 ∧ mG M 126 31 + l2 ≤ mG M 126 29) (y2 : mG M 126 34 = 0) (hf163 : 401 - mG M 126 29 < (fu163 : Int) + 1) (iM : I n M) (kM : Keep n W_X9_token Me M) : wp (bX9_token_163 k163 126 l2 M) (fun q => I n q.2 ∧ Keep n W_X9_token Me q.2 ∧ (mG Me 126 29 ≤ mG q.2 126 31 ∧ mG q.2 126 31 ≤ mG q.2 126 29 ∧ (mG q.2 126 34 = 0 ∨ mG q.2 126 31 < mG q.2 126 29)) ∧ True) := by
  have hn : (169 : Int) ≤ (n : Int) := by have := iM.2.2.2.2.1; omega
  obtain ⟨nh0, enh0⟩ : ∃ v, Is (mG M 126 29) v := ⟨_, rfl⟩
  have rnh0 : 0 ≤ nh0 ∧ nh0 ≤ 400 := by rw [← enh0.e]; exact rd_Model_29 iM rfl
  have qnh0 : mG M 126 29 = nh0 := enh0
  (try rw [enh0.e] at y0); (try rw [enh0.e] at y1); (try rw [enh0.e] at y2); (try rw [enh0.e] at hf163)
  obtain ⟨nh1, enh1⟩ : ∃ v, Is (mG M 126 31) v := ⟨_, rfl⟩
  have rnh1 : 0 ≤ nh1 ∧ nh1 ≤ 400 := by rw [← enh1.e]; exact rd_Model_31 iM rfl
  have qnh1 : mG M 126 31 = nh1 := enh1
  (try rw [enh1.e] at y0); (try rw [enh1.e] at y1); (try rw [enh1.e] at y2); (try rw [enh1.e] at hf163)
  obtain ⟨nh2, enh2⟩ : ∃ v, Is (mG M 126 34) v := ⟨_, rfl⟩
  have qnh2 : mG M 126 34 = nh2 := enh2
  (try rw [enh2.e] at y0); (try rw [enh2.e] at y1); (try rw [enh2.e] at y2); (try rw [enh2.e] at hf163)
  unfold bX9_token_163
  refine w_gK (congrArg Prod.fst (kl_126 iM)) ?_
  refine w_call (s_X9_see iM) ?_
  intro v164 m164 pp164
  obtain ⟨im164, kk164, e164_0, e164_1, -⟩ := pp164
  try dsimp only
  replace im164 : I n m164 := im164
  replace kk164 : Keep n W_X9_see M m164 := kk164
  have km164 : Keep n W_X9_token Me m164 := kM.tr kk164 (fun b j z => z.elim)
  replace e164_0 : (-1) ≤ v164 ∧ v164 ≤ 255 := e164_0
  replace e164_1 : 0 ≤ v164 → mG m164 126 29 ≤ 399 := e164_1
  have lk164 : mG m164 126 29 = nh0 := ((kk164.2.2 126 29 (by omega) (fun z => z)).trans (show mG M 126 29 = nh0 from enh0))
  refine w_call (s_X9_in ⟨by omega, by omega⟩ ⟨by omega, by omega⟩ ⟨by omega, by omega⟩ im164) ?_
  intro v171 m171 pp171
  obtain ⟨im171, kk171, e171_0, e171_1, -⟩ := pp171
  try dsimp only
  replace im171 : I n m171 := im171
  replace kk171 : Keep n W_X9_in m164 m171 := kk171
  have km171 : Keep n W_X9_token Me m171 := km164.tr kk171 (fun b j z => z.elim)
  replace e171_0 : 0 ≤ v171 ∧ v171 ≤ 1 := e171_0
  replace e171_1 : v171 = 1 → 48 ≤ v164 ∧ v164 ≤ 57 := e171_1
  refine w_if (fun c1_ => ?_) (fun c1_ => ?_)
  · skip
    refine w_if (fun c2_ => ?_) (fun c2_ => ?_)
    · skip
      exact s_X9_token_235 ⟨by omega, by omega⟩ (by (try rw [(show mG m171 126 29 = nh0 from ((kk171.2.2 126 29 (by omega) (fun z => z)).trans ((kk164.2.2 126 29 (by omega) (fun z => z)).trans (show mG M 126 29 = nh0 from enh0))))]); (try rw [(show mG m171 126 31 = nh1 from ((kk171.2.2 126 31 (by omega) (fun z => z)).trans ((kk164.2.2 126 31 (by omega) (fun z => z)).trans (show mG M 126 31 = nh1 from enh1))))]); (try rw [(show mG m171 126 34 = nh2 from ((kk171.2.2 126 34 (by omega) (fun z => z)).trans ((kk164.2.2 126 34 (by omega) (fun z => z)).trans (show mG M 126 34 = nh2 from enh2))))]); all_goals omega) (by (try rw [(show mG m171 126 29 = nh0 from ((kk171.2.2 126 29 (by omega) (fun z => z)).trans ((kk164.2.2 126 29 (by omega) (fun z => z)).trans (show mG M 126 29 = nh0 from enh0))))]); (try rw [(show mG m171 126 31 = nh1 from ((kk171.2.2 126 31 (by omega) (fun z => z)).trans ((kk164.2.2 126 31 (by omega) (fun z => z)).trans (show mG M 126 31 = nh1 from enh1))))]); (try rw [(show mG m171 126 34 = nh2 from ((kk171.2.2 126 34 (by omega) (fun z => z)).trans ((kk164.2.2 126 34 (by omega) (fun z => z)).trans (show mG M 126 34 = nh2 from enh2))))]); all_goals omega) (by (try rw [(show mG m171 126 29 = nh0 from ((kk171.2.2 126 29 (by omega) (fun z => z)).trans ((kk164.2.2 126 29 (by omega) (fun z => z)).trans (show mG M 126 29 = nh0 from enh0))))]); (try rw [(show mG m171 126 31 = nh1 from ((kk171.2.2 126 31 (by omega) (fun z => z)).trans ((kk164.2.2 126 31 (by omega) (fun z => z)).trans (show mG M 126 31 = nh1 from enh1))))]); (try rw [(show mG m171 126 34 = nh2 from ((kk171.2.2 126 34 (by omega) (fun z => z)).trans ((kk164.2.2 126 34 (by omega) (fun z => z)).trans (show mG M 126 34 = nh2 from enh2))))]); all_goals omega) im171 km171
    · skip
      exact s_X9_token_235 ⟨by omega, by omega⟩ (by (try rw [(show mG m171 126 29 = nh0 from ((kk171.2.2 126 29 (by omega) (fun z => z)).trans ((kk164.2.2 126 29 (by omega) (fun z => z)).trans (show mG M 126 29 = nh0 from enh0))))]); (try rw [(show mG m171 126 31 = nh1 from ((kk171.2.2 126 31 (by omega) (fun z => z)).trans ((kk164.2.2 126 31 (by omega) (fun z => z)).trans (show mG M 126 31 = nh1 from enh1))))]); (try rw [(show mG m171 126 34 = nh2 from ((kk171.2.2 126 34 (by omega) (fun z => z)).trans ((kk164.2.2 126 34 (by omega) (fun z => z)).trans (show mG M 126 34 = nh2 from enh2))))]); all_goals omega) (by (try rw [(show mG m171 126 29 = nh0 from ((kk171.2.2 126 29 (by omega) (fun z => z)).trans ((kk164.2.2 126 29 (by omega) (fun z => z)).trans (show mG M 126 29 = nh0 from enh0))))]); (try rw [(show mG m171 126 31 = nh1 from ((kk171.2.2 126 31 (by omega) (fun z => z)).trans ((kk164.2.2 126 31 (by omega) (fun z => z)).trans (show mG M 126 31 = nh1 from enh1))))]); (try rw [(show mG m171 126 34 = nh2 from ((kk171.2.2 126 34 (by omega) (fun z => z)).trans ((kk164.2.2 126 34 (by omega) (fun z => z)).trans (show mG M 126 34 = nh2 from enh2))))]); all_goals omega) (by (try rw [(show mG m171 126 29 = nh0 from ((kk171.2.2 126 29 (by omega) (fun z => z)).trans ((kk164.2.2 126 29 (by omega) (fun z => z)).trans (show mG M 126 29 = nh0 from enh0))))]); (try rw [(show mG m171 126 31 = nh1 from ((kk171.2.2 126 31 (by omega) (fun z => z)).trans ((kk164.2.2 126 31 (by omega) (fun z => z)).trans (show mG M 126 31 = nh1 from enh1))))]); (try rw [(show mG m171 126 34 = nh2 from ((kk171.2.2 126 34 (by omega) (fun z => z)).trans ((kk164.2.2 126 34 (by omega) (fun z => z)).trans (show mG M 126 34 = nh2 from enh2))))]); all_goals omega) im171 km171
  · skip
    refine w_if (fun c3_ => ?_) (fun c3_ => ?_)
    · skip
      refine w_gF (ji := 33) rfl (congrArg Prod.fst (kl_126 im171)) (fun a202 ha202 => ?_)
      have ra202 : (-2147483648) ≤ a202 ∧ a202 ≤ 2147483647 := ha202.tr (P := fun z => (-2147483648) ≤ z ∧ z ≤ 2147483647) (rd_Model_33 im171 rfl)
      exact s_X9_token_205 hk163 ⟨by omega, by omega⟩ ⟨by omega, by omega⟩ (by (try rw [(show mG m171 126 29 = nh0 from ((kk171.2.2 126 29 (by omega) (fun z => z)).trans ((kk164.2.2 126 29 (by omega) (fun z => z)).trans (show mG M 126 29 = nh0 from enh0))))]); (try rw [(show mG m171 126 31 = nh1 from ((kk171.2.2 126 31 (by omega) (fun z => z)).trans ((kk164.2.2 126 31 (by omega) (fun z => z)).trans (show mG M 126 31 = nh1 from enh1))))]); (try rw [(show mG m171 126 34 = nh2 from ((kk171.2.2 126 34 (by omega) (fun z => z)).trans ((kk164.2.2 126 34 (by omega) (fun z => z)).trans (show mG M 126 34 = nh2 from enh2))))]); all_goals omega) (by (try rw [(show mG m171 126 29 = nh0 from ((kk171.2.2 126 29 (by omega) (fun z => z)).trans ((kk164.2.2 126 29 (by omega) (fun z => z)).trans (show mG M 126 29 = nh0 from enh0))))]); (try rw [(show mG m171 126 31 = nh1 from ((kk171.2.2 126 31 (by omega) (fun z => z)).trans ((kk164.2.2 126 31 (by omega) (fun z => z)).trans (show mG M 126 31 = nh1 from enh1))))]); (try rw [(show mG m171 126 34 = nh2 from ((kk171.2.2 126 34 (by omega) (fun z => z)).trans ((kk164.2.2 126 34 (by omega) (fun z => z)).trans (show mG M 126 34 = nh2 from enh2))))]); all_goals omega) (by (try rw [(show mG m171 126 29 = nh0 from ((kk171.2.2 126 29 (by omega) (fun z => z)).trans ((kk164.2.2 126 29 (by omega) (fun z => z)).trans (show mG M 126 29 = nh0 from enh0))))]); (try rw [(show mG m171 126 31 = nh1 from ((kk171.2.2 126 31 (by omega) (fun z => z)).trans ((kk164.2.2 126 31 (by omega) (fun z => z)).trans (show mG M 126 31 = nh1 from enh1))))]); (try rw [(show mG m171 126 34 = nh2 from ((kk171.2.2 126 34 (by omega) (fun z => z)).trans ((kk164.2.2 126 34 (by omega) (fun z => z)).trans (show mG M 126 34 = nh2 from enh2))))]); all_goals omega) (by rw [(show mG m171 126 29 = nh0 from ((kk171.2.2 126 29 (by omega) (fun z => z)).trans ((kk164.2.2 126 29 (by omega) (fun z => z)).trans (show mG M 126 29 = nh0 from enh0))))]; omega) im171 km171
    · skip
      refine w_gF (ji := 33) rfl (congrArg Prod.fst (kl_126 im171)) (fun a186 ha186 => ?_)
      have ra186 : (-2147483648) ≤ a186 ∧ a186 ≤ 2147483647 := ha186.tr (P := fun z => (-2147483648) ≤ z ∧ z ≤ 2147483647) (rd_Model_33 im171 rfl)
      refine w_gK (congrArg Prod.fst (kl_126 im171)) ?_
      refine w_call (s_X9_see im171) ?_
      intro v191 m191 pp191
      obtain ⟨im191, kk191, e191_0, e191_1, -⟩ := pp191
      try dsimp only
      replace im191 : I n m191 := im191
      replace kk191 : Keep n W_X9_see m171 m191 := kk191
      have km191 : Keep n W_X9_token Me m191 := km171.tr kk191 (fun b j z => z.elim)
      replace e191_0 : (-1) ≤ v191 ∧ v191 ≤ 255 := e191_0
      replace e191_1 : 0 ≤ v191 → mG m191 126 29 ≤ 399 := e191_1
      have lk191 : mG m191 126 29 = nh0 := ((kk191.2.2 126 29 (by omega) (fun z => z)).trans ((kk171.2.2 126 29 (by omega) (fun z => z)).trans ((kk164.2.2 126 29 (by omega) (fun z => z)).trans (show mG M 126 29 = nh0 from enh0))))
      have w4_ := And.intro (wI_lo (10 * a186)) (wI_hi (10 * a186))
      have w5_ := And.intro (wI_lo ((wI (10 * a186)) + v191)) (wI_hi ((wI (10 * a186)) + v191))
      have w6_ := And.intro (wI_lo ((wI ((wI (10 * a186)) + v191)) - 48)) (wI_hi ((wI ((wI (10 * a186)) + v191)) - 48))
      exact s_X9_token_205 hk163 ⟨by omega, by omega⟩ ⟨by omega, by omega⟩ (by (try rw [(show mG m191 126 29 = nh0 from ((kk191.2.2 126 29 (by omega) (fun z => z)).trans ((kk171.2.2 126 29 (by omega) (fun z => z)).trans ((kk164.2.2 126 29 (by omega) (fun z => z)).trans (show mG M 126 29 = nh0 from enh0)))))]); (try rw [(show mG m191 126 31 = nh1 from ((kk191.2.2 126 31 (by omega) (fun z => z)).trans ((kk171.2.2 126 31 (by omega) (fun z => z)).trans ((kk164.2.2 126 31 (by omega) (fun z => z)).trans (show mG M 126 31 = nh1 from enh1)))))]); (try rw [(show mG m191 126 34 = nh2 from ((kk191.2.2 126 34 (by omega) (fun z => z)).trans ((kk171.2.2 126 34 (by omega) (fun z => z)).trans ((kk164.2.2 126 34 (by omega) (fun z => z)).trans (show mG M 126 34 = nh2 from enh2)))))]); all_goals omega) (by (try rw [(show mG m191 126 29 = nh0 from ((kk191.2.2 126 29 (by omega) (fun z => z)).trans ((kk171.2.2 126 29 (by omega) (fun z => z)).trans ((kk164.2.2 126 29 (by omega) (fun z => z)).trans (show mG M 126 29 = nh0 from enh0)))))]); (try rw [(show mG m191 126 31 = nh1 from ((kk191.2.2 126 31 (by omega) (fun z => z)).trans ((kk171.2.2 126 31 (by omega) (fun z => z)).trans ((kk164.2.2 126 31 (by omega) (fun z => z)).trans (show mG M 126 31 = nh1 from enh1)))))]); (try rw [(show mG m191 126 34 = nh2 from ((kk191.2.2 126 34 (by omega) (fun z => z)).trans ((kk171.2.2 126 34 (by omega) (fun z => z)).trans ((kk164.2.2 126 34 (by omega) (fun z => z)).trans (show mG M 126 34 = nh2 from enh2)))))]); all_goals omega) (by (try rw [(show mG m191 126 29 = nh0 from ((kk191.2.2 126 29 (by omega) (fun z => z)).trans ((kk171.2.2 126 29 (by omega) (fun z => z)).trans ((kk164.2.2 126 29 (by omega) (fun z => z)).trans (show mG M 126 29 = nh0 from enh0)))))]); (try rw [(show mG m191 126 31 = nh1 from ((kk191.2.2 126 31 (by omega) (fun z => z)).trans ((kk171.2.2 126 31 (by omega) (fun z => z)).trans ((kk164.2.2 126 31 (by omega) (fun z => z)).trans (show mG M 126 31 = nh1 from enh1)))))]); (try rw [(show mG m191 126 34 = nh2 from ((kk191.2.2 126 34 (by omega) (fun z => z)).trans ((kk171.2.2 126 34 (by omega) (fun z => z)).trans ((kk164.2.2 126 34 (by omega) (fun z => z)).trans (show mG M 126 34 = nh2 from enh2)))))]); all_goals omega) (by rw [(show mG m191 126 29 = nh0 from ((kk191.2.2 126 29 (by omega) (fun z => z)).trans ((kk171.2.2 126 29 (by omega) (fun z => z)).trans ((kk164.2.2 126 29 (by omega) (fun z => z)).trans (show mG M 126 29 = nh0 from enh0)))))]; omega) im191 km191
theorem s_X9_token_163 {n : Nat} {Me : Mem} : ∀ (fu : Nat) (l2 : Int) (M : Mem), (0 ≤ l2 ∧ l2 ≤ 400) → (mG M 126 29 ≤ 400 ∧ 0 ≤ l2 ∧ l2 ≤ mG M 126 29) → (mG Me 126 29 ≤ mG M 126 31 ∧ mG M 126 31 + l2 ≤ mG M 126 29) → (mG M 126 34 = 0) → 401 - mG M 126 29 < (fu : Int) → I n M → Keep n W_X9_token Me M → wp (mX9_token_163 fu 126 l2 M) (fun q => I n q.2 ∧ Keep n W_X9_token Me q.2 ∧ (mG Me 126 29 ≤ mG q.2 126 31 ∧ mG q.2 126 31 ≤ mG q.2 126 29 ∧ (mG q.2 126 34 = 0 ∨ mG q.2 126 31 < mG q.2 126 29)) ∧ True) := by
  intro fu
  induction fu with
  | zero =>
    intro l2 M r_l2 y0 y1 y2 hf iM kM
    exfalso
    have z := rdf iM (a := 126) (j := 29) (f := 42) rfl
    have z : 0 ≤ mG M 126 29 ∧ mG M 126 29 ≤ 400 := z
    have z := rdf iM (a := 126) (j := 31) (f := 42) rfl
    have z : 0 ≤ mG M 126 31 ∧ mG M 126 31 ≤ 400 := z
    omega
  | succ fu ih =>
    intro l2 M r_l2 y0 y1 y2 hf iM kM
    exact sb_X9_token_163 ih r_l2 y0 y1 y2 (by have e : ((fu + 1 : Nat) : Int) = (fu : Int) + 1 := rfl; rw [e] at hf; exact hf) iM kM
theorem s_X9_token_141 {n : Nat} {Me : Mem} {s1 : Int} {M : Mem} (z0 : s1 = 0 ∨ mG M 126 31 < mG M 126 29) (y0 : mG M 126 29 ≤ 400) (y1 : mG Me 126 29 ≤ mG M 126 31 ∧ mG M 126 31 ≤ mG M 126 29) (iM : I n M) (kM : Keep n W_X9_token Me M) : wp (mX9_token_141 126 126 s1 M) (fun q => I n q.2 ∧ Keep n W_X9_token Me q.2 ∧ (mG Me 126 29 ≤ mG q.2 126 31 ∧ mG q.2 126 31 ≤ mG q.2 126 29 ∧ (mG q.2 126 34 = 0 ∨ mG q.2 126 31 < mG q.2 126 29)) ∧ True) := by
  have hn : (169 : Int) ≤ (n : Int) := by have := iM.2.2.2.2.1; omega
  obtain ⟨nh0, enh0⟩ : ∃ v, Is (mG M 126 29) v := ⟨_, rfl⟩
  have rnh0 : 0 ≤ nh0 ∧ nh0 ≤ 400 := by rw [← enh0.e]; exact rd_Model_29 iM rfl
  have qnh0 : mG M 126 29 = nh0 := enh0
  (try rw [enh0.e] at z0); (try rw [enh0.e] at y0); (try rw [enh0.e] at y1)
  obtain ⟨nh1, enh1⟩ : ∃ v, Is (mG M 126 31) v := ⟨_, rfl⟩
  have rnh1 : 0 ≤ nh1 ∧ nh1 ≤ 400 := by rw [← enh1.e]; exact rd_Model_31 iM rfl
  have qnh1 : mG M 126 31 = nh1 := enh1
  (try rw [enh1.e] at z0); (try rw [enh1.e] at y0); (try rw [enh1.e] at y1)
  unfold mX9_token_141
  refine w_pF (ji := 34) rfl (congrArg Prod.fst (kl_126 iM)) (fun M141 hM141 => ?_)
  replace hM141 : M141 = mS M 126 34 s1 := hM141
  have iM141 : I n M141 := wr_Model_34 iM rfl hM141
  have kM141 : Keep n W_X9_token Me M141 := kM.st hM141 (Or.inl (Or.inr (Or.inr (Or.inr (Or.inr ⟨rfl, rfl⟩)))))
  refine w_pF (ji := 32) rfl (congrArg Prod.fst (kl_126 iM141)) (fun M146 hM146 => ?_)
  replace hM146 : M146 = mS M141 126 32 2 := hM146
  have iM146 : I n M146 := wr_Model_32 iM141 rfl ⟨by omega, by omega⟩ hM146
  have kM146 : Keep n W_X9_token Me M146 := kM141.st hM146 (Or.inl (Or.inr (Or.inr (Or.inl ⟨rfl, rfl⟩))))
  exact w_ret ⟨iM146, kM146, (show mG Me 126 29 ≤ mG M146 126 31 ∧ mG M146 126 31 ≤ mG M146 126 29 ∧ (mG M146 126 34 = 0 ∨ mG M146 126 31 < mG M146 126 29) from (by (try rw [(show mG M146 126 29 = nh0 from ((st_ne hM146 (fun z => absurd z.2 (by decide))).trans ((st_ne hM141 (fun z => absurd z.2 (by decide))).trans (show mG M 126 29 = nh0 from enh0))))]); (try rw [(show mG M146 126 31 = nh1 from ((st_ne hM146 (fun z => absurd z.2 (by decide))).trans ((st_ne hM141 (fun z => absurd z.2 (by decide))).trans (show mG M 126 31 = nh1 from enh1))))]); (try rw [(show mG M146 126 34 = s1 from ((st_ne hM146 (fun z => absurd z.2 (by decide))).trans (show mG M141 126 34 = s1 from (st_eq hM141))))]); all_goals omega)), trivial⟩
theorem sb_X9_token_79 {n : Nat} {Me : Mem} {k79 : Int → Int → Mem → Option (Int × Mem)} {fu79 : Nat} (hk79 : ∀ (l2 : Int) (M : Mem), (0 ≤ l2 ∧ l2 ≤ 400) → (mG M 126 29 ≤ 400 ∧ 0 ≤ l2 ∧ l2 ≤ mG M 126 29) → (mG Me 126 29 ≤ mG M 126 31 ∧ mG M 126 31 + l2 ≤ mG M 126 29) → (1 ≤ l2 ∨ mG M 126 34 = 0) → 401 - mG M 126 29 < (fu79 : Int) → I n M → Keep n W_X9_token Me M → wp (k79 126 l2 M) (fun q => I n q.2 ∧ Keep n W_X9_token Me q.2 ∧ (mG Me 126 29 ≤ mG q.2 126 31 ∧ mG q.2 126 31 ≤ mG q.2 126 29 ∧ (mG q.2 126 34 = 0 ∨ mG q.2 126 31 < mG q.2 126 29)) ∧ True)) {l2 : Int} {M : Mem} (r_l2 : 0 ≤ l2 ∧ l2 ≤ 400) (y0 : mG M 126 29 ≤ 400 ∧ 0 ≤ l2 ∧ l2 ≤ mG M 126 29) (y1 : mG Me 126 29 ≤ mG M 126 31 ∧ mG M 126 31 + l2 ≤ mG M 126 29) (y2 : 1 ≤ l2 ∨ mG M 126 34 = 0) (hf79 : 401 - mG M 126 29 < (fu79 : Int) + 1) (iM : I n M) (kM : Keep n W_X9_token Me M) : wp (bX9_token_79 k79 126 l2 M) (fun q => I n q.2 ∧ Keep n W_X9_token Me q.2 ∧ (mG Me 126 29 ≤ mG q.2 126 31 ∧ mG q.2 126 31 ≤ mG q.2 126 29 ∧ (mG q.2 126 34 = 0 ∨ mG q.2 126 31 < mG q.2 126 29)) ∧ True) := by
  have hn : (169 : Int) ≤ (n : Int) := by have := iM.2.2.2.2.1; omega
  obtain ⟨nh0, enh0⟩ : ∃ v, Is (mG M 126 29) v := ⟨_, rfl⟩
  have rnh0 : 0 ≤ nh0 ∧ nh0 ≤ 400 := by rw [← enh0.e]; exact rd_Model_29 iM rfl
  have qnh0 : mG M 126 29 = nh0 := enh0
  (try rw [enh0.e] at y0); (try rw [enh0.e] at y1); (try rw [enh0.e] at y2); (try rw [enh0.e] at hf79)
  obtain ⟨nh1, enh1⟩ : ∃ v, Is (mG M 126 31) v := ⟨_, rfl⟩
  have rnh1 : 0 ≤ nh1 ∧ nh1 ≤ 400 := by rw [← enh1.e]; exact rd_Model_31 iM rfl
  have qnh1 : mG M 126 31 = nh1 := enh1
  (try rw [enh1.e] at y0); (try rw [enh1.e] at y1); (try rw [enh1.e] at y2); (try rw [enh1.e] at hf79)
  obtain ⟨nh2, enh2⟩ : ∃ v, Is (mG M 126 34) v := ⟨_, rfl⟩
  have qnh2 : mG M 126 34 = nh2 := enh2
  (try rw [enh2.e] at y0); (try rw [enh2.e] at y1); (try rw [enh2.e] at y2); (try rw [enh2.e] at hf79)
  unfold bX9_token_79
  refine w_gK (congrArg Prod.fst (kl_126 iM)) ?_
  refine w_call (s_X9_see iM) ?_
  intro v80 m80 pp80
  obtain ⟨im80, kk80, e80_0, e80_1, -⟩ := pp80
  try dsimp only
  replace im80 : I n m80 := im80
  replace kk80 : Keep n W_X9_see M m80 := kk80
  have km80 : Keep n W_X9_token Me m80 := kM.tr kk80 (fun b j z => z.elim)
  replace e80_0 : (-1) ≤ v80 ∧ v80 ≤ 255 := e80_0
  replace e80_1 : 0 ≤ v80 → mG m80 126 29 ≤ 399 := e80_1
  have lk80 : mG m80 126 29 = nh0 := ((kk80.2.2 126 29 (by omega) (fun z => z)).trans (show mG M 126 29 = nh0 from enh0))
  refine w_call (s_X9_in ⟨by omega, by omega⟩ ⟨by omega, by omega⟩ ⟨by omega, by omega⟩ im80) ?_
  intro v87 m87 pp87
  obtain ⟨im87, kk87, e87_0, e87_1, -⟩ := pp87
  try dsimp only
  replace im87 : I n m87 := im87
  replace kk87 : Keep n W_X9_in m80 m87 := kk87
  have km87 : Keep n W_X9_token Me m87 := km80.tr kk87 (fun b j z => z.elim)
  replace e87_0 : 0 ≤ v87 ∧ v87 ≤ 1 := e87_0
  replace e87_1 : v87 = 1 → 97 ≤ v80 ∧ v80 ≤ 122 := e87_1
  refine w_if (fun c1_ => ?_) (fun c1_ => ?_)
  · skip
    refine w_if (fun c2_ => ?_) (fun c2_ => ?_)
    · skip
      refine w_gFc (ji := 34) rfl (congrArg Prod.fst (kl_126 im87)) (show mG m87 126 34 = nh2 from ((kk87.2.2 126 34 (by omega) (fun z => z)).trans ((kk80.2.2 126 34 (by omega) (fun z => z)).trans (show mG M 126 34 = nh2 from enh2)))) ?_
      exact s_X9_token_141 (by (try rw [(show mG m87 126 29 = nh0 from ((kk87.2.2 126 29 (by omega) (fun z => z)).trans ((kk80.2.2 126 29 (by omega) (fun z => z)).trans (show mG M 126 29 = nh0 from enh0))))]); (try rw [(show mG m87 126 31 = nh1 from ((kk87.2.2 126 31 (by omega) (fun z => z)).trans ((kk80.2.2 126 31 (by omega) (fun z => z)).trans (show mG M 126 31 = nh1 from enh1))))]); all_goals omega) (by (try rw [(show mG m87 126 29 = nh0 from ((kk87.2.2 126 29 (by omega) (fun z => z)).trans ((kk80.2.2 126 29 (by omega) (fun z => z)).trans (show mG M 126 29 = nh0 from enh0))))]); (try rw [(show mG m87 126 31 = nh1 from ((kk87.2.2 126 31 (by omega) (fun z => z)).trans ((kk80.2.2 126 31 (by omega) (fun z => z)).trans (show mG M 126 31 = nh1 from enh1))))]); all_goals omega) (by (try rw [(show mG m87 126 29 = nh0 from ((kk87.2.2 126 29 (by omega) (fun z => z)).trans ((kk80.2.2 126 29 (by omega) (fun z => z)).trans (show mG M 126 29 = nh0 from enh0))))]); (try rw [(show mG m87 126 31 = nh1 from ((kk87.2.2 126 31 (by omega) (fun z => z)).trans ((kk80.2.2 126 31 (by omega) (fun z => z)).trans (show mG M 126 31 = nh1 from enh1))))]); all_goals omega) im87 km87
    · skip
      exact s_X9_token_141 (by (try rw [(show mG m87 126 29 = nh0 from ((kk87.2.2 126 29 (by omega) (fun z => z)).trans ((kk80.2.2 126 29 (by omega) (fun z => z)).trans (show mG M 126 29 = nh0 from enh0))))]); (try rw [(show mG m87 126 31 = nh1 from ((kk87.2.2 126 31 (by omega) (fun z => z)).trans ((kk80.2.2 126 31 (by omega) (fun z => z)).trans (show mG M 126 31 = nh1 from enh1))))]); all_goals omega) (by (try rw [(show mG m87 126 29 = nh0 from ((kk87.2.2 126 29 (by omega) (fun z => z)).trans ((kk80.2.2 126 29 (by omega) (fun z => z)).trans (show mG M 126 29 = nh0 from enh0))))]); (try rw [(show mG m87 126 31 = nh1 from ((kk87.2.2 126 31 (by omega) (fun z => z)).trans ((kk80.2.2 126 31 (by omega) (fun z => z)).trans (show mG M 126 31 = nh1 from enh1))))]); all_goals omega) (by (try rw [(show mG m87 126 29 = nh0 from ((kk87.2.2 126 29 (by omega) (fun z => z)).trans ((kk80.2.2 126 29 (by omega) (fun z => z)).trans (show mG M 126 29 = nh0 from enh0))))]); (try rw [(show mG m87 126 31 = nh1 from ((kk87.2.2 126 31 (by omega) (fun z => z)).trans ((kk80.2.2 126 31 (by omega) (fun z => z)).trans (show mG M 126 31 = nh1 from enh1))))]); all_goals omega) im87 km87
  · skip
    refine w_gFc (ji := 34) rfl (congrArg Prod.fst (kl_126 im87)) (show mG m87 126 34 = nh2 from ((kk87.2.2 126 34 (by omega) (fun z => z)).trans ((kk80.2.2 126 34 (by omega) (fun z => z)).trans (show mG M 126 34 = nh2 from enh2)))) ?_
    refine w_gK (congrArg Prod.fst (kl_126 im87)) ?_
    refine w_call (s_X9_see im87) ?_
    intro v102 m102 pp102
    obtain ⟨im102, kk102, e102_0, e102_1, -⟩ := pp102
    try dsimp only
    replace im102 : I n m102 := im102
    replace kk102 : Keep n W_X9_see m87 m102 := kk102
    have km102 : Keep n W_X9_token Me m102 := km87.tr kk102 (fun b j z => z.elim)
    replace e102_0 : (-1) ≤ v102 ∧ v102 ≤ 255 := e102_0
    replace e102_1 : 0 ≤ v102 → mG m102 126 29 ≤ 399 := e102_1
    have lk102 : mG m102 126 29 = nh0 := ((kk102.2.2 126 29 (by omega) (fun z => z)).trans ((kk87.2.2 126 29 (by omega) (fun z => z)).trans ((kk80.2.2 126 29 (by omega) (fun z => z)).trans (show mG M 126 29 = nh0 from enh0))))
    have w4_ := (rfl : i2l v102 = v102)
    refine w_pF (ji := 34) rfl (congrArg Prod.fst (kl_126 im102)) (fun M107 hM107 => ?_)
    replace hM107 : M107 = mS m102 126 34 (lor (lshl nh2 8) (i2l v102)) := hM107
    have iM107 : I n M107 := wr_Model_34 im102 rfl hM107
    have kM107 : Keep n W_X9_token Me M107 := km102.st hM107 (Or.inl (Or.inr (Or.inr (Or.inr (Or.inr ⟨rfl, rfl⟩)))))
    obtain ⟨svM107, esvM107⟩ : ∃ z, z = (lor (lshl nh2 8) (i2l v102)) := ⟨_, rfl⟩
    refine w_gFc (ji := 29) rfl (congrArg Prod.fst (kl_126 iM107)) (show mG M107 126 29 = nh0 from ((st_ne hM107 (fun z => absurd z.2 (by decide))).trans ((kk102.2.2 126 29 (by omega) (fun z => z)).trans ((kk87.2.2 126 29 (by omega) (fun z => z)).trans ((kk80.2.2 126 29 (by omega) (fun z => z)).trans (show mG M 126 29 = nh0 from enh0)))))) ?_
    have w6_ := wI_id (x := (nh0 + 1)) (by omega) (by omega)
    refine w_pF (ji := 29) rfl (congrArg Prod.fst (kl_126 iM107)) (fun M117 hM117 => ?_)
    replace hM117 : M117 = mS M107 126 29 (wI (nh0 + 1)) := hM117
    have iM117 : I n M117 := wr_Model_29 iM107 rfl ⟨by omega, by omega⟩ hM117
    have kM117 : Keep n W_X9_token Me M117 := kM107.st hM117 (Or.inl (Or.inl ⟨rfl, rfl⟩))
    obtain ⟨svM117, esvM117⟩ : ∃ z, z = (wI (nh0 + 1)) := ⟨_, rfl⟩
    have w7_ := wI_id (x := (l2 + 1)) (by omega) (by omega)
    exact hk79 _ _ ⟨by omega, by omega⟩ (by (try rw [(show mG M117 126 29 = svM117 from (show mG M117 126 29 = svM117 from ((st_eq hM117).trans esvM117.symm)))]); (try rw [(show mG M117 126 31 = nh1 from ((st_ne hM117 (fun z => absurd z.2 (by decide))).trans ((st_ne hM107 (fun z => absurd z.2 (by decide))).trans ((kk102.2.2 126 31 (by omega) (fun z => z)).trans ((kk87.2.2 126 31 (by omega) (fun z => z)).trans ((kk80.2.2 126 31 (by omega) (fun z => z)).trans (show mG M 126 31 = nh1 from enh1)))))))]); (try rw [(show mG M117 126 34 = svM107 from ((st_ne hM117 (fun z => absurd z.2 (by decide))).trans (show mG M107 126 34 = svM107 from ((st_eq hM107).trans esvM107.symm))))]); all_goals omega) (by (try rw [(show mG M117 126 29 = svM117 from (show mG M117 126 29 = svM117 from ((st_eq hM117).trans esvM117.symm)))]); (try rw [(show mG M117 126 31 = nh1 from ((st_ne hM117 (fun z => absurd z.2 (by decide))).trans ((st_ne hM107 (fun z => absurd z.2 (by decide))).trans ((kk102.2.2 126 31 (by omega) (fun z => z)).trans ((kk87.2.2 126 31 (by omega) (fun z => z)).trans ((kk80.2.2 126 31 (by omega) (fun z => z)).trans (show mG M 126 31 = nh1 from enh1)))))))]); (try rw [(show mG M117 126 34 = svM107 from ((st_ne hM117 (fun z => absurd z.2 (by decide))).trans (show mG M107 126 34 = svM107 from ((st_eq hM107).trans esvM107.symm))))]); all_goals omega) (by (try rw [(show mG M117 126 29 = svM117 from (show mG M117 126 29 = svM117 from ((st_eq hM117).trans esvM117.symm)))]); (try rw [(show mG M117 126 31 = nh1 from ((st_ne hM117 (fun z => absurd z.2 (by decide))).trans ((st_ne hM107 (fun z => absurd z.2 (by decide))).trans ((kk102.2.2 126 31 (by omega) (fun z => z)).trans ((kk87.2.2 126 31 (by omega) (fun z => z)).trans ((kk80.2.2 126 31 (by omega) (fun z => z)).trans (show mG M 126 31 = nh1 from enh1)))))))]); (try rw [(show mG M117 126 34 = svM107 from ((st_ne hM117 (fun z => absurd z.2 (by decide))).trans (show mG M107 126 34 = svM107 from ((st_eq hM107).trans esvM107.symm))))]); all_goals omega) (by rw [(show mG M117 126 29 = svM117 from (show mG M117 126 29 = svM117 from ((st_eq hM117).trans esvM117.symm)))]; omega) iM117 kM117
theorem s_X9_token_79 {n : Nat} {Me : Mem} : ∀ (fu : Nat) (l2 : Int) (M : Mem), (0 ≤ l2 ∧ l2 ≤ 400) → (mG M 126 29 ≤ 400 ∧ 0 ≤ l2 ∧ l2 ≤ mG M 126 29) → (mG Me 126 29 ≤ mG M 126 31 ∧ mG M 126 31 + l2 ≤ mG M 126 29) → (1 ≤ l2 ∨ mG M 126 34 = 0) → 401 - mG M 126 29 < (fu : Int) → I n M → Keep n W_X9_token Me M → wp (mX9_token_79 fu 126 l2 M) (fun q => I n q.2 ∧ Keep n W_X9_token Me q.2 ∧ (mG Me 126 29 ≤ mG q.2 126 31 ∧ mG q.2 126 31 ≤ mG q.2 126 29 ∧ (mG q.2 126 34 = 0 ∨ mG q.2 126 31 < mG q.2 126 29)) ∧ True) := by
  intro fu
  induction fu with
  | zero =>
    intro l2 M r_l2 y0 y1 y2 hf iM kM
    exfalso
    have z := rdf iM (a := 126) (j := 29) (f := 42) rfl
    have z : 0 ≤ mG M 126 29 ∧ mG M 126 29 ≤ 400 := z
    have z := rdf iM (a := 126) (j := 31) (f := 42) rfl
    have z : 0 ≤ mG M 126 31 ∧ mG M 126 31 ≤ 400 := z
    omega
  | succ fu ih =>
    intro l2 M r_l2 y0 y1 y2 hf iM kM
    exact sb_X9_token_79 ih r_l2 y0 y1 y2 (by have e : ((fu + 1 : Nat) : Int) = (fu : Int) + 1 := rfl; rw [e] at hf; exact hf) iM kM
theorem s_X9_token_18 {n : Nat} {Me : Mem} {k0 : Int → Mem → Option (Int × Mem)} {fu0 : Nat} (hk0 : ∀ (M : Mem), (mG M 126 29 ≤ 400 ∧ mG Me 126 29 ≤ mG M 126 29) → 401 - mG M 126 29 < (fu0 : Int) → I n M → Keep n W_X9_token Me M → wp (k0 126 M) (fun q => I n q.2 ∧ Keep n W_X9_token Me q.2 ∧ (mG Me 126 29 ≤ mG q.2 126 31 ∧ mG q.2 126 31 ≤ mG q.2 126 29 ∧ (mG q.2 126 34 = 0 ∨ mG q.2 126 31 < mG q.2 126 29)) ∧ True)) {M : Mem} (y0 : mG M 126 29 ≤ 399 ∧ mG Me 126 29 ≤ mG M 126 29) (hf0 : 401 - mG M 126 29 < (fu0 : Int) + 1) (iM : I n M) (kM : Keep n W_X9_token Me M) : wp (mX9_token_18 k0 126 M) (fun q => I n q.2 ∧ Keep n W_X9_token Me q.2 ∧ (mG Me 126 29 ≤ mG q.2 126 31 ∧ mG q.2 126 31 ≤ mG q.2 126 29 ∧ (mG q.2 126 34 = 0 ∨ mG q.2 126 31 < mG q.2 126 29)) ∧ True) := by
  have hn : (169 : Int) ≤ (n : Int) := by have := iM.2.2.2.2.1; omega
  obtain ⟨nh0, enh0⟩ : ∃ v, Is (mG M 126 29) v := ⟨_, rfl⟩
  have rnh0 : 0 ≤ nh0 ∧ nh0 ≤ 400 := by rw [← enh0.e]; exact rd_Model_29 iM rfl
  have qnh0 : mG M 126 29 = nh0 := enh0
  (try rw [enh0.e] at y0); (try rw [enh0.e] at hf0)
  unfold mX9_token_18
  refine w_gFc (ji := 29) rfl (congrArg Prod.fst (kl_126 iM)) (show mG M 126 29 = nh0 from (show mG M 126 29 = nh0 from enh0)) ?_
  have w1_ := wI_id (x := (nh0 + 1)) (by omega) (by omega)
  refine w_pF (ji := 29) rfl (congrArg Prod.fst (kl_126 iM)) (fun M25 hM25 => ?_)
  replace hM25 : M25 = mS M 126 29 (wI (nh0 + 1)) := hM25
  have iM25 : I n M25 := wr_Model_29 iM rfl ⟨by omega, by omega⟩ hM25
  have kM25 : Keep n W_X9_token Me M25 := kM.st hM25 (Or.inl (Or.inl ⟨rfl, rfl⟩))
  obtain ⟨svM25, esvM25⟩ : ∃ z, z = (wI (nh0 + 1)) := ⟨_, rfl⟩
  exact hk0 _ (by (try rw [(show mG M25 126 29 = svM25 from (show mG M25 126 29 = svM25 from ((st_eq hM25).trans esvM25.symm)))]); all_goals omega) (by rw [(show mG M25 126 29 = svM25 from (show mG M25 126 29 = svM25 from ((st_eq hM25).trans esvM25.symm)))]; omega) iM25 kM25
theorem sb_X9_token_0 {n : Nat} {Me : Mem} {k0 : Int → Mem → Option (Int × Mem)} {fu0 : Nat} (hk0 : ∀ (M : Mem), (mG M 126 29 ≤ 400 ∧ mG Me 126 29 ≤ mG M 126 29) → 401 - mG M 126 29 < (fu0 : Int) → I n M → Keep n W_X9_token Me M → wp (k0 126 M) (fun q => I n q.2 ∧ Keep n W_X9_token Me q.2 ∧ (mG Me 126 29 ≤ mG q.2 126 31 ∧ mG q.2 126 31 ≤ mG q.2 126 29 ∧ (mG q.2 126 34 = 0 ∨ mG q.2 126 31 < mG q.2 126 29)) ∧ True)) {M : Mem} (y0 : mG M 126 29 ≤ 400 ∧ mG Me 126 29 ≤ mG M 126 29) (hf0 : 401 - mG M 126 29 < (fu0 : Int) + 1) (iM : I n M) (kM : Keep n W_X9_token Me M) : wp (bX9_token_0 k0 126 M) (fun q => I n q.2 ∧ Keep n W_X9_token Me q.2 ∧ (mG Me 126 29 ≤ mG q.2 126 31 ∧ mG q.2 126 31 ≤ mG q.2 126 29 ∧ (mG q.2 126 34 = 0 ∨ mG q.2 126 31 < mG q.2 126 29)) ∧ True) := by
  have hn : (169 : Int) ≤ (n : Int) := by have := iM.2.2.2.2.1; omega
  obtain ⟨nh0, enh0⟩ : ∃ v, Is (mG M 126 29) v := ⟨_, rfl⟩
  have rnh0 : 0 ≤ nh0 ∧ nh0 ≤ 400 := by rw [← enh0.e]; exact rd_Model_29 iM rfl
  have qnh0 : mG M 126 29 = nh0 := enh0
  (try rw [enh0.e] at y0); (try rw [enh0.e] at hf0)
  unfold bX9_token_0
  refine w_gK (congrArg Prod.fst (kl_126 iM)) ?_
  refine w_call (s_X9_see iM) ?_
  intro v1 m1 pp1
  obtain ⟨im1, kk1, e1_0, e1_1, -⟩ := pp1
  try dsimp only
  replace im1 : I n m1 := im1
  replace kk1 : Keep n W_X9_see M m1 := kk1
  have km1 : Keep n W_X9_token Me m1 := kM.tr kk1 (fun b j z => z.elim)
  replace e1_0 : (-1) ≤ v1 ∧ v1 ≤ 255 := e1_0
  replace e1_1 : 0 ≤ v1 → mG m1 126 29 ≤ 399 := e1_1
  have lk1 : mG m1 126 29 = nh0 := ((kk1.2.2 126 29 (by omega) (fun z => z)).trans (show mG M 126 29 = nh0 from enh0))
  refine w_if (fun c1_ => ?_) (fun c1_ => ?_)
  · skip
    exact s_X9_token_18 hk0 (by (try rw [(show mG m1 126 29 = nh0 from ((kk1.2.2 126 29 (by omega) (fun z => z)).trans (show mG M 126 29 = nh0 from enh0)))]); all_goals omega) (by rw [(show mG m1 126 29 = nh0 from ((kk1.2.2 126 29 (by omega) (fun z => z)).trans (show mG M 126 29 = nh0 from enh0)))]; omega) im1 km1
  · skip
    refine w_gK (congrArg Prod.fst (kl_126 im1)) ?_
    refine w_call (s_X9_see im1) ?_
    intro v10 m10 pp10
    obtain ⟨im10, kk10, e10_0, e10_1, -⟩ := pp10
    try dsimp only
    replace im10 : I n m10 := im10
    replace kk10 : Keep n W_X9_see m1 m10 := kk10
    have km10 : Keep n W_X9_token Me m10 := km1.tr kk10 (fun b j z => z.elim)
    replace e10_0 : (-1) ≤ v10 ∧ v10 ≤ 255 := e10_0
    replace e10_1 : 0 ≤ v10 → mG m10 126 29 ≤ 399 := e10_1
    have lk10 : mG m10 126 29 = nh0 := ((kk10.2.2 126 29 (by omega) (fun z => z)).trans ((kk1.2.2 126 29 (by omega) (fun z => z)).trans (show mG M 126 29 = nh0 from enh0)))
    refine w_if (fun c2_ => ?_) (fun c2_ => ?_)
    · skip
      exact s_X9_token_18 hk0 (by (try rw [(show mG m10 126 29 = nh0 from ((kk10.2.2 126 29 (by omega) (fun z => z)).trans ((kk1.2.2 126 29 (by omega) (fun z => z)).trans (show mG M 126 29 = nh0 from enh0))))]); all_goals omega) (by rw [(show mG m10 126 29 = nh0 from ((kk10.2.2 126 29 (by omega) (fun z => z)).trans ((kk1.2.2 126 29 (by omega) (fun z => z)).trans (show mG M 126 29 = nh0 from enh0))))]; omega) im10 km10
    · skip
      refine w_gFc (ji := 29) rfl (congrArg Prod.fst (kl_126 im10)) (show mG m10 126 29 = nh0 from ((kk10.2.2 126 29 (by omega) (fun z => z)).trans ((kk1.2.2 126 29 (by omega) (fun z => z)).trans (show mG M 126 29 = nh0 from enh0)))) ?_
      refine w_pF (ji := 31) rfl (congrArg Prod.fst (kl_126 im10)) (fun M36 hM36 => ?_)
      replace hM36 : M36 = mS m10 126 31 nh0 := hM36
      have iM36 : I n M36 := wr_Model_31 im10 rfl ⟨by omega, by omega⟩ hM36
      have kM36 : Keep n W_X9_token Me M36 := km10.st hM36 (Or.inl (Or.inr (Or.inl ⟨rfl, rfl⟩)))
      refine w_gK (congrArg Prod.fst (kl_126 iM36)) ?_
      refine w_call (s_X9_see iM36) ?_
      intro v40 m40 pp40
      obtain ⟨im40, kk40, e40_0, e40_1, -⟩ := pp40
      try dsimp only
      replace im40 : I n m40 := im40
      replace kk40 : Keep n W_X9_see M36 m40 := kk40
      have km40 : Keep n W_X9_token Me m40 := kM36.tr kk40 (fun b j z => z.elim)
      replace e40_0 : (-1) ≤ v40 ∧ v40 ≤ 255 := e40_0
      replace e40_1 : 0 ≤ v40 → mG m40 126 29 ≤ 399 := e40_1
      have lk40 : mG m40 126 29 = nh0 := ((kk40.2.2 126 29 (by omega) (fun z => z)).trans ((st_ne hM36 (fun z => absurd z.2 (by decide))).trans ((kk10.2.2 126 29 (by omega) (fun z => z)).trans ((kk1.2.2 126 29 (by omega) (fun z => z)).trans (show mG M 126 29 = nh0 from enh0)))))
      refine w_pF (ji := 33) rfl (congrArg Prod.fst (kl_126 im40)) (fun M46 hM46 => ?_)
      replace hM46 : M46 = mS m40 126 33 0 := hM46
      have iM46 : I n M46 := wr_Model_33 im40 rfl ⟨by omega, by omega⟩ hM46
      have kM46 : Keep n W_X9_token Me M46 := km40.st hM46 (Or.inl (Or.inr (Or.inr (Or.inr (Or.inl ⟨rfl, rfl⟩)))))
      refine w_pF (ji := 34) rfl (congrArg Prod.fst (kl_126 iM46)) (fun M51 hM51 => ?_)
      replace hM51 : M51 = mS M46 126 34 0 := hM51
      have iM51 : I n M51 := wr_Model_34 iM46 rfl hM51
      have kM51 : Keep n W_X9_token Me M51 := kM46.st hM51 (Or.inl (Or.inr (Or.inr (Or.inr (Or.inr ⟨rfl, rfl⟩)))))
      refine w_if (fun c3_ => ?_) (fun c3_ => ?_)
      · skip
        refine w_call (s_X9_in ⟨by omega, by omega⟩ ⟨by omega, by omega⟩ ⟨by omega, by omega⟩ iM51) ?_
        intro v73 m73 pp73
        obtain ⟨im73, kk73, e73_0, e73_1, -⟩ := pp73
        try dsimp only
        replace im73 : I n m73 := im73
        replace kk73 : Keep n W_X9_in M51 m73 := kk73
        have km73 : Keep n W_X9_token Me m73 := kM51.tr kk73 (fun b j z => z.elim)
        replace e73_0 : 0 ≤ v73 ∧ v73 ≤ 1 := e73_0
        replace e73_1 : v73 = 1 → 97 ≤ v40 ∧ v40 ≤ 122 := e73_1
        refine w_if (fun c4_ => ?_) (fun c4_ => ?_)
        · skip
          refine w_call (s_X9_in ⟨by omega, by omega⟩ ⟨by omega, by omega⟩ ⟨by omega, by omega⟩ im73) ?_
          intro v157 m157 pp157
          obtain ⟨im157, kk157, e157_0, e157_1, -⟩ := pp157
          try dsimp only
          replace im157 : I n m157 := im157
          replace kk157 : Keep n W_X9_in m73 m157 := kk157
          have km157 : Keep n W_X9_token Me m157 := km73.tr kk157 (fun b j z => z.elim)
          replace e157_0 : 0 ≤ v157 ∧ v157 ≤ 1 := e157_0
          replace e157_1 : v157 = 1 → 48 ≤ v40 ∧ v40 ≤ 57 := e157_1
          refine w_if (fun c5_ => ?_) (fun c5_ => ?_)
          · skip
            refine w_gFc (ji := 29) rfl (congrArg Prod.fst (kl_126 im157)) (show mG m157 126 29 = nh0 from ((kk157.2.2 126 29 (by omega) (fun z => z)).trans ((kk73.2.2 126 29 (by omega) (fun z => z)).trans ((st_ne hM51 (fun z => absurd z.2 (by decide))).trans ((st_ne hM46 (fun z => absurd z.2 (by decide))).trans ((kk40.2.2 126 29 (by omega) (fun z => z)).trans ((st_ne hM36 (fun z => absurd z.2 (by decide))).trans ((kk10.2.2 126 29 (by omega) (fun z => z)).trans ((kk1.2.2 126 29 (by omega) (fun z => z)).trans (show mG M 126 29 = nh0 from enh0)))))))))) ?_
            have w6_ := wI_id (x := (nh0 + 1)) (by omega) (by omega)
            refine w_pF (ji := 29) rfl (congrArg Prod.fst (kl_126 im157)) (fun M248 hM248 => ?_)
            replace hM248 : M248 = mS m157 126 29 (wI (nh0 + 1)) := hM248
            have iM248 : I n M248 := wr_Model_29 im157 rfl ⟨by omega, by omega⟩ hM248
            have kM248 : Keep n W_X9_token Me M248 := km157.st hM248 (Or.inl (Or.inl ⟨rfl, rfl⟩))
            obtain ⟨svM248, esvM248⟩ : ∃ z, z = (wI (nh0 + 1)) := ⟨_, rfl⟩
            refine w_pF (ji := 32) rfl (congrArg Prod.fst (kl_126 iM248)) (fun M253 hM253 => ?_)
            replace hM253 : M253 = mS M248 126 32 1 := hM253
            have iM253 : I n M253 := wr_Model_32 iM248 rfl ⟨by omega, by omega⟩ hM253
            have kM253 : Keep n W_X9_token Me M253 := kM248.st hM253 (Or.inl (Or.inr (Or.inr (Or.inl ⟨rfl, rfl⟩))))
            exact w_ret ⟨iM253, kM253, (show mG Me 126 29 ≤ mG M253 126 31 ∧ mG M253 126 31 ≤ mG M253 126 29 ∧ (mG M253 126 34 = 0 ∨ mG M253 126 31 < mG M253 126 29) from (by (try rw [(show mG M253 126 29 = svM248 from ((st_ne hM253 (fun z => absurd z.2 (by decide))).trans (show mG M248 126 29 = svM248 from ((st_eq hM248).trans esvM248.symm))))]); (try rw [(show mG M253 126 31 = nh0 from ((st_ne hM253 (fun z => absurd z.2 (by decide))).trans ((st_ne hM248 (fun z => absurd z.2 (by decide))).trans ((kk157.2.2 126 31 (by omega) (fun z => z)).trans ((kk73.2.2 126 31 (by omega) (fun z => z)).trans ((st_ne hM51 (fun z => absurd z.2 (by decide))).trans ((st_ne hM46 (fun z => absurd z.2 (by decide))).trans ((kk40.2.2 126 31 (by omega) (fun z => z)).trans (show mG M36 126 31 = nh0 from (st_eq hM36))))))))))]); (try rw [(show mG M253 126 34 = 0 from ((st_ne hM253 (fun z => absurd z.2 (by decide))).trans ((st_ne hM248 (fun z => absurd z.2 (by decide))).trans ((kk157.2.2 126 34 (by omega) (fun z => z)).trans ((kk73.2.2 126 34 (by omega) (fun z => z)).trans (show mG M51 126 34 = 0 from (st_eq hM51)))))))]); all_goals omega)), trivial⟩
          · skip
            exact s_X9_token_163 FU _ _ ⟨by omega, by omega⟩ (by (try rw [(show mG m157 126 29 = nh0 from ((kk157.2.2 126 29 (by omega) (fun z => z)).trans ((kk73.2.2 126 29 (by omega) (fun z => z)).trans ((st_ne hM51 (fun z => absurd z.2 (by decide))).trans ((st_ne hM46 (fun z => absurd z.2 (by decide))).trans ((kk40.2.2 126 29 (by omega) (fun z => z)).trans ((st_ne hM36 (fun z => absurd z.2 (by decide))).trans ((kk10.2.2 126 29 (by omega) (fun z => z)).trans ((kk1.2.2 126 29 (by omega) (fun z => z)).trans (show mG M 126 29 = nh0 from enh0))))))))))]); (try rw [(show mG m157 126 31 = nh0 from ((kk157.2.2 126 31 (by omega) (fun z => z)).trans ((kk73.2.2 126 31 (by omega) (fun z => z)).trans ((st_ne hM51 (fun z => absurd z.2 (by decide))).trans ((st_ne hM46 (fun z => absurd z.2 (by decide))).trans ((kk40.2.2 126 31 (by omega) (fun z => z)).trans (show mG M36 126 31 = nh0 from (st_eq hM36))))))))]); (try rw [(show mG m157 126 34 = 0 from ((kk157.2.2 126 34 (by omega) (fun z => z)).trans ((kk73.2.2 126 34 (by omega) (fun z => z)).trans (show mG M51 126 34 = 0 from (st_eq hM51)))))]); all_goals omega) (by (try rw [(show mG m157 126 29 = nh0 from ((kk157.2.2 126 29 (by omega) (fun z => z)).trans ((kk73.2.2 126 29 (by omega) (fun z => z)).trans ((st_ne hM51 (fun z => absurd z.2 (by decide))).trans ((st_ne hM46 (fun z => absurd z.2 (by decide))).trans ((kk40.2.2 126 29 (by omega) (fun z => z)).trans ((st_ne hM36 (fun z => absurd z.2 (by decide))).trans ((kk10.2.2 126 29 (by omega) (fun z => z)).trans ((kk1.2.2 126 29 (by omega) (fun z => z)).trans (show mG M 126 29 = nh0 from enh0))))))))))]); (try rw [(show mG m157 126 31 = nh0 from ((kk157.2.2 126 31 (by omega) (fun z => z)).trans ((kk73.2.2 126 31 (by omega) (fun z => z)).trans ((st_ne hM51 (fun z => absurd z.2 (by decide))).trans ((st_ne hM46 (fun z => absurd z.2 (by decide))).trans ((kk40.2.2 126 31 (by omega) (fun z => z)).trans (show mG M36 126 31 = nh0 from (st_eq hM36))))))))]); (try rw [(show mG m157 126 34 = 0 from ((kk157.2.2 126 34 (by omega) (fun z => z)).trans ((kk73.2.2 126 34 (by omega) (fun z => z)).trans (show mG M51 126 34 = 0 from (st_eq hM51)))))]); all_goals omega) (by (try rw [(show mG m157 126 29 = nh0 from ((kk157.2.2 126 29 (by omega) (fun z => z)).trans ((kk73.2.2 126 29 (by omega) (fun z => z)).trans ((st_ne hM51 (fun z => absurd z.2 (by decide))).trans ((st_ne hM46 (fun z => absurd z.2 (by decide))).trans ((kk40.2.2 126 29 (by omega) (fun z => z)).trans ((st_ne hM36 (fun z => absurd z.2 (by decide))).trans ((kk10.2.2 126 29 (by omega) (fun z => z)).trans ((kk1.2.2 126 29 (by omega) (fun z => z)).trans (show mG M 126 29 = nh0 from enh0))))))))))]); (try rw [(show mG m157 126 31 = nh0 from ((kk157.2.2 126 31 (by omega) (fun z => z)).trans ((kk73.2.2 126 31 (by omega) (fun z => z)).trans ((st_ne hM51 (fun z => absurd z.2 (by decide))).trans ((st_ne hM46 (fun z => absurd z.2 (by decide))).trans ((kk40.2.2 126 31 (by omega) (fun z => z)).trans (show mG M36 126 31 = nh0 from (st_eq hM36))))))))]); (try rw [(show mG m157 126 34 = 0 from ((kk157.2.2 126 34 (by omega) (fun z => z)).trans ((kk73.2.2 126 34 (by omega) (fun z => z)).trans (show mG M51 126 34 = 0 from (st_eq hM51)))))]); all_goals omega) (by rw [(show mG m157 126 29 = nh0 from ((kk157.2.2 126 29 (by omega) (fun z => z)).trans ((kk73.2.2 126 29 (by omega) (fun z => z)).trans ((st_ne hM51 (fun z => absurd z.2 (by decide))).trans ((st_ne hM46 (fun z => absurd z.2 (by decide))).trans ((kk40.2.2 126 29 (by omega) (fun z => z)).trans ((st_ne hM36 (fun z => absurd z.2 (by decide))).trans ((kk10.2.2 126 29 (by omega) (fun z => z)).trans ((kk1.2.2 126 29 (by omega) (fun z => z)).trans (show mG M 126 29 = nh0 from enh0))))))))))]; show _ < (70000 : Int); omega) im157 km157
        · skip
          exact s_X9_token_79 FU _ _ ⟨by omega, by omega⟩ (by (try rw [(show mG m73 126 29 = nh0 from ((kk73.2.2 126 29 (by omega) (fun z => z)).trans ((st_ne hM51 (fun z => absurd z.2 (by decide))).trans ((st_ne hM46 (fun z => absurd z.2 (by decide))).trans ((kk40.2.2 126 29 (by omega) (fun z => z)).trans ((st_ne hM36 (fun z => absurd z.2 (by decide))).trans ((kk10.2.2 126 29 (by omega) (fun z => z)).trans ((kk1.2.2 126 29 (by omega) (fun z => z)).trans (show mG M 126 29 = nh0 from enh0)))))))))]); (try rw [(show mG m73 126 31 = nh0 from ((kk73.2.2 126 31 (by omega) (fun z => z)).trans ((st_ne hM51 (fun z => absurd z.2 (by decide))).trans ((st_ne hM46 (fun z => absurd z.2 (by decide))).trans ((kk40.2.2 126 31 (by omega) (fun z => z)).trans (show mG M36 126 31 = nh0 from (st_eq hM36)))))))]); (try rw [(show mG m73 126 34 = 0 from ((kk73.2.2 126 34 (by omega) (fun z => z)).trans (show mG M51 126 34 = 0 from (st_eq hM51))))]); all_goals omega) (by (try rw [(show mG m73 126 29 = nh0 from ((kk73.2.2 126 29 (by omega) (fun z => z)).trans ((st_ne hM51 (fun z => absurd z.2 (by decide))).trans ((st_ne hM46 (fun z => absurd z.2 (by decide))).trans ((kk40.2.2 126 29 (by omega) (fun z => z)).trans ((st_ne hM36 (fun z => absurd z.2 (by decide))).trans ((kk10.2.2 126 29 (by omega) (fun z => z)).trans ((kk1.2.2 126 29 (by omega) (fun z => z)).trans (show mG M 126 29 = nh0 from enh0)))))))))]); (try rw [(show mG m73 126 31 = nh0 from ((kk73.2.2 126 31 (by omega) (fun z => z)).trans ((st_ne hM51 (fun z => absurd z.2 (by decide))).trans ((st_ne hM46 (fun z => absurd z.2 (by decide))).trans ((kk40.2.2 126 31 (by omega) (fun z => z)).trans (show mG M36 126 31 = nh0 from (st_eq hM36)))))))]); (try rw [(show mG m73 126 34 = 0 from ((kk73.2.2 126 34 (by omega) (fun z => z)).trans (show mG M51 126 34 = 0 from (st_eq hM51))))]); all_goals omega) (by (try rw [(show mG m73 126 29 = nh0 from ((kk73.2.2 126 29 (by omega) (fun z => z)).trans ((st_ne hM51 (fun z => absurd z.2 (by decide))).trans ((st_ne hM46 (fun z => absurd z.2 (by decide))).trans ((kk40.2.2 126 29 (by omega) (fun z => z)).trans ((st_ne hM36 (fun z => absurd z.2 (by decide))).trans ((kk10.2.2 126 29 (by omega) (fun z => z)).trans ((kk1.2.2 126 29 (by omega) (fun z => z)).trans (show mG M 126 29 = nh0 from enh0)))))))))]); (try rw [(show mG m73 126 31 = nh0 from ((kk73.2.2 126 31 (by omega) (fun z => z)).trans ((st_ne hM51 (fun z => absurd z.2 (by decide))).trans ((st_ne hM46 (fun z => absurd z.2 (by decide))).trans ((kk40.2.2 126 31 (by omega) (fun z => z)).trans (show mG M36 126 31 = nh0 from (st_eq hM36)))))))]); (try rw [(show mG m73 126 34 = 0 from ((kk73.2.2 126 34 (by omega) (fun z => z)).trans (show mG M51 126 34 = 0 from (st_eq hM51))))]); all_goals omega) (by rw [(show mG m73 126 29 = nh0 from ((kk73.2.2 126 29 (by omega) (fun z => z)).trans ((st_ne hM51 (fun z => absurd z.2 (by decide))).trans ((st_ne hM46 (fun z => absurd z.2 (by decide))).trans ((kk40.2.2 126 29 (by omega) (fun z => z)).trans ((st_ne hM36 (fun z => absurd z.2 (by decide))).trans ((kk10.2.2 126 29 (by omega) (fun z => z)).trans ((kk1.2.2 126 29 (by omega) (fun z => z)).trans (show mG M 126 29 = nh0 from enh0)))))))))]; show _ < (70000 : Int); omega) im73 km73
      · skip
        refine w_pF (ji := 32) rfl (congrArg Prod.fst (kl_126 iM51)) (fun M62 hM62 => ?_)
        replace hM62 : M62 = mS M51 126 32 0 := hM62
        have iM62 : I n M62 := wr_Model_32 iM51 rfl ⟨by omega, by omega⟩ hM62
        have kM62 : Keep n W_X9_token Me M62 := kM51.st hM62 (Or.inl (Or.inr (Or.inr (Or.inl ⟨rfl, rfl⟩))))
        exact w_ret ⟨iM62, kM62, (show mG Me 126 29 ≤ mG M62 126 31 ∧ mG M62 126 31 ≤ mG M62 126 29 ∧ (mG M62 126 34 = 0 ∨ mG M62 126 31 < mG M62 126 29) from (by (try rw [(show mG M62 126 29 = nh0 from ((st_ne hM62 (fun z => absurd z.2 (by decide))).trans ((st_ne hM51 (fun z => absurd z.2 (by decide))).trans ((st_ne hM46 (fun z => absurd z.2 (by decide))).trans ((kk40.2.2 126 29 (by omega) (fun z => z)).trans ((st_ne hM36 (fun z => absurd z.2 (by decide))).trans ((kk10.2.2 126 29 (by omega) (fun z => z)).trans ((kk1.2.2 126 29 (by omega) (fun z => z)).trans (show mG M 126 29 = nh0 from enh0)))))))))]); (try rw [(show mG M62 126 31 = nh0 from ((st_ne hM62 (fun z => absurd z.2 (by decide))).trans ((st_ne hM51 (fun z => absurd z.2 (by decide))).trans ((st_ne hM46 (fun z => absurd z.2 (by decide))).trans ((kk40.2.2 126 31 (by omega) (fun z => z)).trans (show mG M36 126 31 = nh0 from (st_eq hM36)))))))]); (try rw [(show mG M62 126 34 = 0 from ((st_ne hM62 (fun z => absurd z.2 (by decide))).trans (show mG M51 126 34 = 0 from (st_eq hM51))))]); all_goals omega)), trivial⟩
theorem s_X9_token_0 {n : Nat} {Me : Mem} : ∀ (fu : Nat) (M : Mem), (mG M 126 29 ≤ 400 ∧ mG Me 126 29 ≤ mG M 126 29) → 401 - mG M 126 29 < (fu : Int) → I n M → Keep n W_X9_token Me M → wp (mX9_token_0 fu 126 M) (fun q => I n q.2 ∧ Keep n W_X9_token Me q.2 ∧ (mG Me 126 29 ≤ mG q.2 126 31 ∧ mG q.2 126 31 ≤ mG q.2 126 29 ∧ (mG q.2 126 34 = 0 ∨ mG q.2 126 31 < mG q.2 126 29)) ∧ True) := by
  intro fu
  induction fu with
  | zero =>
    intro  M y0 hf iM kM
    exfalso
    have z := rdf iM (a := 126) (j := 29) (f := 42) rfl
    have z : 0 ≤ mG M 126 29 ∧ mG M 126 29 ≤ 400 := z
    omega
  | succ fu ih =>
    intro  M y0 hf iM kM
    exact sb_X9_token_0 ih y0 (by have e : ((fu + 1 : Nat) : Int) = (fu : Int) + 1 := rfl; rw [e] at hf; exact hf) iM kM
theorem s_X9_token {n : Nat} {M : Mem} (iM : I n M) : wp (mX9_token 126 M) (fun q => I n q.2 ∧ Keep n W_X9_token M q.2 ∧ (mG M 126 29 ≤ mG q.2 126 31 ∧ mG q.2 126 31 ≤ mG q.2 126 29 ∧ (mG q.2 126 34 = 0 ∨ mG q.2 126 31 < mG q.2 126 29)) ∧ True) := by
  have hn : (169 : Int) ≤ (n : Int) := by have := iM.2.2.2.2.1; omega
  have kM : Keep n W_X9_token M M := Keep.rf
  unfold mX9_token
  obtain ⟨hp1_, ehp1_⟩ : ∃ v, Is (mG M 126 29) v := ⟨_, rfl⟩
  have rhp1_ : 0 ≤ hp1_ ∧ hp1_ ≤ 400 := by rw [← ehp1_.e]; exact rd_Model_29 iM rfl
  have qhp1_ : mG M 126 29 = hp1_ := ehp1_
  exact s_X9_token_0 FU _ (by (try rw [(show mG M 126 29 = hp1_ from (show mG M 126 29 = hp1_ from ehp1_))]); all_goals omega) (by rw [(show mG M 126 29 = hp1_ from (show mG M 126 29 = hp1_ from ehp1_))]; show _ < (70000 : Int); omega) iM kM
