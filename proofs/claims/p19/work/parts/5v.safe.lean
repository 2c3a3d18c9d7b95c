def W_X9_settle (b j : Int) : Prop := (152 ≤ b ∧ b ≤ 154) ∨ (160 ≤ b ∧ b ≤ 161) ∨ b = 164 ∨ (b = 126 ∧ j = 0) ∨ (b = 126 ∧ j = 46) ∨ (b = 126 ∧ j = 48) ∨ (b = 126 ∧ j = 49) ∨ (b = 126 ∧ j = 50) ∨ (b = 126 ∧ j = 57)
theorem sb_X9_settle_125 {n : Nat} {Me : Mem} {k125 : Int → Int → Int → Int → Int → Mem → Option (Int × Mem)} {fu125 : Nat} (hk125 : ∀ (l1 l2 l3 l4 : Int) (M : Mem), (0 ≤ l1 ∧ l1 ≤ 3) → ((-1) ≤ l2 ∧ l2 ≤ 11) → ((-2147483648) ≤ l3 ∧ l3 ≤ 2147483647) → (0 ≤ l4 ∧ l4 ≤ 3) → (l4 < mG M 134 0) → (BM M (l2)) → (F12 M) → (NP M) → (SF M) → (WF M) → 4 - l4 < (fu125 : Int) → I n M → Keep n W_X9_settle Me M → wp (k125 126 l1 l2 l3 l4 M) (fun q => I n q.2 ∧ Keep n W_X9_settle Me q.2 ∧ ((-2147483648) ≤ q.1 ∧ q.1 ≤ 2147483647) ∧ True)) {l1 l2 l3 l4 : Int} {M : Mem} (r_l1 : 0 ≤ l1 ∧ l1 ≤ 3) (r_l2 : (-1) ≤ l2 ∧ l2 ≤ 11) (r_l3 : (-2147483648) ≤ l3 ∧ l3 ≤ 2147483647) (r_l4 : 0 ≤ l4 ∧ l4 ≤ 3) (z0 : l4 < mG M 134 0) (lpBM : BM M (l2)) (p_F12 : F12 M) (p_NP : NP M) (p_SF : SF M) (p_WF : WF M) (hf125 : 4 - l4 < (fu125 : Int) + 1) (iM : I n M) (kM : Keep n W_X9_settle Me M) : wp (bX9_settle_125 k125 126 l1 l2 l3 l4 M) (fun q => I n q.2 ∧ Keep n W_X9_settle Me q.2 ∧ ((-2147483648) ≤ q.1 ∧ q.1 ≤ 2147483647) ∧ True) := by
  have hn : (169 : Int) ≤ (n : Int) := by have := iM.2.2.2.2.1; omega
  unfold bX9_settle_125
  refine w_gFc (ji := 27) rfl (congrArg Prod.fst (kl_126 iM)) (show mG M 126 27 = 153 from rd_Model_27 iM (a := 126) rfl) ?_
  have w1_ := wI_id (x := (l4 + 1)) (by omega) (by omega)
  refine w_aG (kl_153 iM) (by omega) (by omega) (fun a133 ha133 => ?_)
  have ra133 : 0 ≤ a133 ∧ a133 ≤ 9 * (wI (l4 + 1)) := ha133.tr (P := fun z => 0 ≤ z ∧ z ≤ 9 * (wI (l4 + 1))) (rd_Mstart iM rfl (by omega) (by omega))
  refine w_if (fun c2_ => ?_) (fun c2_ => ?_)
  · skip
    refine w_gFc (ji := 10) rfl (congrArg Prod.fst (kl_126 iM)) (show mG M 126 10 = 136 from rd_Model_10 iM (a := 126) rfl) ?_
    refine w_aG (kl_136 iM) (by omega) (by omega) (fun a151 ha151 => ?_)
    have ra151 : (-1) ≤ a151 ∧ a151 ≤ 2 := ha151.tr (P := fun z => (-1) ≤ z ∧ z ≤ 2) (rd_MsecondKind iM rfl)
    refine w_gK (congrArg Prod.fst (kl_126 iM)) ?_
    refine w_call (s_X9_sizeOf ⟨by omega, by omega⟩ p_NP iM) ?_
    intro v152 m152 pp152
    obtain ⟨im152, kk152, e152_0, -⟩ := pp152
    try dsimp only
    replace im152 : I n m152 := im152
    replace kk152 : Keep n W_X9_sizeOf M m152 := kk152
    have km152 : Keep n W_X9_settle Me m152 := kM.tr kk152 (fun b j z => z.elim)
    replace e152_0 : 1 ≤ v152 ∧ v152 ≤ 3 := e152_0
    refine w_if (fun c3_ => ?_) (fun c3_ => ?_)
    · skip
      exact w_ret ⟨im152, km152, (show (-2147483648) ≤ l4 ∧ l4 ≤ 2147483647 from ⟨by omega, by omega⟩), trivial⟩
    · skip
      refine w_if (fun c4_ => ?_) (fun c4_ => ?_)
      · skip
        refine w_gFc (ji := 27) rfl (congrArg Prod.fst (kl_126 im152)) (show mG m152 126 27 = 153 from rd_Model_27 im152 (a := 126) rfl) ?_
        refine w_aG (kl_153 im152) (by omega) (by omega) (fun a178 ha178 => ?_)
        have ra178 : 0 ≤ a178 ∧ a178 ≤ 9 * l4 := ha178.tr (P := fun z => 0 ≤ z ∧ z ≤ 9 * l4) (rd_Mstart im152 rfl (by omega) (by omega))
        have w5_ := wI_id (x := (l2 - a178)) (by omega) (by omega)
        refine w_dQ (by omega) (fun a182 ha182 => ?_)
        have ra182 : (-2147483648) ≤ a182 ∧ a182 < 2147483648 := by rw [ha182]; exact idiv_in _ _
        exact w_ret ⟨im152, km152, (show (-2147483648) ≤ a182 ∧ a182 ≤ 2147483647 from ⟨by omega, by omega⟩), trivial⟩
      · skip
        refine w_if (fun c6_ => ?_) (fun c6_ => ?_)
        · skip
          exact w_ret ⟨im152, km152, (show (-2147483648) ≤ l3 ∧ l3 ≤ 2147483647 from ⟨by omega, by omega⟩), trivial⟩
        · skip
          refine w_gFc (ji := 10) rfl (congrArg Prod.fst (kl_126 im152)) (show mG m152 126 10 = 136 from rd_Model_10 im152 (a := 126) rfl) ?_
          refine w_aGc (kl_136 im152) (by omega) (by omega) (show mG m152 136 l4 = a151 from ((kk152.2.2 136 l4 (by omega) (fun z => z)).trans (show mG M 136 l4 = a151 from ha151))) ?_
          refine w_if (fun c7_ => ?_) (fun c7_ => ?_)
          · skip
            exact w_ret ⟨im152, km152, (show (-2147483648) ≤ (-1) ∧ (-1) ≤ 2147483647 from ⟨by omega, by omega⟩), trivial⟩
          · skip
            refine w_gFc (ji := 27) rfl (congrArg Prod.fst (kl_126 im152)) (show mG m152 126 27 = 153 from rd_Model_27 im152 (a := 126) rfl) ?_
            refine w_aG (kl_153 im152) (by omega) (by omega) (fun a217 ha217 => ?_)
            have ra217 : 0 ≤ a217 ∧ a217 ≤ 9 * l4 := ha217.tr (P := fun z => 0 ≤ z ∧ z ≤ 9 * l4) (rd_Mstart im152 rfl (by omega) (by omega))
            have w8_ := wI_id (x := (l2 - a217)) (by omega) (by omega)
            refine w_dM (by omega) (fun a221 ha221 => ?_)
            have ra221 : (-2147483648) ≤ a221 ∧ a221 < 2147483648 := by rw [ha221]; exact irem_in _ _
            exact w_ret ⟨im152, km152, (show (-2147483648) ≤ a221 ∧ a221 ≤ 2147483647 from ⟨by omega, by omega⟩), trivial⟩
  · skip
    have rr := rd_Mrelations (i := 0) iM (a := 134) rfl
    have lt9 : l4 + 1 < mG M 134 0 := Int.lt_iff_le_and_ne.mpr ⟨by omega, fun e => by have e2 := ha133.e; have b := lpBM.1; rw [wI_id (x := l4 + 1) (by omega) (by omega), e] at e2; omega⟩
    exact hk125 _ _ _ _ _ ⟨by omega, by omega⟩ ⟨by omega, by omega⟩ ⟨by omega, by omega⟩ ⟨by omega, by omega⟩ (by rw [wI_id (x := l4 + 1) (by omega) (by omega)]; exact lt9) (BM.mono lpBM (by omega)) p_F12 p_NP p_SF p_WF (by omega) iM kM
theorem s_X9_settle_125 {n : Nat} {Me : Mem} : ∀ (fu : Nat) (l1 l2 l3 l4 : Int) (M : Mem), (0 ≤ l1 ∧ l1 ≤ 3) → ((-1) ≤ l2 ∧ l2 ≤ 11) → ((-2147483648) ≤ l3 ∧ l3 ≤ 2147483647) → (0 ≤ l4 ∧ l4 ≤ 3) → (l4 < mG M 134 0) → (BM M (l2)) → (F12 M) → (NP M) → (SF M) → (WF M) → 4 - l4 < (fu : Int) → I n M → Keep n W_X9_settle Me M → wp (mX9_settle_125 fu 126 l1 l2 l3 l4 M) (fun q => I n q.2 ∧ Keep n W_X9_settle Me q.2 ∧ ((-2147483648) ≤ q.1 ∧ q.1 ≤ 2147483647) ∧ True) := by
  intro fu
  induction fu with
  | zero =>
    intro l1 l2 l3 l4 M r_l1 r_l2 r_l3 r_l4 z0 lpBM p_F12 p_NP p_SF p_WF hf iM kM
    exfalso
    omega
  | succ fu ih =>
    intro l1 l2 l3 l4 M r_l1 r_l2 r_l3 r_l4 z0 lpBM p_F12 p_NP p_SF p_WF hf iM kM
    exact sb_X9_settle_125 ih r_l1 r_l2 r_l3 r_l4 z0 lpBM p_F12 p_NP p_SF p_WF (by have e : ((fu + 1 : Nat) : Int) = (fu : Int) + 1 := rfl; rw [e] at hf; exact hf) iM kM
theorem s_X9_settle_116 {n : Nat} {Me : Mem} {k50 : Int → Int → Int → Int → Int → Mem → Option (Int × Mem)} {fu50 : Nat} (hk50 : ∀ (l1 l2 l3 l4 : Int) (M : Mem), (0 ≤ l1 ∧ l1 ≤ 3) → ((-1) ≤ l2 ∧ l2 ≤ 11) → ((-2147483648) ≤ l3 ∧ l3 ≤ 2147483647) → (0 ≤ l4 ∧ l4 ≤ 12) → (l2 < l4) → (BM M (l2)) → (F12 M) → (NP M) → (SF M) → (WF M) → 13 - l4 < (fu50 : Int) → I n M → Keep n W_X9_settle Me M → wp (k50 126 l1 l2 l3 l4 M) (fun q => I n q.2 ∧ Keep n W_X9_settle Me q.2 ∧ ((-2147483648) ≤ q.1 ∧ q.1 ≤ 2147483647) ∧ True)) {l1 l2 l3 l4 : Int} {M : Mem} (r_l1 : 0 ≤ l1 ∧ l1 ≤ 3) (r_l2 : 0 ≤ l2 ∧ l2 ≤ 11) (r_l3 : (-2147483648) ≤ l3 ∧ l3 ≤ 2147483647) (r_l4 : 0 ≤ l4 ∧ l4 ≤ 11) (z0 : l2 ≤ l4) (lpBM : BM M (l2)) (p_F12 : F12 M) (p_NP : NP M) (p_SF : SF M) (p_WF : WF M) (hf50 : 13 - l4 < (fu50 : Int) + 1) (iM : I n M) (kM : Keep n W_X9_settle Me M) : wp (mX9_settle_116 k50 126 l1 l2 l3 l4 M) (fun q => I n q.2 ∧ Keep n W_X9_settle Me q.2 ∧ ((-2147483648) ≤ q.1 ∧ q.1 ≤ 2147483647) ∧ True) := by
  have hn : (169 : Int) ≤ (n : Int) := by have := iM.2.2.2.2.1; omega
  unfold mX9_settle_116
  have w1_ := wI_id (x := (l4 + 1)) (by omega) (by omega)
  exact hk50 _ _ _ _ _ ⟨by omega, by omega⟩ ⟨by omega, by omega⟩ ⟨by omega, by omega⟩ ⟨by omega, by omega⟩ (by all_goals omega) (BM.mono lpBM (by omega)) p_F12 p_NP p_SF p_WF (by omega) iM kM
theorem s_X9_settle_110 {n : Nat} {Me : Mem} {k50 : Int → Int → Int → Int → Int → Mem → Option (Int × Mem)} {fu50 : Nat} (hk50 : ∀ (l1 l2 l3 l4 : Int) (M : Mem), (0 ≤ l1 ∧ l1 ≤ 3) → ((-1) ≤ l2 ∧ l2 ≤ 11) → ((-2147483648) ≤ l3 ∧ l3 ≤ 2147483647) → (0 ≤ l4 ∧ l4 ≤ 12) → (l2 < l4) → (BM M (l2)) → (F12 M) → (NP M) → (SF M) → (WF M) → 13 - l4 < (fu50 : Int) → I n M → Keep n W_X9_settle Me M → wp (k50 126 l1 l2 l3 l4 M) (fun q => I n q.2 ∧ Keep n W_X9_settle Me q.2 ∧ ((-2147483648) ≤ q.1 ∧ q.1 ≤ 2147483647) ∧ True)) {l1 l4 l5 : Int} {M : Mem} (r_l1 : 0 ≤ l1 ∧ l1 ≤ 3) (r_l4 : 0 ≤ l4 ∧ l4 ≤ 11) (r_l5 : (-2147483648) ≤ l5 ∧ l5 ≤ 2147483647) (lpBM : BM M (l4)) (p_F12 : F12 M) (p_NP : NP M) (p_SF : SF M) (p_WF : WF M) (hf50 : 13 - l4 < (fu50 : Int) + 1) (iM : I n M) (kM : Keep n W_X9_settle Me M) : wp (mX9_settle_110 k50 126 l1 l4 l5 M) (fun q => I n q.2 ∧ Keep n W_X9_settle Me q.2 ∧ ((-2147483648) ≤ q.1 ∧ q.1 ≤ 2147483647) ∧ True) := by
  have hn : (169 : Int) ≤ (n : Int) := by have := iM.2.2.2.2.1; omega
  unfold mX9_settle_110
  exact s_X9_settle_116 hk50 ⟨by omega, by omega⟩ ⟨by omega, by omega⟩ ⟨by omega, by omega⟩ ⟨by omega, by omega⟩ (by all_goals omega) (BM.mono lpBM (by omega)) p_F12 p_NP p_SF p_WF (by omega) iM kM
theorem s_X9_settle_97 {n : Nat} {Me : Mem} {k50 : Int → Int → Int → Int → Int → Mem → Option (Int × Mem)} {fu50 : Nat} (hk50 : ∀ (l1 l2 l3 l4 : Int) (M : Mem), (0 ≤ l1 ∧ l1 ≤ 3) → ((-1) ≤ l2 ∧ l2 ≤ 11) → ((-2147483648) ≤ l3 ∧ l3 ≤ 2147483647) → (0 ≤ l4 ∧ l4 ≤ 12) → (l2 < l4) → (BM M (l2)) → (F12 M) → (NP M) → (SF M) → (WF M) → 13 - l4 < (fu50 : Int) → I n M → Keep n W_X9_settle Me M → wp (k50 126 l1 l2 l3 l4 M) (fun q => I n q.2 ∧ Keep n W_X9_settle Me q.2 ∧ ((-2147483648) ≤ q.1 ∧ q.1 ≤ 2147483647) ∧ True)) {l1 l2 l3 l4 s0 : Int} {M : Mem} (r_l1 : 0 ≤ l1 ∧ l1 ≤ 3) (r_l2 : (-1) ≤ l2 ∧ l2 ≤ 11) (r_l3 : (-2147483648) ≤ l3 ∧ l3 ≤ 2147483647) (r_l4 : 0 ≤ l4 ∧ l4 ≤ 11) (r_s0 : (-2147483648) ≤ s0 ∧ s0 ≤ 2147483647) (z0 : l2 < l4) (lpBM : BM M (l4)) (p_F12 : F12 M) (p_NP : NP M) (p_SF : SF M) (p_WF : WF M) (hf50 : 13 - l4 < (fu50 : Int) + 1) (iM : I n M) (kM : Keep n W_X9_settle Me M) : wp (mX9_settle_97 k50 126 l1 l2 l3 l4 s0 M) (fun q => I n q.2 ∧ Keep n W_X9_settle Me q.2 ∧ ((-2147483648) ≤ q.1 ∧ q.1 ≤ 2147483647) ∧ True) := by
  have hn : (169 : Int) ≤ (n : Int) := by have := iM.2.2.2.2.1; omega
  unfold mX9_settle_97
  refine w_if (fun c1_ => ?_) (fun c1_ => ?_)
  · skip
    exact s_X9_settle_110 hk50 ⟨by omega, by omega⟩ ⟨by omega, by omega⟩ ⟨by omega, by omega⟩ (BM.mono lpBM (by omega)) p_F12 p_NP p_SF p_WF (by omega) iM kM
  · skip
    refine w_if (fun c2_ => ?_) (fun c2_ => ?_)
    · skip
      exact s_X9_settle_116 hk50 ⟨by omega, by omega⟩ ⟨by omega, by omega⟩ ⟨by omega, by omega⟩ ⟨by omega, by omega⟩ (by all_goals omega) (BM.mono lpBM (by omega)) p_F12 p_NP p_SF p_WF (by omega) iM kM
    · skip
      exact s_X9_settle_110 hk50 ⟨by omega, by omega⟩ ⟨by omega, by omega⟩ ⟨by omega, by omega⟩ (BM.mono lpBM (by omega)) p_F12 p_NP p_SF p_WF (by omega) iM kM
theorem sb_X9_settle_50 {n : Nat} {Me : Mem} {k50 : Int → Int → Int → Int → Int → Mem → Option (Int × Mem)} {fu50 : Nat} (hk50 : ∀ (l1 l2 l3 l4 : Int) (M : Mem), (0 ≤ l1 ∧ l1 ≤ 3) → ((-1) ≤ l2 ∧ l2 ≤ 11) → ((-2147483648) ≤ l3 ∧ l3 ≤ 2147483647) → (0 ≤ l4 ∧ l4 ≤ 12) → (l2 < l4) → (BM M (l2)) → (F12 M) → (NP M) → (SF M) → (WF M) → 13 - l4 < (fu50 : Int) → I n M → Keep n W_X9_settle Me M → wp (k50 126 l1 l2 l3 l4 M) (fun q => I n q.2 ∧ Keep n W_X9_settle Me q.2 ∧ ((-2147483648) ≤ q.1 ∧ q.1 ≤ 2147483647) ∧ True)) {l1 l2 l3 l4 : Int} {M : Mem} (r_l1 : 0 ≤ l1 ∧ l1 ≤ 3) (r_l2 : (-1) ≤ l2 ∧ l2 ≤ 11) (r_l3 : (-2147483648) ≤ l3 ∧ l3 ≤ 2147483647) (r_l4 : 0 ≤ l4 ∧ l4 ≤ 12) (z0 : l2 < l4) (lpBM : BM M (l2)) (p_F12 : F12 M) (p_NP : NP M) (p_SF : SF M) (p_WF : WF M) (hf50 : 13 - l4 < (fu50 : Int) + 1) (iM : I n M) (kM : Keep n W_X9_settle Me M) : wp (bX9_settle_50 k50 126 l1 l2 l3 l4 M) (fun q => I n q.2 ∧ Keep n W_X9_settle Me q.2 ∧ ((-2147483648) ≤ q.1 ∧ q.1 ≤ 2147483647) ∧ True) := by
  have hn : (169 : Int) ≤ (n : Int) := by have := iM.2.2.2.2.1; omega
  unfold bX9_settle_50
  refine w_gK (congrArg Prod.fst (kl_126 iM)) ?_
  refine w_call (s_X9_manyFacts iM) ?_
  intro v53 m53 pp53
  obtain ⟨im53, kk53, e53_0, e53_1, -⟩ := pp53
  try dsimp only
  replace im53 : I n m53 := im53
  replace kk53 : Keep n W_X9_manyFacts M m53 := kk53
  have km53 : Keep n W_X9_settle Me m53 := kM.tr kk53 (fun b j z => z.elim)
  replace e53_0 : 0 ≤ v53 ∧ v53 ≤ 36 := e53_0
  replace e53_1 : v53 = mG m53 153 (mG m53 134 0) := e53_1
  have ev53 := e53_1
  have ppF12_m53 : F12 m53 := (F12_of p_F12 (fun j => kk53.2.2 153 j (by omega) (fun z => z)) (fun j => kk53.2.2 134 j (by omega) (fun z => z)))
  have fv53 : v53 ≤ 12 := by rw [ev53]; exact ppF12_m53
  refine w_if (fun c1_ => ?_) (fun c1_ => ?_)
  · skip
    have lp2_ : BM m53 (l2) := (BM_of lpBM (fun j => kk53.2.2 153 j (by omega) (fun z => z)) (fun j => kk53.2.2 134 j (by omega) (fun z => z)))
    have ppNP_m53 : NP m53 := (NP_of p_NP (fun j => kk53.2.2 152 j (by omega) (fun z => z)))
    have ppSF_m53 : SF m53 := (SF_of p_SF (fun j => kk53.2.2 153 j (by omega) (fun z => z)) (fun j => kk53.2.2 134 j (by omega) (fun z => z)) (fun j => kk53.2.2 133 j (by omega) (fun z => z)) (fun j => kk53.2.2 135 j (by omega) (fun z => z)) (fun j => kk53.2.2 136 j (by omega) (fun z => z)) (fun j => kk53.2.2 152 j (by omega) (fun z => z)))
    have ppWF_m53 : WF m53 := (WF_of p_WF (fun j => kk53.2.2 141 j (by omega) (fun z => z)) (fun j => kk53.2.2 142 j (by omega) (fun z => z)) (fun j => kk53.2.2 143 j (by omega) (fun z => z)) (fun j => kk53.2.2 144 j (by omega) (fun z => z)) (fun j => kk53.2.2 138 j (by omega) (fun z => z)))
    exact s_X9_settle_125 FU _ _ _ _ _ ⟨by omega, by omega⟩ ⟨by omega, by omega⟩ ⟨by omega, by omega⟩ ⟨by omega, by omega⟩ lp2_.2 (BM.mono lp2_ (by omega)) ppF12_m53 ppNP_m53 ppSF_m53 ppWF_m53 (by show _ < (70000 : Int); omega) im53 km53
  · skip
    have lp3_ : BM m53 (l4) := BM.mk im53 ev53 (by omega) (by omega)
    refine w_gFc (ji := 56) rfl (congrArg Prod.fst (kl_126 im53)) (show mG m53 126 56 = 164 from rd_Model_56 im53 (a := 126) rfl) ?_
    refine w_aG (kl_164 im53) (by omega) (by omega) (fun a66 ha66 => ?_)
    have ra66 : (-2147483648) ≤ a66 ∧ a66 ≤ 2147483647 := ha66.tr (P := fun z => (-2147483648) ≤ z ∧ z ≤ 2147483647) (rd_Moften im53 rfl)
    refine w_gF (ji := 57) rfl (congrArg Prod.fst (kl_126 im53)) (fun a69 ha69 => ?_)
    have ra69 : (-2147483648) ≤ a69 ∧ a69 ≤ 2147483647 := ha69.tr (P := fun z => (-2147483648) ≤ z ∧ z ≤ 2147483647) (rd_Model_57 im53 rfl)
    have w4_ := And.intro (wI_lo (2 * a66)) (wI_hi (2 * a66))
    refine w_if (fun c5_ => ?_) (fun c5_ => ?_)
    · skip
      refine w_gFc (ji := 57) rfl (congrArg Prod.fst (kl_126 im53)) (show mG m53 126 57 = a69 from (show mG m53 126 57 = a69 from ha69)) ?_
      refine w_gFc (ji := 56) rfl (congrArg Prod.fst (kl_126 im53)) (show mG m53 126 56 = 164 from rd_Model_56 im53 (a := 126) rfl) ?_
      refine w_aGc (kl_164 im53) (by omega) (by omega) (show mG m53 164 l4 = a66 from (show mG m53 164 l4 = a66 from ha66)) ?_
      have w6_ := And.intro (wI_lo (a69 - a66)) (wI_hi (a69 - a66))
      have lp7_ : BM m53 (l2) := (BM_of lpBM (fun j => kk53.2.2 153 j (by omega) (fun z => z)) (fun j => kk53.2.2 134 j (by omega) (fun z => z)))
      have ppNP_m53 : NP m53 := (NP_of p_NP (fun j => kk53.2.2 152 j (by omega) (fun z => z)))
      have ppSF_m53 : SF m53 := (SF_of p_SF (fun j => kk53.2.2 153 j (by omega) (fun z => z)) (fun j => kk53.2.2 134 j (by omega) (fun z => z)) (fun j => kk53.2.2 133 j (by omega) (fun z => z)) (fun j => kk53.2.2 135 j (by omega) (fun z => z)) (fun j => kk53.2.2 136 j (by omega) (fun z => z)) (fun j => kk53.2.2 152 j (by omega) (fun z => z)))
      have ppWF_m53 : WF m53 := (WF_of p_WF (fun j => kk53.2.2 141 j (by omega) (fun z => z)) (fun j => kk53.2.2 142 j (by omega) (fun z => z)) (fun j => kk53.2.2 143 j (by omega) (fun z => z)) (fun j => kk53.2.2 144 j (by omega) (fun z => z)) (fun j => kk53.2.2 138 j (by omega) (fun z => z)))
      exact s_X9_settle_97 hk50 ⟨by omega, by omega⟩ ⟨by omega, by omega⟩ ⟨by omega, by omega⟩ ⟨by omega, by omega⟩ ⟨by omega, by omega⟩ (by all_goals omega) (BM.mono lp3_ (by omega)) ppF12_m53 ppNP_m53 ppSF_m53 ppWF_m53 (by omega) im53 km53
    · skip
      refine w_gFc (ji := 56) rfl (congrArg Prod.fst (kl_126 im53)) (show mG m53 126 56 = 164 from rd_Model_56 im53 (a := 126) rfl) ?_
      refine w_aGc (kl_164 im53) (by omega) (by omega) (show mG m53 164 l4 = a66 from (show mG m53 164 l4 = a66 from ha66)) ?_
      have lp8_ : BM m53 (l2) := (BM_of lpBM (fun j => kk53.2.2 153 j (by omega) (fun z => z)) (fun j => kk53.2.2 134 j (by omega) (fun z => z)))
      have ppNP_m53 : NP m53 := (NP_of p_NP (fun j => kk53.2.2 152 j (by omega) (fun z => z)))
      have ppSF_m53 : SF m53 := (SF_of p_SF (fun j => kk53.2.2 153 j (by omega) (fun z => z)) (fun j => kk53.2.2 134 j (by omega) (fun z => z)) (fun j => kk53.2.2 133 j (by omega) (fun z => z)) (fun j => kk53.2.2 135 j (by omega) (fun z => z)) (fun j => kk53.2.2 136 j (by omega) (fun z => z)) (fun j => kk53.2.2 152 j (by omega) (fun z => z)))
      have ppWF_m53 : WF m53 := (WF_of p_WF (fun j => kk53.2.2 141 j (by omega) (fun z => z)) (fun j => kk53.2.2 142 j (by omega) (fun z => z)) (fun j => kk53.2.2 143 j (by omega) (fun z => z)) (fun j => kk53.2.2 144 j (by omega) (fun z => z)) (fun j => kk53.2.2 138 j (by omega) (fun z => z)))
      exact s_X9_settle_97 hk50 ⟨by omega, by omega⟩ ⟨by omega, by omega⟩ ⟨by omega, by omega⟩ ⟨by omega, by omega⟩ ⟨by omega, by omega⟩ (by all_goals omega) (BM.mono lp3_ (by omega)) ppF12_m53 ppNP_m53 ppSF_m53 ppWF_m53 (by omega) im53 km53
theorem s_X9_settle_50 {n : Nat} {Me : Mem} : ∀ (fu : Nat) (l1 l2 l3 l4 : Int) (M : Mem), (0 ≤ l1 ∧ l1 ≤ 3) → ((-1) ≤ l2 ∧ l2 ≤ 11) → ((-2147483648) ≤ l3 ∧ l3 ≤ 2147483647) → (0 ≤ l4 ∧ l4 ≤ 12) → (l2 < l4) → (BM M (l2)) → (F12 M) → (NP M) → (SF M) → (WF M) → 13 - l4 < (fu : Int) → I n M → Keep n W_X9_settle Me M → wp (mX9_settle_50 fu 126 l1 l2 l3 l4 M) (fun q => I n q.2 ∧ Keep n W_X9_settle Me q.2 ∧ ((-2147483648) ≤ q.1 ∧ q.1 ≤ 2147483647) ∧ True) := by
  intro fu
  induction fu with
  | zero =>
    intro l1 l2 l3 l4 M r_l1 r_l2 r_l3 r_l4 z0 lpBM p_F12 p_NP p_SF p_WF hf iM kM
    exfalso
    omega
  | succ fu ih =>
    intro l1 l2 l3 l4 M r_l1 r_l2 r_l3 r_l4 z0 lpBM p_F12 p_NP p_SF p_WF hf iM kM
    exact sb_X9_settle_50 ih r_l1 r_l2 r_l3 r_l4 z0 lpBM p_F12 p_NP p_SF p_WF (by have e : ((fu + 1 : Nat) : Int) = (fu : Int) + 1 := rfl; rw [e] at hf; exact hf) iM kM
theorem s_X9_settle {n : Nat} {l1 : Int} {M : Mem} (r_l1 : (-2147483648) ≤ l1 ∧ l1 ≤ 2147483647) (p_WF : WF M) (iM : I n M) : wp (mX9_settle 126 l1 M) (fun q => I n q.2 ∧ Keep n W_X9_settle M q.2 ∧ ((-2147483648) ≤ q.1 ∧ q.1 ≤ 2147483647) ∧ True) := by
  have hn : (169 : Int) ≤ (n : Int) := by have := iM.2.2.2.2.1; omega
  have kM : Keep n W_X9_settle M M := Keep.rf
  unfold mX9_settle
  refine w_pF (ji := 0) rfl (congrArg Prod.fst (kl_126 iM)) (fun M2 hM2 => ?_)
  replace hM2 : M2 = mS M 126 0 0 := hM2
  have iM2 : I n M2 := wr_Model_0 iM rfl ⟨by omega, by omega⟩ hM2
  have kM2 : Keep n W_X9_settle M M2 := kM.st hM2 (Or.inl (Or.inr (Or.inr (Or.inr (Or.inl ⟨rfl, rfl⟩)))))
  refine w_gK (congrArg Prod.fst (kl_126 iM2)) ?_
  refine w_call (s_X9_canTell iM2) ?_
  intro v6 m6 pp6
  obtain ⟨im6, kk6, e6_0, e6_1, e6_2, e6_3, -⟩ := pp6
  try dsimp only
  replace im6 : I n m6 := im6
  replace kk6 : Keep n W_X9_canTell M2 m6 := kk6
  have km6 : Keep n W_X9_settle M m6 := kM2.tr kk6 (fun b j z => by unfold W_X9_canTell at z; exact (Or.inl ⟨by omega, by omega⟩))
  replace e6_0 : 0 ≤ v6 ∧ v6 ≤ 1 := e6_0
  replace e6_1 : NP m6 := e6_1
  have gNP_m6 := e6_1
  replace e6_2 : SF m6 := e6_2
  have gSF_m6 := e6_2
  replace e6_3 : v6 = 1 → F12 m6 := e6_3
  have ev6 := e6_3
  refine w_if (fun c1_ => ?_) (fun c1_ => ?_)
  · skip
    exact w_ret ⟨im6, km6, (show (-2147483648) ≤ (-1) ∧ (-1) ≤ 2147483647 from ⟨by omega, by omega⟩), trivial⟩
  · skip
    have pF12_c1__m6 : F12 m6 := ev6 (by omega)
    refine w_gK (congrArg Prod.fst (kl_126 im6)) ?_
    refine w_call (s_X9_manyFacts im6) ?_
    intro v13 m13 pp13
    obtain ⟨im13, kk13, e13_0, e13_1, -⟩ := pp13
    try dsimp only
    replace im13 : I n m13 := im13
    replace kk13 : Keep n W_X9_manyFacts m6 m13 := kk13
    have km13 : Keep n W_X9_settle M m13 := km6.tr kk13 (fun b j z => z.elim)
    replace e13_0 : 0 ≤ v13 ∧ v13 ≤ 36 := e13_0
    replace e13_1 : v13 = mG m13 153 (mG m13 134 0) := e13_1
    have ev13 := e13_1
    have ppF12_m13 : F12 m13 := (F12_of pF12_c1__m6 (fun j => kk13.2.2 153 j (by omega) (fun z => z)) (fun j => kk13.2.2 134 j (by omega) (fun z => z)))
    have fv13 : v13 ≤ 12 := by rw [ev13]; exact ppF12_m13
    refine w_if (fun c2_ => ?_) (fun c2_ => ?_)
    · skip
      exact w_ret ⟨im13, km13, (show (-2147483648) ≤ (-1) ∧ (-1) ≤ 2147483647 from ⟨by omega, by omega⟩), trivial⟩
    · skip
      have lp3_ : BM m13 (0) := BM.mk im13 ev13 (by omega) (by omega)
      refine w_call (s_X9_in ⟨by omega, by omega⟩ ⟨by omega, by omega⟩ ⟨by omega, by omega⟩ im13) ?_
      intro v22 m22 pp22
      obtain ⟨im22, kk22, e22_0, e22_1, -⟩ := pp22
      try dsimp only
      replace im22 : I n m22 := im22
      replace kk22 : Keep n W_X9_in m13 m22 := kk22
      have km22 : Keep n W_X9_settle M m22 := km13.tr kk22 (fun b j z => z.elim)
      replace e22_0 : 0 ≤ v22 ∧ v22 ≤ 1 := e22_0
      replace e22_1 : v22 = 1 → 0 ≤ l1 ∧ l1 ≤ 3 := e22_1
      refine w_if (fun c4_ => ?_) (fun c4_ => ?_)
      · skip
        exact w_ret ⟨im22, km22, (show (-2147483648) ≤ (-1) ∧ (-1) ≤ 2147483647 from ⟨by omega, by omega⟩), trivial⟩
      · skip
        refine w_gK (congrArg Prod.fst (kl_126 im22)) ?_
        have ppF12_m22 : F12 m22 := (F12_of ppF12_m13 (fun j => kk22.2.2 153 j (by omega) (fun z => z)) (fun j => kk22.2.2 134 j (by omega) (fun z => z)))
        have ppNP_m22 : NP m22 := (NP_of (NP_of gNP_m6 (fun j => kk13.2.2 152 j (by omega) (fun z => z))) (fun j => kk22.2.2 152 j (by omega) (fun z => z)))
        have ppWF_m22 : WF m22 := (WF_of (WF_of (WF_of (WF_of p_WF (fun j => st_ne hM2 (fun z => ne_fam rfl rfl (by decide) z.1)) (fun j => st_ne hM2 (fun z => ne_fam rfl rfl (by decide) z.1)) (fun j => st_ne hM2 (fun z => ne_fam rfl rfl (by decide) z.1)) (fun j => st_ne hM2 (fun z => ne_fam rfl rfl (by decide) z.1)) (fun j => st_ne hM2 (fun z => ne_fam rfl rfl (by decide) z.1))) (fun j => kk6.2.2 141 j (by omega) (fun z => by unfold W_X9_canTell at z; (try unfold isWS at z); (try unfold isShape at z); (try unfold isTold at z); (try dsimp only at z); omega)) (fun j => kk6.2.2 142 j (by omega) (fun z => by unfold W_X9_canTell at z; (try unfold isWS at z); (try unfold isShape at z); (try unfold isTold at z); (try dsimp only at z); omega)) (fun j => kk6.2.2 143 j (by omega) (fun z => by unfold W_X9_canTell at z; (try unfold isWS at z); (try unfold isShape at z); (try unfold isTold at z); (try dsimp only at z); omega)) (fun j => kk6.2.2 144 j (by omega) (fun z => by unfold W_X9_canTell at z; (try unfold isWS at z); (try unfold isShape at z); (try unfold isTold at z); (try dsimp only at z); omega)) (fun j => kk6.2.2 138 j (by omega) (fun z => by unfold W_X9_canTell at z; (try unfold isWS at z); (try unfold isShape at z); (try unfold isTold at z); (try dsimp only at z); omega))) (fun j => kk13.2.2 141 j (by omega) (fun z => z)) (fun j => kk13.2.2 142 j (by omega) (fun z => z)) (fun j => kk13.2.2 143 j (by omega) (fun z => z)) (fun j => kk13.2.2 144 j (by omega) (fun z => z)) (fun j => kk13.2.2 138 j (by omega) (fun z => z))) (fun j => kk22.2.2 141 j (by omega) (fun z => z)) (fun j => kk22.2.2 142 j (by omega) (fun z => z)) (fun j => kk22.2.2 143 j (by omega) (fun z => z)) (fun j => kk22.2.2 144 j (by omega) (fun z => z)) (fun j => kk22.2.2 138 j (by omega) (fun z => z)))
        refine w_call (s_X9_countFacts ppF12_m22 ppNP_m22 ppWF_m22 im22) ?_
        intro v31 m31 pp31
        obtain ⟨im31, kk31, -⟩ := pp31
        try dsimp only
        replace im31 : I n m31 := im31
        replace kk31 : Keep n W_X9_countFacts m22 m31 := kk31
        have km31 : Keep n W_X9_settle M m31 := km22.tr kk31 (fun b j z => Or.elim z (fun z => (Or.inl ⟨by omega, by omega⟩)) (fun z => Or.elim z (fun z => (Or.inr (Or.inl z))) (fun z => Or.elim z (fun z => (Or.inr (Or.inr (Or.inl z)))) (fun z => Or.elim z (fun z => (Or.inr (Or.inr (Or.inr (Or.inr (Or.inl z)))))) (fun z => Or.elim z (fun z => (Or.inr (Or.inr (Or.inr (Or.inr (Or.inr (Or.inl z))))))) (fun z => Or.elim z (fun z => (Or.inr (Or.inr (Or.inr (Or.inr (Or.inr (Or.inr (Or.inl z)))))))) (fun z => Or.elim z (fun z => (Or.inr (Or.inr (Or.inr (Or.inr (Or.inr (Or.inr (Or.inr (Or.inl z))))))))) (fun z => (Or.inr (Or.inr (Or.inr (Or.inr (Or.inr (Or.inr (Or.inr (Or.inr z))))))))))))))))
        refine w_gF (ji := 57) rfl (congrArg Prod.fst (kl_126 im31)) (fun a35 ha35 => ?_)
        have ra35 : (-2147483648) ≤ a35 ∧ a35 ≤ 2147483647 := ha35.tr (P := fun z => (-2147483648) ≤ z ∧ z ≤ 2147483647) (rd_Model_57 im31 rfl)
        refine w_if (fun c5_ => ?_) (fun c5_ => ?_)
        · skip
          exact w_ret ⟨im31, km31, (show (-2147483648) ≤ (-1) ∧ (-1) ≤ 2147483647 from ⟨by omega, by omega⟩), trivial⟩
        · skip
          have lp6_ : BM m31 (0) := (BM_of (BM_of lp3_ (fun j => kk22.2.2 153 j (by omega) (fun z => z)) (fun j => kk22.2.2 134 j (by omega) (fun z => z))) (fun j => kk31.2.2 153 j (by omega) (fun z => by unfold W_X9_countFacts at z; (try unfold isWS at z); (try unfold isShape at z); (try unfold isTold at z); (try dsimp only at z); omega)) (fun j => kk31.2.2 134 j (by omega) (fun z => by unfold W_X9_countFacts at z; (try unfold isWS at z); (try unfold isShape at z); (try unfold isTold at z); (try dsimp only at z); omega)))
          have ppF12_m31 : F12 m31 := (F12_of ppF12_m22 (fun j => kk31.2.2 153 j (by omega) (fun z => by unfold W_X9_countFacts at z; (try unfold isWS at z); (try unfold isShape at z); (try unfold isTold at z); (try dsimp only at z); omega)) (fun j => kk31.2.2 134 j (by omega) (fun z => by unfold W_X9_countFacts at z; (try unfold isWS at z); (try unfold isShape at z); (try unfold isTold at z); (try dsimp only at z); omega)))
          have ppNP_m31 : NP m31 := (NP_of ppNP_m22 (fun j => kk31.2.2 152 j (by omega) (fun z => by unfold W_X9_countFacts at z; (try unfold isWS at z); (try unfold isShape at z); (try unfold isTold at z); (try dsimp only at z); omega)))
          have ppSF_m31 : SF m31 := (SF_of (SF_of (SF_of gSF_m6 (fun j => kk13.2.2 153 j (by omega) (fun z => z)) (fun j => kk13.2.2 134 j (by omega) (fun z => z)) (fun j => kk13.2.2 133 j (by omega) (fun z => z)) (fun j => kk13.2.2 135 j (by omega) (fun z => z)) (fun j => kk13.2.2 136 j (by omega) (fun z => z)) (fun j => kk13.2.2 152 j (by omega) (fun z => z))) (fun j => kk22.2.2 153 j (by omega) (fun z => z)) (fun j => kk22.2.2 134 j (by omega) (fun z => z)) (fun j => kk22.2.2 133 j (by omega) (fun z => z)) (fun j => kk22.2.2 135 j (by omega) (fun z => z)) (fun j => kk22.2.2 136 j (by omega) (fun z => z)) (fun j => kk22.2.2 152 j (by omega) (fun z => z))) (fun j => kk31.2.2 153 j (by omega) (fun z => by unfold W_X9_countFacts at z; (try unfold isWS at z); (try unfold isShape at z); (try unfold isTold at z); (try dsimp only at z); omega)) (fun j => kk31.2.2 134 j (by omega) (fun z => by unfold W_X9_countFacts at z; (try unfold isWS at z); (try unfold isShape at z); (try unfold isTold at z); (try dsimp only at z); omega)) (fun j => kk31.2.2 133 j (by omega) (fun z => by unfold W_X9_countFacts at z; (try unfold isWS at z); (try unfold isShape at z); (try unfold isTold at z); (try dsimp only at z); omega)) (fun j => kk31.2.2 135 j (by omega) (fun z => by unfold W_X9_countFacts at z; (try unfold isWS at z); (try unfold isShape at z); (try unfold isTold at z); (try dsimp only at z); omega)) (fun j => kk31.2.2 136 j (by omega) (fun z => by unfold W_X9_countFacts at z; (try unfold isWS at z); (try unfold isShape at z); (try unfold isTold at z); (try dsimp only at z); omega)) (fun j => kk31.2.2 152 j (by omega) (fun z => by unfold W_X9_countFacts at z; (try unfold isWS at z); (try unfold isShape at z); (try unfold isTold at z); (try dsimp only at z); omega)))
          have ppWF_m31 : WF m31 := (WF_of ppWF_m22 (fun j => kk31.2.2 141 j (by omega) (fun z => by unfold W_X9_countFacts at z; (try unfold isWS at z); (try unfold isShape at z); (try unfold isTold at z); (try dsimp only at z); omega)) (fun j => kk31.2.2 142 j (by omega) (fun z => by unfold W_X9_countFacts at z; (try unfold isWS at z); (try unfold isShape at z); (try unfold isTold at z); (try dsimp only at z); omega)) (fun j => kk31.2.2 143 j (by omega) (fun z => by unfold W_X9_countFacts at z; (try unfold isWS at z); (try unfold isShape at z); (try unfold isTold at z); (try dsimp only at z); omega)) (fun j => kk31.2.2 144 j (by omega) (fun z => by unfold W_X9_countFacts at z; (try unfold isWS at z); (try unfold isShape at z); (try unfold isTold at z); (try dsimp only at z); omega)) (fun j => kk31.2.2 138 j (by omega) (fun z => by unfold W_X9_countFacts at z; (try unfold isWS at z); (try unfold isShape at z); (try unfold isTold at z); (try dsimp only at z); omega)))
          exact s_X9_settle_50 FU _ _ _ _ _ ⟨by omega, by omega⟩ ⟨by omega, by omega⟩ ⟨by omega, by omega⟩ ⟨by omega, by omega⟩ (by all_goals omega) (BM.mono lp6_ (by omega)) ppF12_m31 ppNP_m31 ppSF_m31 ppWF_m31 (by show _ < (70000 : Int); omega) im31 km31
def W_X9_near (b j : Int) : Prop := b = 137 ∨ (152 ≤ b ∧ b ≤ 154) ∨ (160 ≤ b ∧ b ≤ 161) ∨ (b = 126 ∧ j = 0) ∨ (b = 126 ∧ j = 46) ∨ (b = 126 ∧ j = 48) ∨ (b = 126 ∧ j = 49) ∨ (b = 126 ∧ j = 50)
theorem s_X9_near_109 {n : Nat} {Me : Mem} {k24 : Int → Int → Int → Int → Mem → Option (Int × Mem)} {fu24 : Nat} (hk24 : ∀ (l1 l2 l3 : Int) (M : Mem), ((-1) ≤ l1 ∧ l1 ≤ 4095) → ((-2147483648) ≤ l2 ∧ l2 ≤ 2147483647) → (0 ≤ l3 ∧ l3 ≤ 4096) → (F12 M) → (NP M) → (SF M) → (WF M) → 4097 - l3 < (fu24 : Int) → I n M → Keep n W_X9_near Me M → wp (k24 126 l1 l2 l3 M) (fun q => I n q.2 ∧ Keep n W_X9_near Me q.2 ∧ ((-2147483648) ≤ q.1 ∧ q.1 ≤ 2147483647) ∧ True)) {l1 l2 l3 : Int} {M : Mem} (r_l1 : (-1) ≤ l1 ∧ l1 ≤ 4095) (r_l2 : (-2147483648) ≤ l2 ∧ l2 ≤ 2147483647) (r_l3 : 0 ≤ l3 ∧ l3 ≤ 4095) (p_F12 : F12 M) (p_NP : NP M) (p_SF : SF M) (p_WF : WF M) (hf24 : 4097 - l3 < (fu24 : Int) + 1) (iM : I n M) (kM : Keep n W_X9_near Me M) : wp (mX9_near_109 k24 126 l1 l2 l3 M) (fun q => I n q.2 ∧ Keep n W_X9_near Me q.2 ∧ ((-2147483648) ≤ q.1 ∧ q.1 ≤ 2147483647) ∧ True) := by
  have hn : (169 : Int) ≤ (n : Int) := by have := iM.2.2.2.2.1; omega
  unfold mX9_near_109
  have w1_ := wI_id (x := (l3 + 1)) (by omega) (by omega)
  exact hk24 _ _ _ _ ⟨by omega, by omega⟩ ⟨by omega, by omega⟩ ⟨by omega, by omega⟩ p_F12 p_NP p_SF p_WF (by omega) iM kM
theorem s_X9_near_104 {n : Nat} {Me : Mem} {k24 : Int → Int → Int → Int → Mem → Option (Int × Mem)} {fu24 : Nat} (hk24 : ∀ (l1 l2 l3 : Int) (M : Mem), ((-1) ≤ l1 ∧ l1 ≤ 4095) → ((-2147483648) ≤ l2 ∧ l2 ≤ 2147483647) → (0 ≤ l3 ∧ l3 ≤ 4096) → (F12 M) → (NP M) → (SF M) → (WF M) → 4097 - l3 < (fu24 : Int) → I n M → Keep n W_X9_near Me M → wp (k24 126 l1 l2 l3 M) (fun q => I n q.2 ∧ Keep n W_X9_near Me q.2 ∧ ((-2147483648) ≤ q.1 ∧ q.1 ≤ 2147483647) ∧ True)) {l3 l4 : Int} {M : Mem} (r_l3 : 0 ≤ l3 ∧ l3 ≤ 4095) (r_l4 : (-2147483648) ≤ l4 ∧ l4 ≤ 2147483647) (p_F12 : F12 M) (p_NP : NP M) (p_SF : SF M) (p_WF : WF M) (hf24 : 4097 - l3 < (fu24 : Int) + 1) (iM : I n M) (kM : Keep n W_X9_near Me M) : wp (mX9_near_104 k24 126 l3 l4 M) (fun q => I n q.2 ∧ Keep n W_X9_near Me q.2 ∧ ((-2147483648) ≤ q.1 ∧ q.1 ≤ 2147483647) ∧ True) := by
  have hn : (169 : Int) ≤ (n : Int) := by have := iM.2.2.2.2.1; omega
  unfold mX9_near_104
  exact s_X9_near_109 hk24 ⟨by omega, by omega⟩ ⟨by omega, by omega⟩ ⟨by omega, by omega⟩ p_F12 p_NP p_SF p_WF (by omega) iM kM
theorem s_X9_near_84 {n : Nat} {Me : Mem} {k24 : Int → Int → Int → Int → Mem → Option (Int × Mem)} {fu24 : Nat} (hk24 : ∀ (l1 l2 l3 : Int) (M : Mem), ((-1) ≤ l1 ∧ l1 ≤ 4095) → ((-2147483648) ≤ l2 ∧ l2 ≤ 2147483647) → (0 ≤ l3 ∧ l3 ≤ 4096) → (F12 M) → (NP M) → (SF M) → (WF M) → 4097 - l3 < (fu24 : Int) → I n M → Keep n W_X9_near Me M → wp (k24 126 l1 l2 l3 M) (fun q => I n q.2 ∧ Keep n W_X9_near Me q.2 ∧ ((-2147483648) ≤ q.1 ∧ q.1 ≤ 2147483647) ∧ True)) {k51 : Int → Int → Int → Int → Int → Int → Mem → Option (Int × Mem)} {fu51 : Nat} (hk51 : ∀ (l1 l2 l3 l4 l5 : Int) (M : Mem), ((-1) ≤ l1 ∧ l1 ≤ 4095) → ((-2147483648) ≤ l2 ∧ l2 ≤ 2147483647) → (0 ≤ l3 ∧ l3 ≤ 4095) → ((-2147483648) ≤ l4 ∧ l4 ≤ 2147483647) → (0 ≤ l5 ∧ l5 ≤ 12) → (F12 M) → (NP M) → (SF M) → (WF M) → 4097 - l3 < (fu24 : Int) + 1 → 13 - l5 < (fu51 : Int) → I n M → Keep n W_X9_near Me M → wp (k51 126 l1 l2 l3 l4 l5 M) (fun q => I n q.2 ∧ Keep n W_X9_near Me q.2 ∧ ((-2147483648) ≤ q.1 ∧ q.1 ≤ 2147483647) ∧ True)) {l1 l2 l3 l5 s0 s1 : Int} {M : Mem} (r_l1 : (-1) ≤ l1 ∧ l1 ≤ 4095) (r_l2 : (-2147483648) ≤ l2 ∧ l2 ≤ 2147483647) (r_l3 : 0 ≤ l3 ∧ l3 ≤ 4095) (r_l5 : 0 ≤ l5 ∧ l5 ≤ 11) (r_s0 : (-2147483648) ≤ s0 ∧ s0 ≤ 2147483647) (r_s1 : 0 ≤ s1 ∧ s1 ≤ 1) (p_F12 : F12 M) (p_NP : NP M) (p_SF : SF M) (p_WF : WF M) (hf24 : 4097 - l3 < (fu24 : Int) + 1) (hf51 : 13 - l5 < (fu51 : Int) + 1) (iM : I n M) (kM : Keep n W_X9_near Me M) : wp (mX9_near_84 k24 k51 126 l1 l2 l3 l5 s0 s1 M) (fun q => I n q.2 ∧ Keep n W_X9_near Me q.2 ∧ ((-2147483648) ≤ q.1 ∧ q.1 ≤ 2147483647) ∧ True) := by
  have hn : (169 : Int) ≤ (n : Int) := by have := iM.2.2.2.2.1; omega
  unfold mX9_near_84
  have w1_ := And.intro (wI_lo (s0 + s1)) (wI_hi (s0 + s1))
  have w2_ := wI_id (x := (l5 + 1)) (by omega) (by omega)
  exact hk51 _ _ _ _ _ _ ⟨by omega, by omega⟩ ⟨by omega, by omega⟩ ⟨by omega, by omega⟩ ⟨by omega, by omega⟩ ⟨by omega, by omega⟩ p_F12 p_NP p_SF p_WF (by omega) (by omega) iM kM
theorem sb_X9_near_51 {n : Nat} {Me : Mem} {k24 : Int → Int → Int → Int → Mem → Option (Int × Mem)} {fu24 : Nat} (hk24 : ∀ (l1 l2 l3 : Int) (M : Mem), ((-1) ≤ l1 ∧ l1 ≤ 4095) → ((-2147483648) ≤ l2 ∧ l2 ≤ 2147483647) → (0 ≤ l3 ∧ l3 ≤ 4096) → (F12 M) → (NP M) → (SF M) → (WF M) → 4097 - l3 < (fu24 : Int) → I n M → Keep n W_X9_near Me M → wp (k24 126 l1 l2 l3 M) (fun q => I n q.2 ∧ Keep n W_X9_near Me q.2 ∧ ((-2147483648) ≤ q.1 ∧ q.1 ≤ 2147483647) ∧ True)) {k51 : Int → Int → Int → Int → Int → Int → Mem → Option (Int × Mem)} {fu51 : Nat} (hk51 : ∀ (l1 l2 l3 l4 l5 : Int) (M : Mem), ((-1) ≤ l1 ∧ l1 ≤ 4095) → ((-2147483648) ≤ l2 ∧ l2 ≤ 2147483647) → (0 ≤ l3 ∧ l3 ≤ 4095) → ((-2147483648) ≤ l4 ∧ l4 ≤ 2147483647) → (0 ≤ l5 ∧ l5 ≤ 12) → (F12 M) → (NP M) → (SF M) → (WF M) → 4097 - l3 < (fu24 : Int) + 1 → 13 - l5 < (fu51 : Int) → I n M → Keep n W_X9_near Me M → wp (k51 126 l1 l2 l3 l4 l5 M) (fun q => I n q.2 ∧ Keep n W_X9_near Me q.2 ∧ ((-2147483648) ≤ q.1 ∧ q.1 ≤ 2147483647) ∧ True)) {l1 l2 l3 l4 l5 : Int} {M : Mem} (r_l1 : (-1) ≤ l1 ∧ l1 ≤ 4095) (r_l2 : (-2147483648) ≤ l2 ∧ l2 ≤ 2147483647) (r_l3 : 0 ≤ l3 ∧ l3 ≤ 4095) (r_l4 : (-2147483648) ≤ l4 ∧ l4 ≤ 2147483647) (r_l5 : 0 ≤ l5 ∧ l5 ≤ 12) (p_F12 : F12 M) (p_NP : NP M) (p_SF : SF M) (p_WF : WF M) (hf24 : 4097 - l3 < (fu24 : Int) + 1) (hf51 : 13 - l5 < (fu51 : Int) + 1) (iM : I n M) (kM : Keep n W_X9_near Me M) : wp (bX9_near_51 k24 k51 126 l1 l2 l3 l4 l5 M) (fun q => I n q.2 ∧ Keep n W_X9_near Me q.2 ∧ ((-2147483648) ≤ q.1 ∧ q.1 ≤ 2147483647) ∧ True) := by
  have hn : (169 : Int) ≤ (n : Int) := by have := iM.2.2.2.2.1; omega
  unfold bX9_near_51
  refine w_gK (congrArg Prod.fst (kl_126 iM)) ?_
  refine w_call (s_X9_manyFacts iM) ?_
  intro v54 m54 pp54
  obtain ⟨im54, kk54, e54_0, e54_1, -⟩ := pp54
  try dsimp only
  replace im54 : I n m54 := im54
  replace kk54 : Keep n W_X9_manyFacts M m54 := kk54
  have km54 : Keep n W_X9_near Me m54 := kM.tr kk54 (fun b j z => z.elim)
  replace e54_0 : 0 ≤ v54 ∧ v54 ≤ 36 := e54_0
  replace e54_1 : v54 = mG m54 153 (mG m54 134 0) := e54_1
  have ev54 := e54_1
  have ppF12_m54 : F12 m54 := (F12_of p_F12 (fun j => kk54.2.2 153 j (by omega) (fun z => z)) (fun j => kk54.2.2 134 j (by omega) (fun z => z)))
  have fv54 : v54 ≤ 12 := by rw [ev54]; exact ppF12_m54
  refine w_if (fun c1_ => ?_) (fun c1_ => ?_)
  · skip
    refine w_if (fun c2_ => ?_) (fun c2_ => ?_)
    · skip
      have ppNP_m54 : NP m54 := (NP_of p_NP (fun j => kk54.2.2 152 j (by omega) (fun z => z)))
      have ppSF_m54 : SF m54 := (SF_of p_SF (fun j => kk54.2.2 153 j (by omega) (fun z => z)) (fun j => kk54.2.2 134 j (by omega) (fun z => z)) (fun j => kk54.2.2 133 j (by omega) (fun z => z)) (fun j => kk54.2.2 135 j (by omega) (fun z => z)) (fun j => kk54.2.2 136 j (by omega) (fun z => z)) (fun j => kk54.2.2 152 j (by omega) (fun z => z)))
      have ppWF_m54 : WF m54 := (WF_of p_WF (fun j => kk54.2.2 141 j (by omega) (fun z => z)) (fun j => kk54.2.2 142 j (by omega) (fun z => z)) (fun j => kk54.2.2 143 j (by omega) (fun z => z)) (fun j => kk54.2.2 144 j (by omega) (fun z => z)) (fun j => kk54.2.2 138 j (by omega) (fun z => z)))
      exact s_X9_near_104 hk24 ⟨by omega, by omega⟩ ⟨by omega, by omega⟩ ppF12_m54 ppNP_m54 ppSF_m54 ppWF_m54 (by omega) im54 km54
    · skip
      refine w_if (fun c3_ => ?_) (fun c3_ => ?_)
      · skip
        have ppNP_m54 : NP m54 := (NP_of p_NP (fun j => kk54.2.2 152 j (by omega) (fun z => z)))
        have ppSF_m54 : SF m54 := (SF_of p_SF (fun j => kk54.2.2 153 j (by omega) (fun z => z)) (fun j => kk54.2.2 134 j (by omega) (fun z => z)) (fun j => kk54.2.2 133 j (by omega) (fun z => z)) (fun j => kk54.2.2 135 j (by omega) (fun z => z)) (fun j => kk54.2.2 136 j (by omega) (fun z => z)) (fun j => kk54.2.2 152 j (by omega) (fun z => z)))
        have ppWF_m54 : WF m54 := (WF_of p_WF (fun j => kk54.2.2 141 j (by omega) (fun z => z)) (fun j => kk54.2.2 142 j (by omega) (fun z => z)) (fun j => kk54.2.2 143 j (by omega) (fun z => z)) (fun j => kk54.2.2 144 j (by omega) (fun z => z)) (fun j => kk54.2.2 138 j (by omega) (fun z => z)))
        exact s_X9_near_109 hk24 ⟨by omega, by omega⟩ ⟨by omega, by omega⟩ ⟨by omega, by omega⟩ ppF12_m54 ppNP_m54 ppSF_m54 ppWF_m54 (by omega) im54 km54
      · skip
        have ppNP_m54 : NP m54 := (NP_of p_NP (fun j => kk54.2.2 152 j (by omega) (fun z => z)))
        have ppSF_m54 : SF m54 := (SF_of p_SF (fun j => kk54.2.2 153 j (by omega) (fun z => z)) (fun j => kk54.2.2 134 j (by omega) (fun z => z)) (fun j => kk54.2.2 133 j (by omega) (fun z => z)) (fun j => kk54.2.2 135 j (by omega) (fun z => z)) (fun j => kk54.2.2 136 j (by omega) (fun z => z)) (fun j => kk54.2.2 152 j (by omega) (fun z => z)))
        have ppWF_m54 : WF m54 := (WF_of p_WF (fun j => kk54.2.2 141 j (by omega) (fun z => z)) (fun j => kk54.2.2 142 j (by omega) (fun z => z)) (fun j => kk54.2.2 143 j (by omega) (fun z => z)) (fun j => kk54.2.2 144 j (by omega) (fun z => z)) (fun j => kk54.2.2 138 j (by omega) (fun z => z)))
        exact s_X9_near_104 hk24 ⟨by omega, by omega⟩ ⟨by omega, by omega⟩ ppF12_m54 ppNP_m54 ppSF_m54 ppWF_m54 (by omega) im54 km54
  · skip
    refine w_gFc (ji := 28) rfl (congrArg Prod.fst (kl_126 im54)) (show mG m54 126 28 = 154 from rd_Model_28 im54 (a := 126) rfl) ?_
    refine w_aG (kl_154 im54) (by omega) (by omega) (fun a68 ha68 => ?_)
    have ra68 : 0 ≤ a68 ∧ a68 ≤ 1 := ha68.tr (P := fun z => 0 ≤ z ∧ z ≤ 1) (rd_Mis im54 rfl)
    refine w_gFc (ji := 11) rfl (congrArg Prod.fst (kl_126 im54)) (show mG m54 126 11 = 137 from rd_Model_11 im54 (a := 126) rfl) ?_
    refine w_aG (kl_137 im54) (by omega) (by omega) (fun a75 ha75 => ?_)
    have ra75 : 0 ≤ a75 ∧ a75 ≤ 1 := ha75.tr (P := fun z => 0 ≤ z ∧ z ≤ 1) (rd_Mworld im54 rfl)
    refine w_if (fun c4_ => ?_) (fun c4_ => ?_)
    · skip
      have ppNP_m54 : NP m54 := (NP_of p_NP (fun j => kk54.2.2 152 j (by omega) (fun z => z)))
      have ppSF_m54 : SF m54 := (SF_of p_SF (fun j => kk54.2.2 153 j (by omega) (fun z => z)) (fun j => kk54.2.2 134 j (by omega) (fun z => z)) (fun j => kk54.2.2 133 j (by omega) (fun z => z)) (fun j => kk54.2.2 135 j (by omega) (fun z => z)) (fun j => kk54.2.2 136 j (by omega) (fun z => z)) (fun j => kk54.2.2 152 j (by omega) (fun z => z)))
      have ppWF_m54 : WF m54 := (WF_of p_WF (fun j => kk54.2.2 141 j (by omega) (fun z => z)) (fun j => kk54.2.2 142 j (by omega) (fun z => z)) (fun j => kk54.2.2 143 j (by omega) (fun z => z)) (fun j => kk54.2.2 144 j (by omega) (fun z => z)) (fun j => kk54.2.2 138 j (by omega) (fun z => z)))
      exact s_X9_near_84 hk24 hk51 ⟨by omega, by omega⟩ ⟨by omega, by omega⟩ ⟨by omega, by omega⟩ ⟨by omega, by omega⟩ ⟨by omega, by omega⟩ ⟨by omega, by omega⟩ ppF12_m54 ppNP_m54 ppSF_m54 ppWF_m54 (by omega) (by omega) im54 km54
    · skip
      have ppNP_m54 : NP m54 := (NP_of p_NP (fun j => kk54.2.2 152 j (by omega) (fun z => z)))
      have ppSF_m54 : SF m54 := (SF_of p_SF (fun j => kk54.2.2 153 j (by omega) (fun z => z)) (fun j => kk54.2.2 134 j (by omega) (fun z => z)) (fun j => kk54.2.2 133 j (by omega) (fun z => z)) (fun j => kk54.2.2 135 j (by omega) (fun z => z)) (fun j => kk54.2.2 136 j (by omega) (fun z => z)) (fun j => kk54.2.2 152 j (by omega) (fun z => z)))
      have ppWF_m54 : WF m54 := (WF_of p_WF (fun j => kk54.2.2 141 j (by omega) (fun z => z)) (fun j => kk54.2.2 142 j (by omega) (fun z => z)) (fun j => kk54.2.2 143 j (by omega) (fun z => z)) (fun j => kk54.2.2 144 j (by omega) (fun z => z)) (fun j => kk54.2.2 138 j (by omega) (fun z => z)))
      exact s_X9_near_84 hk24 hk51 ⟨by omega, by omega⟩ ⟨by omega, by omega⟩ ⟨by omega, by omega⟩ ⟨by omega, by omega⟩ ⟨by omega, by omega⟩ ⟨by omega, by omega⟩ ppF12_m54 ppNP_m54 ppSF_m54 ppWF_m54 (by omega) (by omega) im54 km54
theorem s_X9_near_51 {n : Nat} {Me : Mem} {k24 : Int → Int → Int → Int → Mem → Option (Int × Mem)} {fu24 : Nat} (hk24 : ∀ (l1 l2 l3 : Int) (M : Mem), ((-1) ≤ l1 ∧ l1 ≤ 4095) → ((-2147483648) ≤ l2 ∧ l2 ≤ 2147483647) → (0 ≤ l3 ∧ l3 ≤ 4096) → (F12 M) → (NP M) → (SF M) → (WF M) → 4097 - l3 < (fu24 : Int) → I n M → Keep n W_X9_near Me M → wp (k24 126 l1 l2 l3 M) (fun q => I n q.2 ∧ Keep n W_X9_near Me q.2 ∧ ((-2147483648) ≤ q.1 ∧ q.1 ≤ 2147483647) ∧ True)) : ∀ (fu : Nat) (l1 l2 l3 l4 l5 : Int) (M : Mem), ((-1) ≤ l1 ∧ l1 ≤ 4095) → ((-2147483648) ≤ l2 ∧ l2 ≤ 2147483647) → (0 ≤ l3 ∧ l3 ≤ 4095) → ((-2147483648) ≤ l4 ∧ l4 ≤ 2147483647) → (0 ≤ l5 ∧ l5 ≤ 12) → (F12 M) → (NP M) → (SF M) → (WF M) → 4097 - l3 < (fu24 : Int) + 1 → 13 - l5 < (fu : Int) → I n M → Keep n W_X9_near Me M → wp (mX9_near_51 k24 fu 126 l1 l2 l3 l4 l5 M) (fun q => I n q.2 ∧ Keep n W_X9_near Me q.2 ∧ ((-2147483648) ≤ q.1 ∧ q.1 ≤ 2147483647) ∧ True) := by
  intro fu
  induction fu with
  | zero =>
    intro l1 l2 l3 l4 l5 M r_l1 r_l2 r_l3 r_l4 r_l5 p_F12 p_NP p_SF p_WF hf24 hf iM kM
    exfalso
    omega
  | succ fu ih =>
    intro l1 l2 l3 l4 l5 M r_l1 r_l2 r_l3 r_l4 r_l5 p_F12 p_NP p_SF p_WF hf24 hf iM kM
    exact sb_X9_near_51 hk24 ih r_l1 r_l2 r_l3 r_l4 r_l5 p_F12 p_NP p_SF p_WF hf24 (by have e : ((fu + 1 : Nat) : Int) = (fu : Int) + 1 := rfl; rw [e] at hf; exact hf) iM kM
theorem sb_X9_near_24 {n : Nat} {Me : Mem} {k24 : Int → Int → Int → Int → Mem → Option (Int × Mem)} {fu24 : Nat} (hk24 : ∀ (l1 l2 l3 : Int) (M : Mem), ((-1) ≤ l1 ∧ l1 ≤ 4095) → ((-2147483648) ≤ l2 ∧ l2 ≤ 2147483647) → (0 ≤ l3 ∧ l3 ≤ 4096) → (F12 M) → (NP M) → (SF M) → (WF M) → 4097 - l3 < (fu24 : Int) → I n M → Keep n W_X9_near Me M → wp (k24 126 l1 l2 l3 M) (fun q => I n q.2 ∧ Keep n W_X9_near Me q.2 ∧ ((-2147483648) ≤ q.1 ∧ q.1 ≤ 2147483647) ∧ True)) {l1 l2 l3 : Int} {M : Mem} (r_l1 : (-1) ≤ l1 ∧ l1 ≤ 4095) (r_l2 : (-2147483648) ≤ l2 ∧ l2 ≤ 2147483647) (r_l3 : 0 ≤ l3 ∧ l3 ≤ 4096) (p_F12 : F12 M) (p_NP : NP M) (p_SF : SF M) (p_WF : WF M) (hf24 : 4097 - l3 < (fu24 : Int) + 1) (iM : I n M) (kM : Keep n W_X9_near Me M) : wp (bX9_near_24 k24 126 l1 l2 l3 M) (fun q => I n q.2 ∧ Keep n W_X9_near Me q.2 ∧ ((-2147483648) ≤ q.1 ∧ q.1 ≤ 2147483647) ∧ True) := by
  have hn : (169 : Int) ≤ (n : Int) := by have := iM.2.2.2.2.1; omega
  unfold bX9_near_24
  refine w_gK (congrArg Prod.fst (kl_126 iM)) ?_
  refine w_call (s_X9_manyFacts iM) ?_
  intro v27 m27 pp27
  obtain ⟨im27, kk27, e27_0, e27_1, -⟩ := pp27
  try dsimp only
  replace im27 : I n m27 := im27
  replace kk27 : Keep n W_X9_manyFacts M m27 := kk27
  have km27 : Keep n W_X9_near Me m27 := kM.tr kk27 (fun b j z => z.elim)
  replace e27_0 : 0 ≤ v27 ∧ v27 ≤ 36 := e27_0
  replace e27_1 : v27 = mG m27 153 (mG m27 134 0) := e27_1
  have ev27 := e27_1
  have ppF12_m27 : F12 m27 := (F12_of p_F12 (fun j => kk27.2.2 153 j (by omega) (fun z => z)) (fun j => kk27.2.2 134 j (by omega) (fun z => z)))
  have fv27 : v27 ≤ 12 := by rw [ev27]; exact ppF12_m27
  have w1_ := ishl1_b (k := v27) (B := 12) (by omega) (by omega) (by decide)
  refine w_if (fun c2_ => ?_) (fun c2_ => ?_)
  · skip
    refine w_if (fun c3_ => ?_) (fun c3_ => ?_)
    · skip
      exact w_ret ⟨im27, km27, (show (-2147483648) ≤ (-1) ∧ (-1) ≤ 2147483647 from ⟨by omega, by omega⟩), trivial⟩
    · skip
      refine w_gK (congrArg Prod.fst (kl_126 im27)) ?_
      have ppNP_m27 : NP m27 := (NP_of p_NP (fun j => kk27.2.2 152 j (by omega) (fun z => z)))
      refine w_call (s_X9_takeWorld ⟨by omega, by omega⟩ ppNP_m27 im27) ?_
      intro v124 m124 pp124
      obtain ⟨im124, kk124, -⟩ := pp124
      try dsimp only
      replace im124 : I n m124 := im124
      replace kk124 : Keep n W_X9_takeWorld m27 m124 := kk124
      have km124 : Keep n W_X9_near Me m124 := km27.tr kk124 (fun b j z => by unfold W_X9_takeWorld at z; exact (Or.inl z))
      exact w_ret ⟨im124, km124, (show (-2147483648) ≤ l2 ∧ l2 ≤ 2147483647 from ⟨by omega, by omega⟩), trivial⟩
  · skip
    refine w_gK (congrArg Prod.fst (kl_126 im27)) ?_
    have ppNP_m27 : NP m27 := (NP_of p_NP (fun j => kk27.2.2 152 j (by omega) (fun z => z)))
    have ppWF_m27 : WF m27 := (WF_of p_WF (fun j => kk27.2.2 141 j (by omega) (fun z => z)) (fun j => kk27.2.2 142 j (by omega) (fun z => z)) (fun j => kk27.2.2 143 j (by omega) (fun z => z)) (fun j => kk27.2.2 144 j (by omega) (fun z => z)) (fun j => kk27.2.2 138 j (by omega) (fun z => z)))
    refine w_call (s_X9_isWorld ⟨by omega, by omega⟩ ppF12_m27 ppNP_m27 ppWF_m27 im27) ?_
    intro v36 m36 pp36
    obtain ⟨im36, kk36, e36_0, -⟩ := pp36
    try dsimp only
    replace im36 : I n m36 := im36
    replace kk36 : Keep n W_X9_isWorld m27 m36 := kk36
    have km36 : Keep n W_X9_near Me m36 := km27.tr kk36 (fun b j z => Or.elim z (fun z => (Or.inr (Or.inl ⟨by omega, by omega⟩))) (fun z => Or.elim z (fun z => (Or.inr (Or.inr (Or.inl z)))) (fun z => (Or.inr (Or.inr (Or.inr (Or.inr (Or.inl z))))))))
    replace e36_0 : 0 ≤ v36 ∧ v36 ≤ 1 := e36_0
    refine w_if (fun c4_ => ?_) (fun c4_ => ?_)
    · skip
      have ppF12_m36 : F12 m36 := (F12_of ppF12_m27 (fun j => kk36.2.2 153 j (by omega) (fun z => by unfold W_X9_isWorld at z; (try unfold isWS at z); (try unfold isShape at z); (try unfold isTold at z); (try dsimp only at z); omega)) (fun j => kk36.2.2 134 j (by omega) (fun z => by unfold W_X9_isWorld at z; (try unfold isWS at z); (try unfold isShape at z); (try unfold isTold at z); (try dsimp only at z); omega)))
      have ppNP_m36 : NP m36 := (NP_of ppNP_m27 (fun j => kk36.2.2 152 j (by omega) (fun z => by unfold W_X9_isWorld at z; (try unfold isWS at z); (try unfold isShape at z); (try unfold isTold at z); (try dsimp only at z); omega)))
      have ppSF_m36 : SF m36 := (SF_of (SF_of p_SF (fun j => kk27.2.2 153 j (by omega) (fun z => z)) (fun j => kk27.2.2 134 j (by omega) (fun z => z)) (fun j => kk27.2.2 133 j (by omega) (fun z => z)) (fun j => kk27.2.2 135 j (by omega) (fun z => z)) (fun j => kk27.2.2 136 j (by omega) (fun z => z)) (fun j => kk27.2.2 152 j (by omega) (fun z => z))) (fun j => kk36.2.2 153 j (by omega) (fun z => by unfold W_X9_isWorld at z; (try unfold isWS at z); (try unfold isShape at z); (try unfold isTold at z); (try dsimp only at z); omega)) (fun j => kk36.2.2 134 j (by omega) (fun z => by unfold W_X9_isWorld at z; (try unfold isWS at z); (try unfold isShape at z); (try unfold isTold at z); (try dsimp only at z); omega)) (fun j => kk36.2.2 133 j (by omega) (fun z => by unfold W_X9_isWorld at z; (try unfold isWS at z); (try unfold isShape at z); (try unfold isTold at z); (try dsimp only at z); omega)) (fun j => kk36.2.2 135 j (by omega) (fun z => by unfold W_X9_isWorld at z; (try unfold isWS at z); (try unfold isShape at z); (try unfold isTold at z); (try dsimp only at z); omega)) (fun j => kk36.2.2 136 j (by omega) (fun z => by unfold W_X9_isWorld at z; (try unfold isWS at z); (try unfold isShape at z); (try unfold isTold at z); (try dsimp only at z); omega)) (fun j => kk36.2.2 152 j (by omega) (fun z => by unfold W_X9_isWorld at z; (try unfold isWS at z); (try unfold isShape at z); (try unfold isTold at z); (try dsimp only at z); omega)))
      have ppWF_m36 : WF m36 := (WF_of ppWF_m27 (fun j => kk36.2.2 141 j (by omega) (fun z => by unfold W_X9_isWorld at z; (try unfold isWS at z); (try unfold isShape at z); (try unfold isTold at z); (try dsimp only at z); omega)) (fun j => kk36.2.2 142 j (by omega) (fun z => by unfold W_X9_isWorld at z; (try unfold isWS at z); (try unfold isShape at z); (try unfold isTold at z); (try dsimp only at z); omega)) (fun j => kk36.2.2 143 j (by omega) (fun z => by unfold W_X9_isWorld at z; (try unfold isWS at z); (try unfold isShape at z); (try unfold isTold at z); (try dsimp only at z); omega)) (fun j => kk36.2.2 144 j (by omega) (fun z => by unfold W_X9_isWorld at z; (try unfold isWS at z); (try unfold isShape at z); (try unfold isTold at z); (try dsimp only at z); omega)) (fun j => kk36.2.2 138 j (by omega) (fun z => by unfold W_X9_isWorld at z; (try unfold isWS at z); (try unfold isShape at z); (try unfold isTold at z); (try dsimp only at z); omega)))
      exact s_X9_near_109 hk24 ⟨by omega, by omega⟩ ⟨by omega, by omega⟩ ⟨by omega, by omega⟩ ppF12_m36 ppNP_m36 ppSF_m36 ppWF_m36 (by omega) im36 km36
    · skip
      have ppF12_m36 : F12 m36 := (F12_of ppF12_m27 (fun j => kk36.2.2 153 j (by omega) (fun z => by unfold W_X9_isWorld at z; (try unfold isWS at z); (try unfold isShape at z); (try unfold isTold at z); (try dsimp only at z); omega)) (fun j => kk36.2.2 134 j (by omega) (fun z => by unfold W_X9_isWorld at z; (try unfold isWS at z); (try unfold isShape at z); (try unfold isTold at z); (try dsimp only at z); omega)))
      have ppNP_m36 : NP m36 := (NP_of ppNP_m27 (fun j => kk36.2.2 152 j (by omega) (fun z => by unfold W_X9_isWorld at z; (try unfold isWS at z); (try unfold isShape at z); (try unfold isTold at z); (try dsimp only at z); omega)))
      have ppSF_m36 : SF m36 := (SF_of (SF_of p_SF (fun j => kk27.2.2 153 j (by omega) (fun z => z)) (fun j => kk27.2.2 134 j (by omega) (fun z => z)) (fun j => kk27.2.2 133 j (by omega) (fun z => z)) (fun j => kk27.2.2 135 j (by omega) (fun z => z)) (fun j => kk27.2.2 136 j (by omega) (fun z => z)) (fun j => kk27.2.2 152 j (by omega) (fun z => z))) (fun j => kk36.2.2 153 j (by omega) (fun z => by unfold W_X9_isWorld at z; (try unfold isWS at z); (try unfold isShape at z); (try unfold isTold at z); (try dsimp only at z); omega)) (fun j => kk36.2.2 134 j (by omega) (fun z => by unfold W_X9_isWorld at z; (try unfold isWS at z); (try unfold isShape at z); (try unfold isTold at z); (try dsimp only at z); omega)) (fun j => kk36.2.2 133 j (by omega) (fun z => by unfold W_X9_isWorld at z; (try unfold isWS at z); (try unfold isShape at z); (try unfold isTold at z); (try dsimp only at z); omega)) (fun j => kk36.2.2 135 j (by omega) (fun z => by unfold W_X9_isWorld at z; (try unfold isWS at z); (try unfold isShape at z); (try unfold isTold at z); (try dsimp only at z); omega)) (fun j => kk36.2.2 136 j (by omega) (fun z => by unfold W_X9_isWorld at z; (try unfold isWS at z); (try unfold isShape at z); (try unfold isTold at z); (try dsimp only at z); omega)) (fun j => kk36.2.2 152 j (by omega) (fun z => by unfold W_X9_isWorld at z; (try unfold isWS at z); (try unfold isShape at z); (try unfold isTold at z); (try dsimp only at z); omega)))
      have ppWF_m36 : WF m36 := (WF_of ppWF_m27 (fun j => kk36.2.2 141 j (by omega) (fun z => by unfold W_X9_isWorld at z; (try unfold isWS at z); (try unfold isShape at z); (try unfold isTold at z); (try dsimp only at z); omega)) (fun j => kk36.2.2 142 j (by omega) (fun z => by unfold W_X9_isWorld at z; (try unfold isWS at z); (try unfold isShape at z); (try unfold isTold at z); (try dsimp only at z); omega)) (fun j => kk36.2.2 143 j (by omega) (fun z => by unfold W_X9_isWorld at z; (try unfold isWS at z); (try unfold isShape at z); (try unfold isTold at z); (try dsimp only at z); omega)) (fun j => kk36.2.2 144 j (by omega) (fun z => by unfold W_X9_isWorld at z; (try unfold isWS at z); (try unfold isShape at z); (try unfold isTold at z); (try dsimp only at z); omega)) (fun j => kk36.2.2 138 j (by omega) (fun z => by unfold W_X9_isWorld at z; (try unfold isWS at z); (try unfold isShape at z); (try unfold isTold at z); (try dsimp only at z); omega)))
      exact s_X9_near_51 hk24 FU _ _ _ _ _ _ ⟨by omega, by omega⟩ ⟨by omega, by omega⟩ ⟨by omega, by omega⟩ ⟨by omega, by omega⟩ ⟨by omega, by omega⟩ ppF12_m36 ppNP_m36 ppSF_m36 ppWF_m36 (by omega) (by show _ < (70000 : Int); omega) im36 km36
theorem s_X9_near_24 {n : Nat} {Me : Mem} : ∀ (fu : Nat) (l1 l2 l3 : Int) (M : Mem), ((-1) ≤ l1 ∧ l1 ≤ 4095) → ((-2147483648) ≤ l2 ∧ l2 ≤ 2147483647) → (0 ≤ l3 ∧ l3 ≤ 4096) → (F12 M) → (NP M) → (SF M) → (WF M) → 4097 - l3 < (fu : Int) → I n M → Keep n W_X9_near Me M → wp (mX9_near_24 fu 126 l1 l2 l3 M) (fun q => I n q.2 ∧ Keep n W_X9_near Me q.2 ∧ ((-2147483648) ≤ q.1 ∧ q.1 ≤ 2147483647) ∧ True) := by
  intro fu
  induction fu with
  | zero =>
    intro l1 l2 l3 M r_l1 r_l2 r_l3 p_F12 p_NP p_SF p_WF hf iM kM
    exfalso
    omega
  | succ fu ih =>
    intro l1 l2 l3 M r_l1 r_l2 r_l3 p_F12 p_NP p_SF p_WF hf iM kM
    exact sb_X9_near_24 ih r_l1 r_l2 r_l3 p_F12 p_NP p_SF p_WF (by have e : ((fu + 1 : Nat) : Int) = (fu : Int) + 1 := rfl; rw [e] at hf; exact hf) iM kM
theorem s_X9_near {n : Nat} {M : Mem} (p_WF : WF M) (iM : I n M) : wp (mX9_near 126 M) (fun q => I n q.2 ∧ Keep n W_X9_near M q.2 ∧ ((-2147483648) ≤ q.1 ∧ q.1 ≤ 2147483647) ∧ True) := by
  have hn : (169 : Int) ≤ (n : Int) := by have := iM.2.2.2.2.1; omega
  have kM : Keep n W_X9_near M M := Keep.rf
  unfold mX9_near
  refine w_pF (ji := 0) rfl (congrArg Prod.fst (kl_126 iM)) (fun M2 hM2 => ?_)
  replace hM2 : M2 = mS M 126 0 0 := hM2
  have iM2 : I n M2 := wr_Model_0 iM rfl ⟨by omega, by omega⟩ hM2
  have kM2 : Keep n W_X9_near M M2 := kM.st hM2 (Or.inl (Or.inr (Or.inr (Or.inr (Or.inl ⟨rfl, rfl⟩)))))
  refine w_gK (congrArg Prod.fst (kl_126 iM2)) ?_
  refine w_call (s_X9_canTell iM2) ?_
  intro v6 m6 pp6
  obtain ⟨im6, kk6, e6_0, e6_1, e6_2, e6_3, -⟩ := pp6
  try dsimp only
  replace im6 : I n m6 := im6
  replace kk6 : Keep n W_X9_canTell M2 m6 := kk6
  have km6 : Keep n W_X9_near M m6 := kM2.tr kk6 (fun b j z => by unfold W_X9_canTell at z; exact (Or.inr (Or.inl ⟨by omega, by omega⟩)))
  replace e6_0 : 0 ≤ v6 ∧ v6 ≤ 1 := e6_0
  replace e6_1 : NP m6 := e6_1
  have gNP_m6 := e6_1
  replace e6_2 : SF m6 := e6_2
  have gSF_m6 := e6_2
  replace e6_3 : v6 = 1 → F12 m6 := e6_3
  have ev6 := e6_3
  refine w_if (fun c1_ => ?_) (fun c1_ => ?_)
  · skip
    exact w_ret ⟨im6, km6, (show (-2147483648) ≤ (-1) ∧ (-1) ≤ 2147483647 from ⟨by omega, by omega⟩), trivial⟩
  · skip
    have pF12_c1__m6 : F12 m6 := ev6 (by omega)
    refine w_gK (congrArg Prod.fst (kl_126 im6)) ?_
    refine w_call (s_X9_prepare pF12_c1__m6 gNP_m6 im6) ?_
    intro v15 m15 pp15
    obtain ⟨im15, kk15, -⟩ := pp15
    try dsimp only
    replace im15 : I n m15 := im15
    replace kk15 : Keep n W_X9_prepare m6 m15 := kk15
    have km15 : Keep n W_X9_near M m15 := km6.tr kk15 (fun b j z => Or.elim z (fun z => (Or.inr (Or.inr (Or.inr (Or.inr (Or.inr (Or.inl z))))))) (fun z => Or.elim z (fun z => (Or.inr (Or.inr (Or.inr (Or.inr (Or.inr (Or.inr (Or.inl z)))))))) (fun z => (Or.inr (Or.inr (Or.inr (Or.inr (Or.inr (Or.inr (Or.inr z))))))))))
    have ppF12_m15 : F12 m15 := (F12_of pF12_c1__m6 (fun j => kk15.2.2 153 j (by omega) (fun z => by unfold W_X9_prepare at z; (try unfold isWS at z); (try unfold isShape at z); (try unfold isTold at z); (try dsimp only at z); omega)) (fun j => kk15.2.2 134 j (by omega) (fun z => by unfold W_X9_prepare at z; (try unfold isWS at z); (try unfold isShape at z); (try unfold isTold at z); (try dsimp only at z); omega)))
    have ppNP_m15 : NP m15 := (NP_of gNP_m6 (fun j => kk15.2.2 152 j (by omega) (fun z => by unfold W_X9_prepare at z; (try unfold isWS at z); (try unfold isShape at z); (try unfold isTold at z); (try dsimp only at z); omega)))
    have ppSF_m15 : SF m15 := (SF_of gSF_m6 (fun j => kk15.2.2 153 j (by omega) (fun z => by unfold W_X9_prepare at z; (try unfold isWS at z); (try unfold isShape at z); (try unfold isTold at z); (try dsimp only at z); omega)) (fun j => kk15.2.2 134 j (by omega) (fun z => by unfold W_X9_prepare at z; (try unfold isWS at z); (try unfold isShape at z); (try unfold isTold at z); (try dsimp only at z); omega)) (fun j => kk15.2.2 133 j (by omega) (fun z => by unfold W_X9_prepare at z; (try unfold isWS at z); (try unfold isShape at z); (try unfold isTold at z); (try dsimp only at z); omega)) (fun j => kk15.2.2 135 j (by omega) (fun z => by unfold W_X9_prepare at z; (try unfold isWS at z); (try unfold isShape at z); (try unfold isTold at z); (try dsimp only at z); omega)) (fun j => kk15.2.2 136 j (by omega) (fun z => by unfold W_X9_prepare at z; (try unfold isWS at z); (try unfold isShape at z); (try unfold isTold at z); (try dsimp only at z); omega)) (fun j => kk15.2.2 152 j (by omega) (fun z => by unfold W_X9_prepare at z; (try unfold isWS at z); (try unfold isShape at z); (try unfold isTold at z); (try dsimp only at z); omega)))
    have ppWF_m15 : WF m15 := (WF_of (WF_of (WF_of p_WF (fun j => st_ne hM2 (fun z => ne_fam rfl rfl (by decide) z.1)) (fun j => st_ne hM2 (fun z => ne_fam rfl rfl (by decide) z.1)) (fun j => st_ne hM2 (fun z => ne_fam rfl rfl (by decide) z.1)) (fun j => st_ne hM2 (fun z => ne_fam rfl rfl (by decide) z.1)) (fun j => st_ne hM2 (fun z => ne_fam rfl rfl (by decide) z.1))) (fun j => kk6.2.2 141 j (by omega) (fun z => by unfold W_X9_canTell at z; (try unfold isWS at z); (try unfold isShape at z); (try unfold isTold at z); (try dsimp only at z); omega)) (fun j => kk6.2.2 142 j (by omega) (fun z => by unfold W_X9_canTell at z; (try unfold isWS at z); (try unfold isShape at z); (try unfold isTold at z); (try dsimp only at z); omega)) (fun j => kk6.2.2 143 j (by omega) (fun z => by unfold W_X9_canTell at z; (try unfold isWS at z); (try unfold isShape at z); (try unfold isTold at z); (try dsimp only at z); omega)) (fun j => kk6.2.2 144 j (by omega) (fun z => by unfold W_X9_canTell at z; (try unfold isWS at z); (try unfold isShape at z); (try unfold isTold at z); (try dsimp only at z); omega)) (fun j => kk6.2.2 138 j (by omega) (fun z => by unfold W_X9_canTell at z; (try unfold isWS at z); (try unfold isShape at z); (try unfold isTold at z); (try dsimp only at z); omega))) (fun j => kk15.2.2 141 j (by omega) (fun z => by unfold W_X9_prepare at z; (try unfold isWS at z); (try unfold isShape at z); (try unfold isTold at z); (try dsimp only at z); omega)) (fun j => kk15.2.2 142 j (by omega) (fun z => by unfold W_X9_prepare at z; (try unfold isWS at z); (try unfold isShape at z); (try unfold isTold at z); (try dsimp only at z); omega)) (fun j => kk15.2.2 143 j (by omega) (fun z => by unfold W_X9_prepare at z; (try unfold isWS at z); (try unfold isShape at z); (try unfold isTold at z); (try dsimp only at z); omega)) (fun j => kk15.2.2 144 j (by omega) (fun z => by unfold W_X9_prepare at z; (try unfold isWS at z); (try unfold isShape at z); (try unfold isTold at z); (try dsimp only at z); omega)) (fun j => kk15.2.2 138 j (by omega) (fun z => by unfold W_X9_prepare at z; (try unfold isWS at z); (try unfold isShape at z); (try unfold isTold at z); (try dsimp only at z); omega)))
    exact s_X9_near_24 FU _ _ _ _ ⟨by omega, by omega⟩ ⟨by omega, by omega⟩ ⟨by omega, by omega⟩ ppF12_m15 ppNP_m15 ppSF_m15 ppWF_m15 (by show _ < (70000 : Int); omega) im15 km15
def W_X9_holds (b j : Int) : Prop := (152 ≤ b ∧ b ≤ 154) ∨ (160 ≤ b ∧ b ≤ 162) ∨ (b = 126 ∧ j = 0) ∨ (b = 126 ∧ j = 46) ∨ (b = 126 ∧ j = 48) ∨ (b = 126 ∧ j = 49) ∨ (b = 126 ∧ j = 50)
theorem s_X9_holds_89 {n : Nat} {Me : Mem} {k41 : Int → Int → Int → Int → Mem → Option (Int × Mem)} {fu41 : Nat} (hk41 : ∀ (l1 l2 l3 : Int) (M : Mem), (0 ≤ l1 ∧ l1 ≤ 1) → ((-2147483648) ≤ l2 ∧ l2 ≤ 2147483647) → (0 ≤ l3 ∧ l3 ≤ 4096) → (F12 M) → (NP M) → (SF M) → (WF M) → 4097 - l3 < (fu41 : Int) → I n M → Keep n W_X9_holds Me M → wp (k41 126 l1 l2 l3 M) (fun q => I n q.2 ∧ Keep n W_X9_holds Me q.2 ∧ ((-2147483648) ≤ q.1 ∧ q.1 ≤ 2147483647) ∧ True)) {l1 l3 s0 s1 : Int} {M : Mem} (r_l1 : 0 ≤ l1 ∧ l1 ≤ 1) (r_l3 : 0 ≤ l3 ∧ l3 ≤ 4095) (r_s0 : (-2147483648) ≤ s0 ∧ s0 ≤ 2147483647) (r_s1 : 0 ≤ s1 ∧ s1 ≤ 1) (p_F12 : F12 M) (p_NP : NP M) (p_SF : SF M) (p_WF : WF M) (hf41 : 4097 - l3 < (fu41 : Int) + 1) (iM : I n M) (kM : Keep n W_X9_holds Me M) : wp (mX9_holds_89 k41 126 l1 l3 s0 s1 M) (fun q => I n q.2 ∧ Keep n W_X9_holds Me q.2 ∧ ((-2147483648) ≤ q.1 ∧ q.1 ≤ 2147483647) ∧ True) := by
  have hn : (169 : Int) ≤ (n : Int) := by have := iM.2.2.2.2.1; omega
  unfold mX9_holds_89
  have w1_ := And.intro (wI_lo (s0 + s1)) (wI_hi (s0 + s1))
  have w2_ := wI_id (x := (l3 + 1)) (by omega) (by omega)
  exact hk41 _ _ _ _ ⟨by omega, by omega⟩ ⟨by omega, by omega⟩ ⟨by omega, by omega⟩ p_F12 p_NP p_SF p_WF (by omega) iM kM
theorem s_X9_holds_88 {n : Nat} {Me : Mem} {k41 : Int → Int → Int → Int → Mem → Option (Int × Mem)} {fu41 : Nat} (hk41 : ∀ (l1 l2 l3 : Int) (M : Mem), (0 ≤ l1 ∧ l1 ≤ 1) → ((-2147483648) ≤ l2 ∧ l2 ≤ 2147483647) → (0 ≤ l3 ∧ l3 ≤ 4096) → (F12 M) → (NP M) → (SF M) → (WF M) → 4097 - l3 < (fu41 : Int) → I n M → Keep n W_X9_holds Me M → wp (k41 126 l1 l2 l3 M) (fun q => I n q.2 ∧ Keep n W_X9_holds Me q.2 ∧ ((-2147483648) ≤ q.1 ∧ q.1 ≤ 2147483647) ∧ True)) {l1 l3 s0 : Int} {M : Mem} (r_l1 : 0 ≤ l1 ∧ l1 ≤ 1) (r_l3 : 0 ≤ l3 ∧ l3 ≤ 4095) (r_s0 : (-2147483648) ≤ s0 ∧ s0 ≤ 2147483647) (p_F12 : F12 M) (p_NP : NP M) (p_SF : SF M) (p_WF : WF M) (hf41 : 4097 - l3 < (fu41 : Int) + 1) (iM : I n M) (kM : Keep n W_X9_holds Me M) : wp (mX9_holds_88 k41 126 l1 l3 s0 M) (fun q => I n q.2 ∧ Keep n W_X9_holds Me q.2 ∧ ((-2147483648) ≤ q.1 ∧ q.1 ≤ 2147483647) ∧ True) := by
  have hn : (169 : Int) ≤ (n : Int) := by have := iM.2.2.2.2.1; omega
  unfold mX9_holds_88
  exact s_X9_holds_89 hk41 ⟨by omega, by omega⟩ ⟨by omega, by omega⟩ ⟨by omega, by omega⟩ ⟨by omega, by omega⟩ p_F12 p_NP p_SF p_WF (by omega) iM kM
theorem s_X9_holds_75 {n : Nat} {Me : Mem} {k41 : Int → Int → Int → Int → Mem → Option (Int × Mem)} {fu41 : Nat} (hk41 : ∀ (l1 l2 l3 : Int) (M : Mem), (0 ≤ l1 ∧ l1 ≤ 1) → ((-2147483648) ≤ l2 ∧ l2 ≤ 2147483647) → (0 ≤ l3 ∧ l3 ≤ 4096) → (F12 M) → (NP M) → (SF M) → (WF M) → 4097 - l3 < (fu41 : Int) → I n M → Keep n W_X9_holds Me M → wp (k41 126 l1 l2 l3 M) (fun q => I n q.2 ∧ Keep n W_X9_holds Me q.2 ∧ ((-2147483648) ≤ q.1 ∧ q.1 ≤ 2147483647) ∧ True)) {l1 l3 s0 : Int} {M : Mem} (r_l1 : 0 ≤ l1 ∧ l1 ≤ 1) (r_l3 : 0 ≤ l3 ∧ l3 ≤ 4095) (r_s0 : (-2147483648) ≤ s0 ∧ s0 ≤ 2147483647) (p_F12 : F12 M) (p_NP : NP M) (p_SF : SF M) (p_WF : WF M) (hf41 : 4097 - l3 < (fu41 : Int) + 1) (iM : I n M) (kM : Keep n W_X9_holds Me M) : wp (mX9_holds_75 k41 126 l1 l3 s0 M) (fun q => I n q.2 ∧ Keep n W_X9_holds Me q.2 ∧ ((-2147483648) ≤ q.1 ∧ q.1 ≤ 2147483647) ∧ True) := by
  have hn : (169 : Int) ≤ (n : Int) := by have := iM.2.2.2.2.1; omega
  unfold mX9_holds_75
  refine w_gK (congrArg Prod.fst (kl_126 iM)) ?_
  refine w_call (s_X9_means ⟨by omega, by omega⟩ p_NP p_WF iM) ?_
  intro v78 m78 pp78
  obtain ⟨im78, kk78, e78_0, -⟩ := pp78
  try dsimp only
  replace im78 : I n m78 := im78
  replace kk78 : Keep n W_X9_means M m78 := kk78
  have km78 : Keep n W_X9_holds Me m78 := kM.tr kk78 (fun b j z => Or.elim z (fun z => (Or.inr (Or.inl ⟨by omega, by omega⟩))) (fun z => (Or.inr (Or.inr (Or.inr (Or.inl z))))))
  replace e78_0 : 0 ≤ v78 ∧ v78 ≤ 1 := e78_0
  refine w_if (fun c1_ => ?_) (fun c1_ => ?_)
  · skip
    have ppF12_m78 : F12 m78 := (F12_of p_F12 (fun j => kk78.2.2 153 j (by omega) (fun z => by unfold W_X9_means at z; (try unfold isWS at z); (try unfold isShape at z); (try unfold isTold at z); (try dsimp only at z); omega)) (fun j => kk78.2.2 134 j (by omega) (fun z => by unfold W_X9_means at z; (try unfold isWS at z); (try unfold isShape at z); (try unfold isTold at z); (try dsimp only at z); omega)))
    have ppNP_m78 : NP m78 := (NP_of p_NP (fun j => kk78.2.2 152 j (by omega) (fun z => by unfold W_X9_means at z; (try unfold isWS at z); (try unfold isShape at z); (try unfold isTold at z); (try dsimp only at z); omega)))
    have ppSF_m78 : SF m78 := (SF_of p_SF (fun j => kk78.2.2 153 j (by omega) (fun z => by unfold W_X9_means at z; (try unfold isWS at z); (try unfold isShape at z); (try unfold isTold at z); (try dsimp only at z); omega)) (fun j => kk78.2.2 134 j (by omega) (fun z => by unfold W_X9_means at z; (try unfold isWS at z); (try unfold isShape at z); (try unfold isTold at z); (try dsimp only at z); omega)) (fun j => kk78.2.2 133 j (by omega) (fun z => by unfold W_X9_means at z; (try unfold isWS at z); (try unfold isShape at z); (try unfold isTold at z); (try dsimp only at z); omega)) (fun j => kk78.2.2 135 j (by omega) (fun z => by unfold W_X9_means at z; (try unfold isWS at z); (try unfold isShape at z); (try unfold isTold at z); (try dsimp only at z); omega)) (fun j => kk78.2.2 136 j (by omega) (fun z => by unfold W_X9_means at z; (try unfold isWS at z); (try unfold isShape at z); (try unfold isTold at z); (try dsimp only at z); omega)) (fun j => kk78.2.2 152 j (by omega) (fun z => by unfold W_X9_means at z; (try unfold isWS at z); (try unfold isShape at z); (try unfold isTold at z); (try dsimp only at z); omega)))
    have ppWF_m78 : WF m78 := (WF_of p_WF (fun j => kk78.2.2 141 j (by omega) (fun z => by unfold W_X9_means at z; (try unfold isWS at z); (try unfold isShape at z); (try unfold isTold at z); (try dsimp only at z); omega)) (fun j => kk78.2.2 142 j (by omega) (fun z => by unfold W_X9_means at z; (try unfold isWS at z); (try unfold isShape at z); (try unfold isTold at z); (try dsimp only at z); omega)) (fun j => kk78.2.2 143 j (by omega) (fun z => by unfold W_X9_means at z; (try unfold isWS at z); (try unfold isShape at z); (try unfold isTold at z); (try dsimp only at z); omega)) (fun j => kk78.2.2 144 j (by omega) (fun z => by unfold W_X9_means at z; (try unfold isWS at z); (try unfold isShape at z); (try unfold isTold at z); (try dsimp only at z); omega)) (fun j => kk78.2.2 138 j (by omega) (fun z => by unfold W_X9_means at z; (try unfold isWS at z); (try unfold isShape at z); (try unfold isTold at z); (try dsimp only at z); omega)))
    exact s_X9_holds_88 hk41 ⟨by omega, by omega⟩ ⟨by omega, by omega⟩ ⟨by omega, by omega⟩ ppF12_m78 ppNP_m78 ppSF_m78 ppWF_m78 (by omega) im78 km78
  · skip
    have ppF12_m78 : F12 m78 := (F12_of p_F12 (fun j => kk78.2.2 153 j (by omega) (fun z => by unfold W_X9_means at z; (try unfold isWS at z); (try unfold isShape at z); (try unfold isTold at z); (try dsimp only at z); omega)) (fun j => kk78.2.2 134 j (by omega) (fun z => by unfold W_X9_means at z; (try unfold isWS at z); (try unfold isShape at z); (try unfold isTold at z); (try dsimp only at z); omega)))
    have ppNP_m78 : NP m78 := (NP_of p_NP (fun j => kk78.2.2 152 j (by omega) (fun z => by unfold W_X9_means at z; (try unfold isWS at z); (try unfold isShape at z); (try unfold isTold at z); (try dsimp only at z); omega)))
    have ppSF_m78 : SF m78 := (SF_of p_SF (fun j => kk78.2.2 153 j (by omega) (fun z => by unfold W_X9_means at z; (try unfold isWS at z); (try unfold isShape at z); (try unfold isTold at z); (try dsimp only at z); omega)) (fun j => kk78.2.2 134 j (by omega) (fun z => by unfold W_X9_means at z; (try unfold isWS at z); (try unfold isShape at z); (try unfold isTold at z); (try dsimp only at z); omega)) (fun j => kk78.2.2 133 j (by omega) (fun z => by unfold W_X9_means at z; (try unfold isWS at z); (try unfold isShape at z); (try unfold isTold at z); (try dsimp only at z); omega)) (fun j => kk78.2.2 135 j (by omega) (fun z => by unfold W_X9_means at z; (try unfold isWS at z); (try unfold isShape at z); (try unfold isTold at z); (try dsimp only at z); omega)) (fun j => kk78.2.2 136 j (by omega) (fun z => by unfold W_X9_means at z; (try unfold isWS at z); (try unfold isShape at z); (try unfold isTold at z); (try dsimp only at z); omega)) (fun j => kk78.2.2 152 j (by omega) (fun z => by unfold W_X9_means at z; (try unfold isWS at z); (try unfold isShape at z); (try unfold isTold at z); (try dsimp only at z); omega)))
    have ppWF_m78 : WF m78 := (WF_of p_WF (fun j => kk78.2.2 141 j (by omega) (fun z => by unfold W_X9_means at z; (try unfold isWS at z); (try unfold isShape at z); (try unfold isTold at z); (try dsimp only at z); omega)) (fun j => kk78.2.2 142 j (by omega) (fun z => by unfold W_X9_means at z; (try unfold isWS at z); (try unfold isShape at z); (try unfold isTold at z); (try dsimp only at z); omega)) (fun j => kk78.2.2 143 j (by omega) (fun z => by unfold W_X9_means at z; (try unfold isWS at z); (try unfold isShape at z); (try unfold isTold at z); (try dsimp only at z); omega)) (fun j => kk78.2.2 144 j (by omega) (fun z => by unfold W_X9_means at z; (try unfold isWS at z); (try unfold isShape at z); (try unfold isTold at z); (try dsimp only at z); omega)) (fun j => kk78.2.2 138 j (by omega) (fun z => by unfold W_X9_means at z; (try unfold isWS at z); (try unfold isShape at z); (try unfold isTold at z); (try dsimp only at z); omega)))
    exact s_X9_holds_89 hk41 ⟨by omega, by omega⟩ ⟨by omega, by omega⟩ ⟨by omega, by omega⟩ ⟨by omega, by omega⟩ ppF12_m78 ppNP_m78 ppSF_m78 ppWF_m78 (by omega) im78 km78
theorem sb_X9_holds_41 {n : Nat} {Me : Mem} {k41 : Int → Int → Int → Int → Mem → Option (Int × Mem)} {fu41 : Nat} (hk41 : ∀ (l1 l2 l3 : Int) (M : Mem), (0 ≤ l1 ∧ l1 ≤ 1) → ((-2147483648) ≤ l2 ∧ l2 ≤ 2147483647) → (0 ≤ l3 ∧ l3 ≤ 4096) → (F12 M) → (NP M) → (SF M) → (WF M) → 4097 - l3 < (fu41 : Int) → I n M → Keep n W_X9_holds Me M → wp (k41 126 l1 l2 l3 M) (fun q => I n q.2 ∧ Keep n W_X9_holds Me q.2 ∧ ((-2147483648) ≤ q.1 ∧ q.1 ≤ 2147483647) ∧ True)) {l1 l2 l3 : Int} {M : Mem} (r_l1 : 0 ≤ l1 ∧ l1 ≤ 1) (r_l2 : (-2147483648) ≤ l2 ∧ l2 ≤ 2147483647) (r_l3 : 0 ≤ l3 ∧ l3 ≤ 4096) (p_F12 : F12 M) (p_NP : NP M) (p_SF : SF M) (p_WF : WF M) (hf41 : 4097 - l3 < (fu41 : Int) + 1) (iM : I n M) (kM : Keep n W_X9_holds Me M) : wp (bX9_holds_41 k41 126 l1 l2 l3 M) (fun q => I n q.2 ∧ Keep n W_X9_holds Me q.2 ∧ ((-2147483648) ≤ q.1 ∧ q.1 ≤ 2147483647) ∧ True) := by
  have hn : (169 : Int) ≤ (n : Int) := by have := iM.2.2.2.2.1; omega
  unfold bX9_holds_41
  refine w_gK (congrArg Prod.fst (kl_126 iM)) ?_
  refine w_call (s_X9_manyFacts iM) ?_
  intro v44 m44 pp44
  obtain ⟨im44, kk44, e44_0, e44_1, -⟩ := pp44
  try dsimp only
  replace im44 : I n m44 := im44
  replace kk44 : Keep n W_X9_manyFacts M m44 := kk44
  have km44 : Keep n W_X9_holds Me m44 := kM.tr kk44 (fun b j z => z.elim)
  replace e44_0 : 0 ≤ v44 ∧ v44 ≤ 36 := e44_0
  replace e44_1 : v44 = mG m44 153 (mG m44 134 0) := e44_1
  have ev44 := e44_1
  have ppF12_m44 : F12 m44 := (F12_of p_F12 (fun j => kk44.2.2 153 j (by omega) (fun z => z)) (fun j => kk44.2.2 134 j (by omega) (fun z => z)))
  have fv44 : v44 ≤ 12 := by rw [ev44]; exact ppF12_m44
  have w1_ := ishl1_b (k := v44) (B := 12) (by omega) (by omega) (by decide)
  refine w_if (fun c2_ => ?_) (fun c2_ => ?_)
  · skip
    exact w_ret ⟨im44, km44, (show (-2147483648) ≤ l2 ∧ l2 ≤ 2147483647 from ⟨by omega, by omega⟩), trivial⟩
  · skip
    refine w_if (fun c3_ => ?_) (fun c3_ => ?_)
    · skip
      refine w_gK (congrArg Prod.fst (kl_126 im44)) ?_
      have ppNP_m44 : NP m44 := (NP_of p_NP (fun j => kk44.2.2 152 j (by omega) (fun z => z)))
      have ppWF_m44 : WF m44 := (WF_of p_WF (fun j => kk44.2.2 141 j (by omega) (fun z => z)) (fun j => kk44.2.2 142 j (by omega) (fun z => z)) (fun j => kk44.2.2 143 j (by omega) (fun z => z)) (fun j => kk44.2.2 144 j (by omega) (fun z => z)) (fun j => kk44.2.2 138 j (by omega) (fun z => z)))
      refine w_call (s_X9_isWorld ⟨by omega, by omega⟩ ppF12_m44 ppNP_m44 ppWF_m44 im44) ?_
      intro v58 m58 pp58
      obtain ⟨im58, kk58, e58_0, -⟩ := pp58
      try dsimp only
      replace im58 : I n m58 := im58
      replace kk58 : Keep n W_X9_isWorld m44 m58 := kk58
      have km58 : Keep n W_X9_holds Me m58 := km44.tr kk58 (fun b j z => Or.elim z (fun z => (Or.inl ⟨by omega, by omega⟩)) (fun z => Or.elim z (fun z => (Or.inr (Or.inl ⟨by omega, by omega⟩))) (fun z => (Or.inr (Or.inr (Or.inr (Or.inl z)))))))
      replace e58_0 : 0 ≤ v58 ∧ v58 ≤ 1 := e58_0
      refine w_if (fun c4_ => ?_) (fun c4_ => ?_)
      · skip
        have ppF12_m58 : F12 m58 := (F12_of ppF12_m44 (fun j => kk58.2.2 153 j (by omega) (fun z => by unfold W_X9_isWorld at z; (try unfold isWS at z); (try unfold isShape at z); (try unfold isTold at z); (try dsimp only at z); omega)) (fun j => kk58.2.2 134 j (by omega) (fun z => by unfold W_X9_isWorld at z; (try unfold isWS at z); (try unfold isShape at z); (try unfold isTold at z); (try dsimp only at z); omega)))
        have ppNP_m58 : NP m58 := (NP_of ppNP_m44 (fun j => kk58.2.2 152 j (by omega) (fun z => by unfold W_X9_isWorld at z; (try unfold isWS at z); (try unfold isShape at z); (try unfold isTold at z); (try dsimp only at z); omega)))
        have ppSF_m58 : SF m58 := (SF_of (SF_of p_SF (fun j => kk44.2.2 153 j (by omega) (fun z => z)) (fun j => kk44.2.2 134 j (by omega) (fun z => z)) (fun j => kk44.2.2 133 j (by omega) (fun z => z)) (fun j => kk44.2.2 135 j (by omega) (fun z => z)) (fun j => kk44.2.2 136 j (by omega) (fun z => z)) (fun j => kk44.2.2 152 j (by omega) (fun z => z))) (fun j => kk58.2.2 153 j (by omega) (fun z => by unfold W_X9_isWorld at z; (try unfold isWS at z); (try unfold isShape at z); (try unfold isTold at z); (try dsimp only at z); omega)) (fun j => kk58.2.2 134 j (by omega) (fun z => by unfold W_X9_isWorld at z; (try unfold isWS at z); (try unfold isShape at z); (try unfold isTold at z); (try dsimp only at z); omega)) (fun j => kk58.2.2 133 j (by omega) (fun z => by unfold W_X9_isWorld at z; (try unfold isWS at z); (try unfold isShape at z); (try unfold isTold at z); (try dsimp only at z); omega)) (fun j => kk58.2.2 135 j (by omega) (fun z => by unfold W_X9_isWorld at z; (try unfold isWS at z); (try unfold isShape at z); (try unfold isTold at z); (try dsimp only at z); omega)) (fun j => kk58.2.2 136 j (by omega) (fun z => by unfold W_X9_isWorld at z; (try unfold isWS at z); (try unfold isShape at z); (try unfold isTold at z); (try dsimp only at z); omega)) (fun j => kk58.2.2 152 j (by omega) (fun z => by unfold W_X9_isWorld at z; (try unfold isWS at z); (try unfold isShape at z); (try unfold isTold at z); (try dsimp only at z); omega)))
        have ppWF_m58 : WF m58 := (WF_of ppWF_m44 (fun j => kk58.2.2 141 j (by omega) (fun z => by unfold W_X9_isWorld at z; (try unfold isWS at z); (try unfold isShape at z); (try unfold isTold at z); (try dsimp only at z); omega)) (fun j => kk58.2.2 142 j (by omega) (fun z => by unfold W_X9_isWorld at z; (try unfold isWS at z); (try unfold isShape at z); (try unfold isTold at z); (try dsimp only at z); omega)) (fun j => kk58.2.2 143 j (by omega) (fun z => by unfold W_X9_isWorld at z; (try unfold isWS at z); (try unfold isShape at z); (try unfold isTold at z); (try dsimp only at z); omega)) (fun j => kk58.2.2 144 j (by omega) (fun z => by unfold W_X9_isWorld at z; (try unfold isWS at z); (try unfold isShape at z); (try unfold isTold at z); (try dsimp only at z); omega)) (fun j => kk58.2.2 138 j (by omega) (fun z => by unfold W_X9_isWorld at z; (try unfold isWS at z); (try unfold isShape at z); (try unfold isTold at z); (try dsimp only at z); omega)))
        exact s_X9_holds_88 hk41 ⟨by omega, by omega⟩ ⟨by omega, by omega⟩ ⟨by omega, by omega⟩ ppF12_m58 ppNP_m58 ppSF_m58 ppWF_m58 (by omega) im58 km58
      · skip
        have ppF12_m58 : F12 m58 := (F12_of ppF12_m44 (fun j => kk58.2.2 153 j (by omega) (fun z => by unfold W_X9_isWorld at z; (try unfold isWS at z); (try unfold isShape at z); (try unfold isTold at z); (try dsimp only at z); omega)) (fun j => kk58.2.2 134 j (by omega) (fun z => by unfold W_X9_isWorld at z; (try unfold isWS at z); (try unfold isShape at z); (try unfold isTold at z); (try dsimp only at z); omega)))
        have ppNP_m58 : NP m58 := (NP_of ppNP_m44 (fun j => kk58.2.2 152 j (by omega) (fun z => by unfold W_X9_isWorld at z; (try unfold isWS at z); (try unfold isShape at z); (try unfold isTold at z); (try dsimp only at z); omega)))
        have ppSF_m58 : SF m58 := (SF_of (SF_of p_SF (fun j => kk44.2.2 153 j (by omega) (fun z => z)) (fun j => kk44.2.2 134 j (by omega) (fun z => z)) (fun j => kk44.2.2 133 j (by omega) (fun z => z)) (fun j => kk44.2.2 135 j (by omega) (fun z => z)) (fun j => kk44.2.2 136 j (by omega) (fun z => z)) (fun j => kk44.2.2 152 j (by omega) (fun z => z))) (fun j => kk58.2.2 153 j (by omega) (fun z => by unfold W_X9_isWorld at z; (try unfold isWS at z); (try unfold isShape at z); (try unfold isTold at z); (try dsimp only at z); omega)) (fun j => kk58.2.2 134 j (by omega) (fun z => by unfold W_X9_isWorld at z; (try unfold isWS at z); (try unfold isShape at z); (try unfold isTold at z); (try dsimp only at z); omega)) (fun j => kk58.2.2 133 j (by omega) (fun z => by unfold W_X9_isWorld at z; (try unfold isWS at z); (try unfold isShape at z); (try unfold isTold at z); (try dsimp only at z); omega)) (fun j => kk58.2.2 135 j (by omega) (fun z => by unfold W_X9_isWorld at z; (try unfold isWS at z); (try unfold isShape at z); (try unfold isTold at z); (try dsimp only at z); omega)) (fun j => kk58.2.2 136 j (by omega) (fun z => by unfold W_X9_isWorld at z; (try unfold isWS at z); (try unfold isShape at z); (try unfold isTold at z); (try dsimp only at z); omega)) (fun j => kk58.2.2 152 j (by omega) (fun z => by unfold W_X9_isWorld at z; (try unfold isWS at z); (try unfold isShape at z); (try unfold isTold at z); (try dsimp only at z); omega)))
        have ppWF_m58 : WF m58 := (WF_of ppWF_m44 (fun j => kk58.2.2 141 j (by omega) (fun z => by unfold W_X9_isWorld at z; (try unfold isWS at z); (try unfold isShape at z); (try unfold isTold at z); (try dsimp only at z); omega)) (fun j => kk58.2.2 142 j (by omega) (fun z => by unfold W_X9_isWorld at z; (try unfold isWS at z); (try unfold isShape at z); (try unfold isTold at z); (try dsimp only at z); omega)) (fun j => kk58.2.2 143 j (by omega) (fun z => by unfold W_X9_isWorld at z; (try unfold isWS at z); (try unfold isShape at z); (try unfold isTold at z); (try dsimp only at z); omega)) (fun j => kk58.2.2 144 j (by omega) (fun z => by unfold W_X9_isWorld at z; (try unfold isWS at z); (try unfold isShape at z); (try unfold isTold at z); (try dsimp only at z); omega)) (fun j => kk58.2.2 138 j (by omega) (fun z => by unfold W_X9_isWorld at z; (try unfold isWS at z); (try unfold isShape at z); (try unfold isTold at z); (try dsimp only at z); omega)))
        exact s_X9_holds_75 hk41 ⟨by omega, by omega⟩ ⟨by omega, by omega⟩ ⟨by omega, by omega⟩ ppF12_m58 ppNP_m58 ppSF_m58 ppWF_m58 (by omega) im58 km58
    · skip
      refine w_gK (congrArg Prod.fst (kl_126 im44)) ?_
      have ppNP_m44 : NP m44 := (NP_of p_NP (fun j => kk44.2.2 152 j (by omega) (fun z => z)))
      have ppWF_m44 : WF m44 := (WF_of p_WF (fun j => kk44.2.2 141 j (by omega) (fun z => z)) (fun j => kk44.2.2 142 j (by omega) (fun z => z)) (fun j => kk44.2.2 143 j (by omega) (fun z => z)) (fun j => kk44.2.2 144 j (by omega) (fun z => z)) (fun j => kk44.2.2 138 j (by omega) (fun z => z)))
      refine w_call (s_X9_isForm ⟨by omega, by omega⟩ ppF12_m44 ppNP_m44 ppWF_m44 im44) ?_
      intro v69 m69 pp69
      obtain ⟨im69, kk69, e69_0, -⟩ := pp69
      try dsimp only
      replace im69 : I n m69 := im69
      replace kk69 : Keep n W_X9_isForm m44 m69 := kk69
      have km69 : Keep n W_X9_holds Me m69 := km44.tr kk69 (fun b j z => Or.elim z (fun z => (Or.inl ⟨by omega, by omega⟩)) (fun z => Or.elim z (fun z => (Or.inr (Or.inl z))) (fun z => (Or.inr (Or.inr (Or.inr (Or.inl z)))))))
      replace e69_0 : 0 ≤ v69 ∧ v69 ≤ 1 := e69_0
      refine w_if (fun c5_ => ?_) (fun c5_ => ?_)
      · skip
        have ppF12_m69 : F12 m69 := (F12_of ppF12_m44 (fun j => kk69.2.2 153 j (by omega) (fun z => by unfold W_X9_isForm at z; (try unfold isWS at z); (try unfold isShape at z); (try unfold isTold at z); (try dsimp only at z); omega)) (fun j => kk69.2.2 134 j (by omega) (fun z => by unfold W_X9_isForm at z; (try unfold isWS at z); (try unfold isShape at z); (try unfold isTold at z); (try dsimp only at z); omega)))
        have ppNP_m69 : NP m69 := (NP_of ppNP_m44 (fun j => kk69.2.2 152 j (by omega) (fun z => by unfold W_X9_isForm at z; (try unfold isWS at z); (try unfold isShape at z); (try unfold isTold at z); (try dsimp only at z); omega)))
        have ppSF_m69 : SF m69 := (SF_of (SF_of p_SF (fun j => kk44.2.2 153 j (by omega) (fun z => z)) (fun j => kk44.2.2 134 j (by omega) (fun z => z)) (fun j => kk44.2.2 133 j (by omega) (fun z => z)) (fun j => kk44.2.2 135 j (by omega) (fun z => z)) (fun j => kk44.2.2 136 j (by omega) (fun z => z)) (fun j => kk44.2.2 152 j (by omega) (fun z => z))) (fun j => kk69.2.2 153 j (by omega) (fun z => by unfold W_X9_isForm at z; (try unfold isWS at z); (try unfold isShape at z); (try unfold isTold at z); (try dsimp only at z); omega)) (fun j => kk69.2.2 134 j (by omega) (fun z => by unfold W_X9_isForm at z; (try unfold isWS at z); (try unfold isShape at z); (try unfold isTold at z); (try dsimp only at z); omega)) (fun j => kk69.2.2 133 j (by omega) (fun z => by unfold W_X9_isForm at z; (try unfold isWS at z); (try unfold isShape at z); (try unfold isTold at z); (try dsimp only at z); omega)) (fun j => kk69.2.2 135 j (by omega) (fun z => by unfold W_X9_isForm at z; (try unfold isWS at z); (try unfold isShape at z); (try unfold isTold at z); (try dsimp only at z); omega)) (fun j => kk69.2.2 136 j (by omega) (fun z => by unfold W_X9_isForm at z; (try unfold isWS at z); (try unfold isShape at z); (try unfold isTold at z); (try dsimp only at z); omega)) (fun j => kk69.2.2 152 j (by omega) (fun z => by unfold W_X9_isForm at z; (try unfold isWS at z); (try unfold isShape at z); (try unfold isTold at z); (try dsimp only at z); omega)))
        have ppWF_m69 : WF m69 := (WF_of ppWF_m44 (fun j => kk69.2.2 141 j (by omega) (fun z => by unfold W_X9_isForm at z; (try unfold isWS at z); (try unfold isShape at z); (try unfold isTold at z); (try dsimp only at z); omega)) (fun j => kk69.2.2 142 j (by omega) (fun z => by unfold W_X9_isForm at z; (try unfold isWS at z); (try unfold isShape at z); (try unfold isTold at z); (try dsimp only at z); omega)) (fun j => kk69.2.2 143 j (by omega) (fun z => by unfold W_X9_isForm at z; (try unfold isWS at z); (try unfold isShape at z); (try unfold isTold at z); (try dsimp only at z); omega)) (fun j => kk69.2.2 144 j (by omega) (fun z => by unfold W_X9_isForm at z; (try unfold isWS at z); (try unfold isShape at z); (try unfold isTold at z); (try dsimp only at z); omega)) (fun j => kk69.2.2 138 j (by omega) (fun z => by unfold W_X9_isForm at z; (try unfold isWS at z); (try unfold isShape at z); (try unfold isTold at z); (try dsimp only at z); omega)))
        exact s_X9_holds_88 hk41 ⟨by omega, by omega⟩ ⟨by omega, by omega⟩ ⟨by omega, by omega⟩ ppF12_m69 ppNP_m69 ppSF_m69 ppWF_m69 (by omega) im69 km69
      · skip
        have ppF12_m69 : F12 m69 := (F12_of ppF12_m44 (fun j => kk69.2.2 153 j (by omega) (fun z => by unfold W_X9_isForm at z; (try unfold isWS at z); (try unfold isShape at z); (try unfold isTold at z); (try dsimp only at z); omega)) (fun j => kk69.2.2 134 j (by omega) (fun z => by unfold W_X9_isForm at z; (try unfold isWS at z); (try unfold isShape at z); (try unfold isTold at z); (try dsimp only at z); omega)))
        have ppNP_m69 : NP m69 := (NP_of ppNP_m44 (fun j => kk69.2.2 152 j (by omega) (fun z => by unfold W_X9_isForm at z; (try unfold isWS at z); (try unfold isShape at z); (try unfold isTold at z); (try dsimp only at z); omega)))
        have ppSF_m69 : SF m69 := (SF_of (SF_of p_SF (fun j => kk44.2.2 153 j (by omega) (fun z => z)) (fun j => kk44.2.2 134 j (by omega) (fun z => z)) (fun j => kk44.2.2 133 j (by omega) (fun z => z)) (fun j => kk44.2.2 135 j (by omega) (fun z => z)) (fun j => kk44.2.2 136 j (by omega) (fun z => z)) (fun j => kk44.2.2 152 j (by omega) (fun z => z))) (fun j => kk69.2.2 153 j (by omega) (fun z => by unfold W_X9_isForm at z; (try unfold isWS at z); (try unfold isShape at z); (try unfold isTold at z); (try dsimp only at z); omega)) (fun j => kk69.2.2 134 j (by omega) (fun z => by unfold W_X9_isForm at z; (try unfold isWS at z); (try unfold isShape at z); (try unfold isTold at z); (try dsimp only at z); omega)) (fun j => kk69.2.2 133 j (by omega) (fun z => by unfold W_X9_isForm at z; (try unfold isWS at z); (try unfold isShape at z); (try unfold isTold at z); (try dsimp only at z); omega)) (fun j => kk69.2.2 135 j (by omega) (fun z => by unfold W_X9_isForm at z; (try unfold isWS at z); (try unfold isShape at z); (try unfold isTold at z); (try dsimp only at z); omega)) (fun j => kk69.2.2 136 j (by omega) (fun z => by unfold W_X9_isForm at z; (try unfold isWS at z); (try unfold isShape at z); (try unfold isTold at z); (try dsimp only at z); omega)) (fun j => kk69.2.2 152 j (by omega) (fun z => by unfold W_X9_isForm at z; (try unfold isWS at z); (try unfold isShape at z); (try unfold isTold at z); (try dsimp only at z); omega)))
        have ppWF_m69 : WF m69 := (WF_of ppWF_m44 (fun j => kk69.2.2 141 j (by omega) (fun z => by unfold W_X9_isForm at z; (try unfold isWS at z); (try unfold isShape at z); (try unfold isTold at z); (try dsimp only at z); omega)) (fun j => kk69.2.2 142 j (by omega) (fun z => by unfold W_X9_isForm at z; (try unfold isWS at z); (try unfold isShape at z); (try unfold isTold at z); (try dsimp only at z); omega)) (fun j => kk69.2.2 143 j (by omega) (fun z => by unfold W_X9_isForm at z; (try unfold isWS at z); (try unfold isShape at z); (try unfold isTold at z); (try dsimp only at z); omega)) (fun j => kk69.2.2 144 j (by omega) (fun z => by unfold W_X9_isForm at z; (try unfold isWS at z); (try unfold isShape at z); (try unfold isTold at z); (try dsimp only at z); omega)) (fun j => kk69.2.2 138 j (by omega) (fun z => by unfold W_X9_isForm at z; (try unfold isWS at z); (try unfold isShape at z); (try unfold isTold at z); (try dsimp only at z); omega)))
        exact s_X9_holds_75 hk41 ⟨by omega, by omega⟩ ⟨by omega, by omega⟩ ⟨by omega, by omega⟩ ppF12_m69 ppNP_m69 ppSF_m69 ppWF_m69 (by omega) im69 km69
theorem s_X9_holds_41 {n : Nat} {Me : Mem} : ∀ (fu : Nat) (l1 l2 l3 : Int) (M : Mem), (0 ≤ l1 ∧ l1 ≤ 1) → ((-2147483648) ≤ l2 ∧ l2 ≤ 2147483647) → (0 ≤ l3 ∧ l3 ≤ 4096) → (F12 M) → (NP M) → (SF M) → (WF M) → 4097 - l3 < (fu : Int) → I n M → Keep n W_X9_holds Me M → wp (mX9_holds_41 fu 126 l1 l2 l3 M) (fun q => I n q.2 ∧ Keep n W_X9_holds Me q.2 ∧ ((-2147483648) ≤ q.1 ∧ q.1 ≤ 2147483647) ∧ True) := by
  intro fu
  induction fu with
  | zero =>
    intro l1 l2 l3 M r_l1 r_l2 r_l3 p_F12 p_NP p_SF p_WF hf iM kM
    exfalso
    omega
  | succ fu ih =>
    intro l1 l2 l3 M r_l1 r_l2 r_l3 p_F12 p_NP p_SF p_WF hf iM kM
    exact sb_X9_holds_41 ih r_l1 r_l2 r_l3 p_F12 p_NP p_SF p_WF (by have e : ((fu + 1 : Nat) : Int) = (fu : Int) + 1 := rfl; rw [e] at hf; exact hf) iM kM
theorem s_X9_holds {n : Nat} {l1 : Int} {M : Mem} (r_l1 : (-2147483648) ≤ l1 ∧ l1 ≤ 2147483647) (p_WF : WF M) (iM : I n M) : wp (mX9_holds 126 l1 M) (fun q => I n q.2 ∧ Keep n W_X9_holds M q.2 ∧ ((-2147483648) ≤ q.1 ∧ q.1 ≤ 2147483647) ∧ True) := by
  have hn : (169 : Int) ≤ (n : Int) := by have := iM.2.2.2.2.1; omega
  have kM : Keep n W_X9_holds M M := Keep.rf
  unfold mX9_holds
  refine w_pF (ji := 0) rfl (congrArg Prod.fst (kl_126 iM)) (fun M2 hM2 => ?_)
  replace hM2 : M2 = mS M 126 0 0 := hM2
  have iM2 : I n M2 := wr_Model_0 iM rfl ⟨by omega, by omega⟩ hM2
  have kM2 : Keep n W_X9_holds M M2 := kM.st hM2 (Or.inl (Or.inr (Or.inr (Or.inl ⟨rfl, rfl⟩))))
  refine w_gFc (ji := 15) rfl (congrArg Prod.fst (kl_126 iM2)) (show mG M2 126 15 = 141 from rd_Model_15 iM2 (a := 126) rfl) ?_
  refine w_aG (kl_141 iM2) (by decide) (by decide) (fun a11 ha11 => ?_)
  have ra11 : 0 ≤ a11 ∧ a11 ≤ 40 := ha11.tr (P := fun z => 0 ≤ z ∧ z ≤ 40) (rd_Mparts iM2 rfl)
  refine w_if (fun c1_ => ?_) (fun c1_ => ?_)
  · skip
    exact w_ret ⟨iM2, kM2, (show (-2147483648) ≤ (-1) ∧ (-1) ≤ 2147483647 from ⟨by omega, by omega⟩), trivial⟩
  · skip
    refine w_gK (congrArg Prod.fst (kl_126 iM2)) ?_
    refine w_call (s_X9_canTell iM2) ?_
    intro v16 m16 pp16
    obtain ⟨im16, kk16, e16_0, e16_1, e16_2, e16_3, -⟩ := pp16
    try dsimp only
    replace im16 : I n m16 := im16
    replace kk16 : Keep n W_X9_canTell M2 m16 := kk16
    have km16 : Keep n W_X9_holds M m16 := kM2.tr kk16 (fun b j z => by unfold W_X9_canTell at z; exact (Or.inl ⟨by omega, by omega⟩))
    replace e16_0 : 0 ≤ v16 ∧ v16 ≤ 1 := e16_0
    replace e16_1 : NP m16 := e16_1
    have gNP_m16 := e16_1
    replace e16_2 : SF m16 := e16_2
    have gSF_m16 := e16_2
    replace e16_3 : v16 = 1 → F12 m16 := e16_3
    have ev16 := e16_3
    refine w_if (fun c2_ => ?_) (fun c2_ => ?_)
    · skip
      exact w_ret ⟨im16, km16, (show (-2147483648) ≤ (-1) ∧ (-1) ≤ 2147483647 from ⟨by omega, by omega⟩), trivial⟩
    · skip
      have pF12_c2__m16 : F12 m16 := ev16 (by omega)
      refine w_call (s_X9_in ⟨by omega, by omega⟩ ⟨by omega, by omega⟩ ⟨by omega, by omega⟩ im16) ?_
      intro v25 m25 pp25
      obtain ⟨im25, kk25, e25_0, e25_1, -⟩ := pp25
      try dsimp only
      replace im25 : I n m25 := im25
      replace kk25 : Keep n W_X9_in m16 m25 := kk25
      have km25 : Keep n W_X9_holds M m25 := km16.tr kk25 (fun b j z => z.elim)
      replace e25_0 : 0 ≤ v25 ∧ v25 ≤ 1 := e25_0
      replace e25_1 : v25 = 1 → 0 ≤ l1 ∧ l1 ≤ 1 := e25_1
      refine w_if (fun c3_ => ?_) (fun c3_ => ?_)
      · skip
        exact w_ret ⟨im25, km25, (show (-2147483648) ≤ (-1) ∧ (-1) ≤ 2147483647 from ⟨by omega, by omega⟩), trivial⟩
      · skip
        refine w_gK (congrArg Prod.fst (kl_126 im25)) ?_
        have ppF12_m25 : F12 m25 := (F12_of pF12_c2__m16 (fun j => kk25.2.2 153 j (by omega) (fun z => z)) (fun j => kk25.2.2 134 j (by omega) (fun z => z)))
        have ppNP_m25 : NP m25 := (NP_of gNP_m16 (fun j => kk25.2.2 152 j (by omega) (fun z => z)))
        refine w_call (s_X9_prepare ppF12_m25 ppNP_m25 im25) ?_
        intro v34 m34 pp34
        obtain ⟨im34, kk34, -⟩ := pp34
        try dsimp only
        replace im34 : I n m34 := im34
        replace kk34 : Keep n W_X9_prepare m25 m34 := kk34
        have km34 : Keep n W_X9_holds M m34 := km25.tr kk34 (fun b j z => Or.elim z (fun z => (Or.inr (Or.inr (Or.inr (Or.inr (Or.inl z)))))) (fun z => Or.elim z (fun z => (Or.inr (Or.inr (Or.inr (Or.inr (Or.inr (Or.inl z))))))) (fun z => (Or.inr (Or.inr (Or.inr (Or.inr (Or.inr (Or.inr z)))))))))
        have ppF12_m34 : F12 m34 := (F12_of ppF12_m25 (fun j => kk34.2.2 153 j (by omega) (fun z => by unfold W_X9_prepare at z; (try unfold isWS at z); (try unfold isShape at z); (try unfold isTold at z); (try dsimp only at z); omega)) (fun j => kk34.2.2 134 j (by omega) (fun z => by unfold W_X9_prepare at z; (try unfold isWS at z); (try unfold isShape at z); (try unfold isTold at z); (try dsimp only at z); omega)))
        have ppNP_m34 : NP m34 := (NP_of ppNP_m25 (fun j => kk34.2.2 152 j (by omega) (fun z => by unfold W_X9_prepare at z; (try unfold isWS at z); (try unfold isShape at z); (try unfold isTold at z); (try dsimp only at z); omega)))
        have ppSF_m34 : SF m34 := (SF_of (SF_of gSF_m16 (fun j => kk25.2.2 153 j (by omega) (fun z => z)) (fun j => kk25.2.2 134 j (by omega) (fun z => z)) (fun j => kk25.2.2 133 j (by omega) (fun z => z)) (fun j => kk25.2.2 135 j (by omega) (fun z => z)) (fun j => kk25.2.2 136 j (by omega) (fun z => z)) (fun j => kk25.2.2 152 j (by omega) (fun z => z))) (fun j => kk34.2.2 153 j (by omega) (fun z => by unfold W_X9_prepare at z; (try unfold isWS at z); (try unfold isShape at z); (try unfold isTold at z); (try dsimp only at z); omega)) (fun j => kk34.2.2 134 j (by omega) (fun z => by unfold W_X9_prepare at z; (try unfold isWS at z); (try unfold isShape at z); (try unfold isTold at z); (try dsimp only at z); omega)) (fun j => kk34.2.2 133 j (by omega) (fun z => by unfold W_X9_prepare at z; (try unfold isWS at z); (try unfold isShape at z); (try unfold isTold at z); (try dsimp only at z); omega)) (fun j => kk34.2.2 135 j (by omega) (fun z => by unfold W_X9_prepare at z; (try unfold isWS at z); (try unfold isShape at z); (try unfold isTold at z); (try dsimp only at z); omega)) (fun j => kk34.2.2 136 j (by omega) (fun z => by unfold W_X9_prepare at z; (try unfold isWS at z); (try unfold isShape at z); (try unfold isTold at z); (try dsimp only at z); omega)) (fun j => kk34.2.2 152 j (by omega) (fun z => by unfold W_X9_prepare at z; (try unfold isWS at z); (try unfold isShape at z); (try unfold isTold at z); (try dsimp only at z); omega)))
        have ppWF_m34 : WF m34 := (WF_of (WF_of (WF_of (WF_of p_WF (fun j => st_ne hM2 (fun z => ne_fam rfl rfl (by decide) z.1)) (fun j => st_ne hM2 (fun z => ne_fam rfl rfl (by decide) z.1)) (fun j => st_ne hM2 (fun z => ne_fam rfl rfl (by decide) z.1)) (fun j => st_ne hM2 (fun z => ne_fam rfl rfl (by decide) z.1)) (fun j => st_ne hM2 (fun z => ne_fam rfl rfl (by decide) z.1))) (fun j => kk16.2.2 141 j (by omega) (fun z => by unfold W_X9_canTell at z; (try unfold isWS at z); (try unfold isShape at z); (try unfold isTold at z); (try dsimp only at z); omega)) (fun j => kk16.2.2 142 j (by omega) (fun z => by unfold W_X9_canTell at z; (try unfold isWS at z); (try unfold isShape at z); (try unfold isTold at z); (try dsimp only at z); omega)) (fun j => kk16.2.2 143 j (by omega) (fun z => by unfold W_X9_canTell at z; (try unfold isWS at z); (try unfold isShape at z); (try unfold isTold at z); (try dsimp only at z); omega)) (fun j => kk16.2.2 144 j (by omega) (fun z => by unfold W_X9_canTell at z; (try unfold isWS at z); (try unfold isShape at z); (try unfold isTold at z); (try dsimp only at z); omega)) (fun j => kk16.2.2 138 j (by omega) (fun z => by unfold W_X9_canTell at z; (try unfold isWS at z); (try unfold isShape at z); (try unfold isTold at z); (try dsimp only at z); omega))) (fun j => kk25.2.2 141 j (by omega) (fun z => z)) (fun j => kk25.2.2 142 j (by omega) (fun z => z)) (fun j => kk25.2.2 143 j (by omega) (fun z => z)) (fun j => kk25.2.2 144 j (by omega) (fun z => z)) (fun j => kk25.2.2 138 j (by omega) (fun z => z))) (fun j => kk34.2.2 141 j (by omega) (fun z => by unfold W_X9_prepare at z; (try unfold isWS at z); (try unfold isShape at z); (try unfold isTold at z); (try dsimp only at z); omega)) (fun j => kk34.2.2 142 j (by omega) (fun z => by unfold W_X9_prepare at z; (try unfold isWS at z); (try unfold isShape at z); (try unfold isTold at z); (try dsimp only at z); omega)) (fun j => kk34.2.2 143 j (by omega) (fun z => by unfold W_X9_prepare at z; (try unfold isWS at z); (try unfold isShape at z); (try unfold isTold at z); (try dsimp only at z); omega)) (fun j => kk34.2.2 144 j (by omega) (fun z => by unfold W_X9_prepare at z; (try unfold isWS at z); (try unfold isShape at z); (try unfold isTold at z); (try dsimp only at z); omega)) (fun j => kk34.2.2 138 j (by omega) (fun z => by unfold W_X9_prepare at z; (try unfold isWS at z); (try unfold isShape at z); (try unfold isTold at z); (try dsimp only at z); omega)))
        exact s_X9_holds_41 FU _ _ _ _ ⟨by omega, by omega⟩ ⟨by omega, by omega⟩ ⟨by omega, by omega⟩ ppF12_m34 ppNP_m34 ppSF_m34 ppWF_m34 (by show _ < (70000 : Int); omega) im34 km34
