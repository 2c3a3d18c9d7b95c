def W_X9_takeWorld (b j : Int) : Prop := b = 137
theorem s_X9_takeWorld_34 {n : Nat} {Me : Mem} {k7 : Int → Int → Int → Int → Mem → Option (Int × Mem)} {fu7 : Nat} (hk7 : ∀ (l1 l2 l3 : Int) (M : Mem), ((-2147483648) ≤ l1 ∧ l1 ≤ 2147483647) → (0 ≤ l2 ∧ l2 ≤ 36) → (0 ≤ l3 ∧ l3 ≤ 36) → (NP M) → 37 - l3 < (fu7 : Int) → I n M → Keep n W_X9_takeWorld Me M → wp (k7 126 l1 l2 l3 M) (fun q => I n q.2 ∧ Keep n W_X9_takeWorld Me q.2 ∧ True)) {l1 l2 l3 s1 s2 : Int} {M : Mem} (r_l1 : (-2147483648) ≤ l1 ∧ l1 ≤ 2147483647) (r_l2 : 1 ≤ l2 ∧ l2 ≤ 36) (r_l3 : 0 ≤ l3 ∧ l3 ≤ 35) (r_s1 : 0 ≤ s1 ∧ s1 ≤ 35) (r_s2 : 0 ≤ s2 ∧ s2 ≤ 1) (p_NP : NP M) (hf7 : 37 - l3 < (fu7 : Int) + 1) (iM : I n M) (kM : Keep n W_X9_takeWorld Me M) : wp (mX9_takeWorld_34 k7 126 l1 l2 l3 137 s1 s2 M) (fun q => I n q.2 ∧ Keep n W_X9_takeWorld Me q.2 ∧ True) := by
  have hn : (169 : Int) ≤ (n : Int) := by have := iM.2.2.2.2.1; omega
  unfold mX9_takeWorld_34
  refine w_aSZ (kl_137 iM) (by omega) (by omega) (by omega) (fun M34 hM34 => ?_)
  replace hM34 : M34 = mS M 137 s1 s2 := hM34
  have iM34 : I n M34 := wr_Mworld iM rfl ⟨by omega, by omega⟩ hM34
  have kM34 : Keep n W_X9_takeWorld Me M34 := kM.st hM34 (Or.inl rfl)
  have w1_ := wI_id (x := (l3 + 1)) (by omega) (by omega)
  have ppNP_M34 : NP M34 := (NP_of p_NP (fun j => st_ne hM34 (fun z => ne_fam rfl rfl (by decide) z.1)))
  exact hk7 _ _ _ _ ⟨by omega, by omega⟩ ⟨by omega, by omega⟩ ⟨by omega, by omega⟩ ppNP_M34 (by omega) iM34 kM34
theorem sb_X9_takeWorld_7 {n : Nat} {Me : Mem} {k7 : Int → Int → Int → Int → Mem → Option (Int × Mem)} {fu7 : Nat} (hk7 : ∀ (l1 l2 l3 : Int) (M : Mem), ((-2147483648) ≤ l1 ∧ l1 ≤ 2147483647) → (0 ≤ l2 ∧ l2 ≤ 36) → (0 ≤ l3 ∧ l3 ≤ 36) → (NP M) → 37 - l3 < (fu7 : Int) → I n M → Keep n W_X9_takeWorld Me M → wp (k7 126 l1 l2 l3 M) (fun q => I n q.2 ∧ Keep n W_X9_takeWorld Me q.2 ∧ True)) {l1 l2 l3 : Int} {M : Mem} (r_l1 : (-2147483648) ≤ l1 ∧ l1 ≤ 2147483647) (r_l2 : 0 ≤ l2 ∧ l2 ≤ 36) (r_l3 : 0 ≤ l3 ∧ l3 ≤ 36) (p_NP : NP M) (hf7 : 37 - l3 < (fu7 : Int) + 1) (iM : I n M) (kM : Keep n W_X9_takeWorld Me M) : wp (bX9_takeWorld_7 k7 126 l1 l2 l3 M) (fun q => I n q.2 ∧ Keep n W_X9_takeWorld Me q.2 ∧ True) := by
  have hn : (169 : Int) ≤ (n : Int) := by have := iM.2.2.2.2.1; omega
  unfold bX9_takeWorld_7
  refine w_if (fun c1_ => ?_) (fun c1_ => ?_)
  · skip
    exact w_ret ⟨iM, kM, trivial⟩
  · skip
    refine w_gFc (ji := 11) rfl (congrArg Prod.fst (kl_126 iM)) (show mG M 126 11 = 137 from rd_Model_11 iM (a := 126) rfl) ?_
    have w2_ := wI_id (x := (l2 - 1)) (by omega) (by omega)
    have w3_ := wI_id (x := ((wI (l2 - 1)) - l3)) (by omega) (by omega)
    have w4_ := ishr_in l1 (wI ((wI (l2 - 1)) - l3))
    have w5_ := iand_r (x := (ishr l1 (wI ((wI (l2 - 1)) - l3)))) (y := 1) (by omega) (by omega)
    refine w_if (fun c6_ => ?_) (fun c6_ => ?_)
    · skip
      exact s_X9_takeWorld_34 hk7 ⟨by omega, by omega⟩ ⟨by omega, by omega⟩ ⟨by omega, by omega⟩ ⟨by omega, by omega⟩ ⟨by omega, by omega⟩ p_NP (by omega) iM kM
    · skip
      exact s_X9_takeWorld_34 hk7 ⟨by omega, by omega⟩ ⟨by omega, by omega⟩ ⟨by omega, by omega⟩ ⟨by omega, by omega⟩ ⟨by omega, by omega⟩ p_NP (by omega) iM kM
theorem s_X9_takeWorld_7 {n : Nat} {Me : Mem} : ∀ (fu : Nat) (l1 l2 l3 : Int) (M : Mem), ((-2147483648) ≤ l1 ∧ l1 ≤ 2147483647) → (0 ≤ l2 ∧ l2 ≤ 36) → (0 ≤ l3 ∧ l3 ≤ 36) → (NP M) → 37 - l3 < (fu : Int) → I n M → Keep n W_X9_takeWorld Me M → wp (mX9_takeWorld_7 fu 126 l1 l2 l3 M) (fun q => I n q.2 ∧ Keep n W_X9_takeWorld Me q.2 ∧ True) := by
  intro fu
  induction fu with
  | zero =>
    intro l1 l2 l3 M r_l1 r_l2 r_l3 p_NP hf iM kM
    exfalso
    omega
  | succ fu ih =>
    intro l1 l2 l3 M r_l1 r_l2 r_l3 p_NP hf iM kM
    exact sb_X9_takeWorld_7 ih r_l1 r_l2 r_l3 p_NP (by have e : ((fu + 1 : Nat) : Int) = (fu : Int) + 1 := rfl; rw [e] at hf; exact hf) iM kM
theorem s_X9_takeWorld {n : Nat} {l1 : Int} {M : Mem} (r_l1 : (-2147483648) ≤ l1 ∧ l1 ≤ 2147483647) (p_NP : NP M) (iM : I n M) : wp (mX9_takeWorld 126 l1 M) (fun q => I n q.2 ∧ Keep n W_X9_takeWorld M q.2 ∧ True) := by
  have hn : (169 : Int) ≤ (n : Int) := by have := iM.2.2.2.2.1; omega
  have kM : Keep n W_X9_takeWorld M M := Keep.rf
  unfold mX9_takeWorld
  refine w_gK (congrArg Prod.fst (kl_126 iM)) ?_
  refine w_call (s_X9_manyFacts iM) ?_
  intro v1 m1 pp1
  obtain ⟨im1, kk1, e1_0, e1_1, -⟩ := pp1
  try dsimp only
  replace im1 : I n m1 := im1
  replace kk1 : Keep n W_X9_manyFacts M m1 := kk1
  have km1 : Keep n W_X9_takeWorld M m1 := kM.tr kk1 (fun b j z => z.elim)
  replace e1_0 : 0 ≤ v1 ∧ v1 ≤ 36 := e1_0
  replace e1_1 : v1 = mG m1 153 (mG m1 134 0) := e1_1
  have ev1 := e1_1
  have ppNP_m1 : NP m1 := (NP_of p_NP (fun j => kk1.2.2 152 j (by omega) (fun z => z)))
  exact s_X9_takeWorld_7 FU _ _ _ _ ⟨by omega, by omega⟩ ⟨by omega, by omega⟩ ⟨by omega, by omega⟩ ppNP_m1 (by show _ < (70000 : Int); omega) im1 km1
def W_X9_form (b j : Int) : Prop := b = 137 ∨ (152 ≤ b ∧ b ≤ 154) ∨ (160 ≤ b ∧ b ≤ 162) ∨ (b = 126 ∧ j = 0) ∨ (b = 126 ∧ j = 46) ∨ (b = 126 ∧ j = 48) ∨ (b = 126 ∧ j = 49) ∨ (b = 126 ∧ j = 50)
theorem s_X9_form_55 {n : Nat} {Me : Mem} {k22 : Int → Int → Int → Int → Mem → Option (Int × Mem)} {fu22 : Nat} (hk22 : ∀ (l1 l2 l3 : Int) (M : Mem), ((-2147483648) ≤ l1 ∧ l1 ≤ 2147483647) → ((-2147483648) ≤ l2 ∧ l2 ≤ 2147483647) → (0 ≤ l3 ∧ l3 ≤ 4096) → (F12 M) → (NP M) → (SF M) → (WF M) → 4097 - l3 < (fu22 : Int) → I n M → Keep n W_X9_form Me M → wp (k22 126 l1 l2 l3 M) (fun q => I n q.2 ∧ Keep n W_X9_form Me q.2 ∧ (0 ≤ q.1 ∧ q.1 ≤ 1) ∧ True)) {l1 l2 l3 : Int} {M : Mem} (r_l1 : (-2147483648) ≤ l1 ∧ l1 ≤ 2147483647) (r_l2 : (-2147483648) ≤ l2 ∧ l2 ≤ 2147483647) (r_l3 : 0 ≤ l3 ∧ l3 ≤ 4095) (p_F12 : F12 M) (p_NP : NP M) (p_SF : SF M) (p_WF : WF M) (hf22 : 4097 - l3 < (fu22 : Int) + 1) (iM : I n M) (kM : Keep n W_X9_form Me M) : wp (mX9_form_55 k22 126 l1 l2 l3 M) (fun q => I n q.2 ∧ Keep n W_X9_form Me q.2 ∧ (0 ≤ q.1 ∧ q.1 ≤ 1) ∧ True) := by
  have hn : (169 : Int) ≤ (n : Int) := by have := iM.2.2.2.2.1; omega
  unfold mX9_form_55
  have w1_ := wI_id (x := (l3 + 1)) (by omega) (by omega)
  exact hk22 _ _ _ _ ⟨by omega, by omega⟩ ⟨by omega, by omega⟩ ⟨by omega, by omega⟩ p_F12 p_NP p_SF p_WF (by omega) iM kM
theorem sb_X9_form_22 {n : Nat} {Me : Mem} {k22 : Int → Int → Int → Int → Mem → Option (Int × Mem)} {fu22 : Nat} (hk22 : ∀ (l1 l2 l3 : Int) (M : Mem), ((-2147483648) ≤ l1 ∧ l1 ≤ 2147483647) → ((-2147483648) ≤ l2 ∧ l2 ≤ 2147483647) → (0 ≤ l3 ∧ l3 ≤ 4096) → (F12 M) → (NP M) → (SF M) → (WF M) → 4097 - l3 < (fu22 : Int) → I n M → Keep n W_X9_form Me M → wp (k22 126 l1 l2 l3 M) (fun q => I n q.2 ∧ Keep n W_X9_form Me q.2 ∧ (0 ≤ q.1 ∧ q.1 ≤ 1) ∧ True)) {l1 l2 l3 : Int} {M : Mem} (r_l1 : (-2147483648) ≤ l1 ∧ l1 ≤ 2147483647) (r_l2 : (-2147483648) ≤ l2 ∧ l2 ≤ 2147483647) (r_l3 : 0 ≤ l3 ∧ l3 ≤ 4096) (p_F12 : F12 M) (p_NP : NP M) (p_SF : SF M) (p_WF : WF M) (hf22 : 4097 - l3 < (fu22 : Int) + 1) (iM : I n M) (kM : Keep n W_X9_form Me M) : wp (bX9_form_22 k22 126 l1 l2 l3 M) (fun q => I n q.2 ∧ Keep n W_X9_form Me q.2 ∧ (0 ≤ q.1 ∧ q.1 ≤ 1) ∧ True) := by
  have hn : (169 : Int) ≤ (n : Int) := by have := iM.2.2.2.2.1; omega
  unfold bX9_form_22
  refine w_gK (congrArg Prod.fst (kl_126 iM)) ?_
  refine w_call (s_X9_manyFacts iM) ?_
  intro v25 m25 pp25
  obtain ⟨im25, kk25, e25_0, e25_1, -⟩ := pp25
  try dsimp only
  replace im25 : I n m25 := im25
  replace kk25 : Keep n W_X9_manyFacts M m25 := kk25
  have km25 : Keep n W_X9_form Me m25 := kM.tr kk25 (fun b j z => z.elim)
  replace e25_0 : 0 ≤ v25 ∧ v25 ≤ 36 := e25_0
  replace e25_1 : v25 = mG m25 153 (mG m25 134 0) := e25_1
  have ev25 := e25_1
  have ppF12_m25 : F12 m25 := (F12_of p_F12 (fun j => kk25.2.2 153 j (by omega) (fun z => z)) (fun j => kk25.2.2 134 j (by omega) (fun z => z)))
  have fv25 : v25 ≤ 12 := by rw [ev25]; exact ppF12_m25
  have w1_ := ishl1_b (k := v25) (B := 12) (by omega) (by omega) (by decide)
  refine w_if (fun c2_ => ?_) (fun c2_ => ?_)
  · skip
    exact w_ret ⟨im25, km25, (show 0 ≤ 0 ∧ 0 ≤ 1 from ⟨by omega, by omega⟩), trivial⟩
  · skip
    refine w_gK (congrArg Prod.fst (kl_126 im25)) ?_
    have ppNP_m25 : NP m25 := (NP_of p_NP (fun j => kk25.2.2 152 j (by omega) (fun z => z)))
    have ppWF_m25 : WF m25 := (WF_of p_WF (fun j => kk25.2.2 141 j (by omega) (fun z => z)) (fun j => kk25.2.2 142 j (by omega) (fun z => z)) (fun j => kk25.2.2 143 j (by omega) (fun z => z)) (fun j => kk25.2.2 144 j (by omega) (fun z => z)) (fun j => kk25.2.2 138 j (by omega) (fun z => z)))
    refine w_call (s_X9_isForm ⟨by omega, by omega⟩ ppF12_m25 ppNP_m25 ppWF_m25 im25) ?_
    intro v34 m34 pp34
    obtain ⟨im34, kk34, e34_0, -⟩ := pp34
    try dsimp only
    replace im34 : I n m34 := im34
    replace kk34 : Keep n W_X9_isForm m25 m34 := kk34
    have km34 : Keep n W_X9_form Me m34 := km25.tr kk34 (fun b j z => Or.elim z (fun z => (Or.inr (Or.inl ⟨by omega, by omega⟩))) (fun z => Or.elim z (fun z => (Or.inr (Or.inr (Or.inl z)))) (fun z => (Or.inr (Or.inr (Or.inr (Or.inr (Or.inl z))))))))
    replace e34_0 : 0 ≤ v34 ∧ v34 ≤ 1 := e34_0
    refine w_if (fun c3_ => ?_) (fun c3_ => ?_)
    · skip
      have ppF12_m34 : F12 m34 := (F12_of ppF12_m25 (fun j => kk34.2.2 153 j (by omega) (fun z => by unfold W_X9_isForm at z; (try unfold isWS at z); (try unfold isShape at z); (try unfold isTold at z); (try dsimp only at z); omega)) (fun j => kk34.2.2 134 j (by omega) (fun z => by unfold W_X9_isForm at z; (try unfold isWS at z); (try unfold isShape at z); (try unfold isTold at z); (try dsimp only at z); omega)))
      have ppNP_m34 : NP m34 := (NP_of ppNP_m25 (fun j => kk34.2.2 152 j (by omega) (fun z => by unfold W_X9_isForm at z; (try unfold isWS at z); (try unfold isShape at z); (try unfold isTold at z); (try dsimp only at z); omega)))
      have ppSF_m34 : SF m34 := (SF_of (SF_of p_SF (fun j => kk25.2.2 153 j (by omega) (fun z => z)) (fun j => kk25.2.2 134 j (by omega) (fun z => z)) (fun j => kk25.2.2 133 j (by omega) (fun z => z)) (fun j => kk25.2.2 135 j (by omega) (fun z => z)) (fun j => kk25.2.2 136 j (by omega) (fun z => z)) (fun j => kk25.2.2 152 j (by omega) (fun z => z))) (fun j => kk34.2.2 153 j (by omega) (fun z => by unfold W_X9_isForm at z; (try unfold isWS at z); (try unfold isShape at z); (try unfold isTold at z); (try dsimp only at z); omega)) (fun j => kk34.2.2 134 j (by omega) (fun z => by unfold W_X9_isForm at z; (try unfold isWS at z); (try unfold isShape at z); (try unfold isTold at z); (try dsimp only at z); omega)) (fun j => kk34.2.2 133 j (by omega) (fun z => by unfold W_X9_isForm at z; (try unfold isWS at z); (try unfold isShape at z); (try unfold isTold at z); (try dsimp only at z); omega)) (fun j => kk34.2.2 135 j (by omega) (fun z => by unfold W_X9_isForm at z; (try unfold isWS at z); (try unfold isShape at z); (try unfold isTold at z); (try dsimp only at z); omega)) (fun j => kk34.2.2 136 j (by omega) (fun z => by unfold W_X9_isForm at z; (try unfold isWS at z); (try unfold isShape at z); (try unfold isTold at z); (try dsimp only at z); omega)) (fun j => kk34.2.2 152 j (by omega) (fun z => by unfold W_X9_isForm at z; (try unfold isWS at z); (try unfold isShape at z); (try unfold isTold at z); (try dsimp only at z); omega)))
      have ppWF_m34 : WF m34 := (WF_of ppWF_m25 (fun j => kk34.2.2 141 j (by omega) (fun z => by unfold W_X9_isForm at z; (try unfold isWS at z); (try unfold isShape at z); (try unfold isTold at z); (try dsimp only at z); omega)) (fun j => kk34.2.2 142 j (by omega) (fun z => by unfold W_X9_isForm at z; (try unfold isWS at z); (try unfold isShape at z); (try unfold isTold at z); (try dsimp only at z); omega)) (fun j => kk34.2.2 143 j (by omega) (fun z => by unfold W_X9_isForm at z; (try unfold isWS at z); (try unfold isShape at z); (try unfold isTold at z); (try dsimp only at z); omega)) (fun j => kk34.2.2 144 j (by omega) (fun z => by unfold W_X9_isForm at z; (try unfold isWS at z); (try unfold isShape at z); (try unfold isTold at z); (try dsimp only at z); omega)) (fun j => kk34.2.2 138 j (by omega) (fun z => by unfold W_X9_isForm at z; (try unfold isWS at z); (try unfold isShape at z); (try unfold isTold at z); (try dsimp only at z); omega)))
      exact s_X9_form_55 hk22 ⟨by omega, by omega⟩ ⟨by omega, by omega⟩ ⟨by omega, by omega⟩ ppF12_m34 ppNP_m34 ppSF_m34 ppWF_m34 (by omega) im34 km34
    · skip
      refine w_if (fun c4_ => ?_) (fun c4_ => ?_)
      · skip
        refine w_gK (congrArg Prod.fst (kl_126 im34)) ?_
        have ppNP_m34 : NP m34 := (NP_of ppNP_m25 (fun j => kk34.2.2 152 j (by omega) (fun z => by unfold W_X9_isForm at z; (try unfold isWS at z); (try unfold isShape at z); (try unfold isTold at z); (try dsimp only at z); omega)))
        refine w_call (s_X9_takeWorld ⟨by omega, by omega⟩ ppNP_m34 im34) ?_
        intro v47 m47 pp47
        obtain ⟨im47, kk47, -⟩ := pp47
        try dsimp only
        replace im47 : I n m47 := im47
        replace kk47 : Keep n W_X9_takeWorld m34 m47 := kk47
        have km47 : Keep n W_X9_form Me m47 := km34.tr kk47 (fun b j z => by unfold W_X9_takeWorld at z; exact (Or.inl z))
        exact w_ret ⟨im47, km47, (show 0 ≤ 1 ∧ 1 ≤ 1 from ⟨by omega, by omega⟩), trivial⟩
      · skip
        have w5_ := And.intro (wI_lo (l2 + 1)) (wI_hi (l2 + 1))
        have ppF12_m34 : F12 m34 := (F12_of ppF12_m25 (fun j => kk34.2.2 153 j (by omega) (fun z => by unfold W_X9_isForm at z; (try unfold isWS at z); (try unfold isShape at z); (try unfold isTold at z); (try dsimp only at z); omega)) (fun j => kk34.2.2 134 j (by omega) (fun z => by unfold W_X9_isForm at z; (try unfold isWS at z); (try unfold isShape at z); (try unfold isTold at z); (try dsimp only at z); omega)))
        have ppNP_m34 : NP m34 := (NP_of ppNP_m25 (fun j => kk34.2.2 152 j (by omega) (fun z => by unfold W_X9_isForm at z; (try unfold isWS at z); (try unfold isShape at z); (try unfold isTold at z); (try dsimp only at z); omega)))
        have ppSF_m34 : SF m34 := (SF_of (SF_of p_SF (fun j => kk25.2.2 153 j (by omega) (fun z => z)) (fun j => kk25.2.2 134 j (by omega) (fun z => z)) (fun j => kk25.2.2 133 j (by omega) (fun z => z)) (fun j => kk25.2.2 135 j (by omega) (fun z => z)) (fun j => kk25.2.2 136 j (by omega) (fun z => z)) (fun j => kk25.2.2 152 j (by omega) (fun z => z))) (fun j => kk34.2.2 153 j (by omega) (fun z => by unfold W_X9_isForm at z; (try unfold isWS at z); (try unfold isShape at z); (try unfold isTold at z); (try dsimp only at z); omega)) (fun j => kk34.2.2 134 j (by omega) (fun z => by unfold W_X9_isForm at z; (try unfold isWS at z); (try unfold isShape at z); (try unfold isTold at z); (try dsimp only at z); omega)) (fun j => kk34.2.2 133 j (by omega) (fun z => by unfold W_X9_isForm at z; (try unfold isWS at z); (try unfold isShape at z); (try unfold isTold at z); (try dsimp only at z); omega)) (fun j => kk34.2.2 135 j (by omega) (fun z => by unfold W_X9_isForm at z; (try unfold isWS at z); (try unfold isShape at z); (try unfold isTold at z); (try dsimp only at z); omega)) (fun j => kk34.2.2 136 j (by omega) (fun z => by unfold W_X9_isForm at z; (try unfold isWS at z); (try unfold isShape at z); (try unfold isTold at z); (try dsimp only at z); omega)) (fun j => kk34.2.2 152 j (by omega) (fun z => by unfold W_X9_isForm at z; (try unfold isWS at z); (try unfold isShape at z); (try unfold isTold at z); (try dsimp only at z); omega)))
        have ppWF_m34 : WF m34 := (WF_of ppWF_m25 (fun j => kk34.2.2 141 j (by omega) (fun z => by unfold W_X9_isForm at z; (try unfold isWS at z); (try unfold isShape at z); (try unfold isTold at z); (try dsimp only at z); omega)) (fun j => kk34.2.2 142 j (by omega) (fun z => by unfold W_X9_isForm at z; (try unfold isWS at z); (try unfold isShape at z); (try unfold isTold at z); (try dsimp only at z); omega)) (fun j => kk34.2.2 143 j (by omega) (fun z => by unfold W_X9_isForm at z; (try unfold isWS at z); (try unfold isShape at z); (try unfold isTold at z); (try dsimp only at z); omega)) (fun j => kk34.2.2 144 j (by omega) (fun z => by unfold W_X9_isForm at z; (try unfold isWS at z); (try unfold isShape at z); (try unfold isTold at z); (try dsimp only at z); omega)) (fun j => kk34.2.2 138 j (by omega) (fun z => by unfold W_X9_isForm at z; (try unfold isWS at z); (try unfold isShape at z); (try unfold isTold at z); (try dsimp only at z); omega)))
        exact s_X9_form_55 hk22 ⟨by omega, by omega⟩ ⟨by omega, by omega⟩ ⟨by omega, by omega⟩ ppF12_m34 ppNP_m34 ppSF_m34 ppWF_m34 (by omega) im34 km34
theorem s_X9_form_22 {n : Nat} {Me : Mem} : ∀ (fu : Nat) (l1 l2 l3 : Int) (M : Mem), ((-2147483648) ≤ l1 ∧ l1 ≤ 2147483647) → ((-2147483648) ≤ l2 ∧ l2 ≤ 2147483647) → (0 ≤ l3 ∧ l3 ≤ 4096) → (F12 M) → (NP M) → (SF M) → (WF M) → 4097 - l3 < (fu : Int) → I n M → Keep n W_X9_form Me M → wp (mX9_form_22 fu 126 l1 l2 l3 M) (fun q => I n q.2 ∧ Keep n W_X9_form Me q.2 ∧ (0 ≤ q.1 ∧ q.1 ≤ 1) ∧ True) := by
  intro fu
  induction fu with
  | zero =>
    intro l1 l2 l3 M r_l1 r_l2 r_l3 p_F12 p_NP p_SF p_WF hf iM kM
    exfalso
    omega
  | succ fu ih =>
    intro l1 l2 l3 M r_l1 r_l2 r_l3 p_F12 p_NP p_SF p_WF hf iM kM
    exact sb_X9_form_22 ih r_l1 r_l2 r_l3 p_F12 p_NP p_SF p_WF (by have e : ((fu + 1 : Nat) : Int) = (fu : Int) + 1 := rfl; rw [e] at hf; exact hf) iM kM
theorem s_X9_form {n : Nat} {l1 : Int} {M : Mem} (r_l1 : (-2147483648) ≤ l1 ∧ l1 ≤ 2147483647) (p_WF : WF M) (iM : I n M) : wp (mX9_form 126 l1 M) (fun q => I n q.2 ∧ Keep n W_X9_form M q.2 ∧ (0 ≤ q.1 ∧ q.1 ≤ 1) ∧ True) := by
  have hn : (169 : Int) ≤ (n : Int) := by have := iM.2.2.2.2.1; omega
  have kM : Keep n W_X9_form M M := Keep.rf
  unfold mX9_form
  refine w_pF (ji := 0) rfl (congrArg Prod.fst (kl_126 iM)) (fun M2 hM2 => ?_)
  replace hM2 : M2 = mS M 126 0 0 := hM2
  have iM2 : I n M2 := wr_Model_0 iM rfl ⟨by omega, by omega⟩ hM2
  have kM2 : Keep n W_X9_form M M2 := kM.st hM2 (Or.inl (Or.inr (Or.inr (Or.inr (Or.inl ⟨rfl, rfl⟩)))))
  refine w_gK (congrArg Prod.fst (kl_126 iM2)) ?_
  refine w_call (s_X9_canTell iM2) ?_
  intro v6 m6 pp6
  obtain ⟨im6, kk6, e6_0, e6_1, e6_2, e6_3, -⟩ := pp6
  try dsimp only
  replace im6 : I n m6 := im6
  replace kk6 : Keep n W_X9_canTell M2 m6 := kk6
  have km6 : Keep n W_X9_form M m6 := kM2.tr kk6 (fun b j z => by unfold W_X9_canTell at z; exact (Or.inr (Or.inl ⟨by omega, by omega⟩)))
  replace e6_0 : 0 ≤ v6 ∧ v6 ≤ 1 := e6_0
  replace e6_1 : NP m6 := e6_1
  have gNP_m6 := e6_1
  replace e6_2 : SF m6 := e6_2
  have gSF_m6 := e6_2
  replace e6_3 : v6 = 1 → F12 m6 := e6_3
  have ev6 := e6_3
  refine w_if (fun c1_ => ?_) (fun c1_ => ?_)
  · skip
    exact w_ret ⟨im6, km6, (show 0 ≤ 0 ∧ 0 ≤ 1 from ⟨by omega, by omega⟩), trivial⟩
  · skip
    have pF12_c1__m6 : F12 m6 := ev6 (by omega)
    refine w_gK (congrArg Prod.fst (kl_126 im6)) ?_
    refine w_call (s_X9_prepare pF12_c1__m6 gNP_m6 im6) ?_
    intro v15 m15 pp15
    obtain ⟨im15, kk15, -⟩ := pp15
    try dsimp only
    replace im15 : I n m15 := im15
    replace kk15 : Keep n W_X9_prepare m6 m15 := kk15
    have km15 : Keep n W_X9_form M m15 := km6.tr kk15 (fun b j z => Or.elim z (fun z => (Or.inr (Or.inr (Or.inr (Or.inr (Or.inr (Or.inl z))))))) (fun z => Or.elim z (fun z => (Or.inr (Or.inr (Or.inr (Or.inr (Or.inr (Or.inr (Or.inl z)))))))) (fun z => (Or.inr (Or.inr (Or.inr (Or.inr (Or.inr (Or.inr (Or.inr z))))))))))
    have ppF12_m15 : F12 m15 := (F12_of pF12_c1__m6 (fun j => kk15.2.2 153 j (by omega) (fun z => by unfold W_X9_prepare at z; (try unfold isWS at z); (try unfold isShape at z); (try unfold isTold at z); (try dsimp only at z); omega)) (fun j => kk15.2.2 134 j (by omega) (fun z => by unfold W_X9_prepare at z; (try unfold isWS at z); (try unfold isShape at z); (try unfold isTold at z); (try dsimp only at z); omega)))
    have ppNP_m15 : NP m15 := (NP_of gNP_m6 (fun j => kk15.2.2 152 j (by omega) (fun z => by unfold W_X9_prepare at z; (try unfold isWS at z); (try unfold isShape at z); (try unfold isTold at z); (try dsimp only at z); omega)))
    have ppSF_m15 : SF m15 := (SF_of gSF_m6 (fun j => kk15.2.2 153 j (by omega) (fun z => by unfold W_X9_prepare at z; (try unfold isWS at z); (try unfold isShape at z); (try unfold isTold at z); (try dsimp only at z); omega)) (fun j => kk15.2.2 134 j (by omega) (fun z => by unfold W_X9_prepare at z; (try unfold isWS at z); (try unfold isShape at z); (try unfold isTold at z); (try dsimp only at z); omega)) (fun j => kk15.2.2 133 j (by omega) (fun z => by unfold W_X9_prepare at z; (try unfold isWS at z); (try unfold isShape at z); (try unfold isTold at z); (try dsimp only at z); omega)) (fun j => kk15.2.2 135 j (by omega) (fun z => by unfold W_X9_prepare at z; (try unfold isWS at z); (try unfold isShape at z); (try unfold isTold at z); (try dsimp only at z); omega)) (fun j => kk15.2.2 136 j (by omega) (fun z => by unfold W_X9_prepare at z; (try unfold isWS at z); (try unfold isShape at z); (try unfold isTold at z); (try dsimp only at z); omega)) (fun j => kk15.2.2 152 j (by omega) (fun z => by unfold W_X9_prepare at z; (try unfold isWS at z); (try unfold isShape at z); (try unfold isTold at z); (try dsimp only at z); omega)))
    have ppWF_m15 : WF m15 := (WF_of (WF_of (WF_of p_WF (fun j => st_ne hM2 (fun z => ne_fam rfl rfl (by decide) z.1)) (fun j => st_ne hM2 (fun z => ne_fam rfl rfl (by decide) z.1)) (fun j => st_ne hM2 (fun z => ne_fam rfl rfl (by decide) z.1)) (fun j => st_ne hM2 (fun z => ne_fam rfl rfl (by decide) z.1)) (fun j => st_ne hM2 (fun z => ne_fam rfl rfl (by decide) z.1))) (fun j => kk6.2.2 141 j (by omega) (fun z => by unfold W_X9_canTell at z; (try unfold isWS at z); (try unfold isShape at z); (try unfold isTold at z); (try dsimp only at z); omega)) (fun j => kk6.2.2 142 j (by omega) (fun z => by unfold W_X9_canTell at z; (try unfold isWS at z); (try unfold isShape at z); (try unfold isTold at z); (try dsimp only at z); omega)) (fun j => kk6.2.2 143 j (by omega) (fun z => by unfold W_X9_canTell at z; (try unfold isWS at z); (try unfold isShape at z); (try unfold isTold at z); (try dsimp only at z); omega)) (fun j => kk6.2.2 144 j (by omega) (fun z => by unfold W_X9_canTell at z; (try unfold isWS at z); (try unfold isShape at z); (try unfold isTold at z); (try dsimp only at z); omega)) (fun j => kk6.2.2 138 j (by omega) (fun z => by unfold W_X9_canTell at z; (try unfold isWS at z); (try unfold isShape at z); (try unfold isTold at z); (try dsimp only at z); omega))) (fun j => kk15.2.2 141 j (by omega) (fun z => by unfold W_X9_prepare at z; (try unfold isWS at z); (try unfold isShape at z); (try unfold isTold at z); (try dsimp only at z); omega)) (fun j => kk15.2.2 142 j (by omega) (fun z => by unfold W_X9_prepare at z; (try unfold isWS at z); (try unfold isShape at z); (try unfold isTold at z); (try dsimp only at z); omega)) (fun j => kk15.2.2 143 j (by omega) (fun z => by unfold W_X9_prepare at z; (try unfold isWS at z); (try unfold isShape at z); (try unfold isTold at z); (try dsimp only at z); omega)) (fun j => kk15.2.2 144 j (by omega) (fun z => by unfold W_X9_prepare at z; (try unfold isWS at z); (try unfold isShape at z); (try unfold isTold at z); (try dsimp only at z); omega)) (fun j => kk15.2.2 138 j (by omega) (fun z => by unfold W_X9_prepare at z; (try unfold isWS at z); (try unfold isShape at z); (try unfold isTold at z); (try dsimp only at z); omega)))
    exact s_X9_form_22 FU _ _ _ _ ⟨by omega, by omega⟩ ⟨by omega, by omega⟩ ⟨by omega, by omega⟩ ppF12_m15 ppNP_m15 ppSF_m15 ppWF_m15 (by show _ < (70000 : Int); omega) im15 km15
def W_X9_name (b j : Int) : Prop := b = 137 ∨ (152 ≤ b ∧ b ≤ 154) ∨ b = 162 ∨ (b = 126 ∧ j = 0)
theorem s_X9_name {n : Nat} {M : Mem} (iM : I n M) : wp (mX9_name 126 M) (fun q => I n q.2 ∧ Keep n W_X9_name M q.2 ∧ (0 ≤ q.1 ∧ q.1 ≤ 1) ∧ True) := by
  have hn : (169 : Int) ≤ (n : Int) := by have := iM.2.2.2.2.1; omega
  have kM : Keep n W_X9_name M M := Keep.rf
  unfold mX9_name
  refine w_pF (ji := 0) rfl (congrArg Prod.fst (kl_126 iM)) (fun M2 hM2 => ?_)
  replace hM2 : M2 = mS M 126 0 0 := hM2
  have iM2 : I n M2 := wr_Model_0 iM rfl ⟨by omega, by omega⟩ hM2
  have kM2 : Keep n W_X9_name M M2 := kM.st hM2 (Or.inl (Or.inr (Or.inr (Or.inr ⟨rfl, rfl⟩))))
  refine w_gK (congrArg Prod.fst (kl_126 iM2)) ?_
  refine w_call (s_X9_canTell iM2) ?_
  intro v6 m6 pp6
  obtain ⟨im6, kk6, e6_0, e6_1, e6_2, e6_3, -⟩ := pp6
  try dsimp only
  replace im6 : I n m6 := im6
  replace kk6 : Keep n W_X9_canTell M2 m6 := kk6
  have km6 : Keep n W_X9_name M m6 := kM2.tr kk6 (fun b j z => by unfold W_X9_canTell at z; exact (Or.inr (Or.inl ⟨by omega, by omega⟩)))
  replace e6_0 : 0 ≤ v6 ∧ v6 ≤ 1 := e6_0
  replace e6_1 : NP m6 := e6_1
  have gNP_m6 := e6_1
  replace e6_2 : SF m6 := e6_2
  have gSF_m6 := e6_2
  replace e6_3 : v6 = 1 → F12 m6 := e6_3
  have ev6 := e6_3
  refine w_if (fun c1_ => ?_) (fun c1_ => ?_)
  · skip
    exact w_ret ⟨im6, km6, (show 0 ≤ 0 ∧ 0 ≤ 1 from ⟨by omega, by omega⟩), trivial⟩
  · skip
    have pF12_c1__m6 : F12 m6 := ev6 (by omega)
    refine w_gK (congrArg Prod.fst (kl_126 im6)) ?_
    refine w_call (s_X9_numberOfWorld gNP_m6 im6) ?_
    intro v15 m15 pp15
    obtain ⟨im15, kk15, e15_0, -⟩ := pp15
    try dsimp only
    replace im15 : I n m15 := im15
    replace kk15 : Keep n W_X9_numberOfWorld m6 m15 := kk15
    have km15 : Keep n W_X9_name M m15 := km6.tr kk15 (fun b j z => z.elim)
    replace e15_0 : (-2147483648) ≤ v15 ∧ v15 ≤ 2147483647 := e15_0
    refine w_gK (congrArg Prod.fst (kl_126 im15)) ?_
    have ppNP_m15 : NP m15 := (NP_of gNP_m6 (fun j => kk15.2.2 152 j (by omega) (fun z => z)))
    refine w_call (s_X9_layWorld ⟨by omega, by omega⟩ ppNP_m15 im15) ?_
    intro v21 m21 pp21
    obtain ⟨im21, kk21, -⟩ := pp21
    try dsimp only
    replace im21 : I n m21 := im21
    replace kk21 : Keep n W_X9_layWorld m15 m21 := kk21
    have km21 : Keep n W_X9_name M m21 := km15.tr kk21 (fun b j z => by unfold W_X9_layWorld at z; exact (Or.inr (Or.inl ⟨by omega, by omega⟩)))
    refine w_gK (congrArg Prod.fst (kl_126 im21)) ?_
    have ppNP_m21 : NP m21 := (NP_of ppNP_m15 (fun j => kk21.2.2 152 j (by omega) (fun z => by unfold W_X9_layWorld at z; (try unfold isWS at z); (try unfold isShape at z); (try unfold isTold at z); (try dsimp only at z); omega)))
    refine w_call (s_X9_leastImage ppNP_m21 im21) ?_
    intro v25 m25 pp25
    obtain ⟨im25, kk25, e25_0, -⟩ := pp25
    try dsimp only
    replace im25 : I n m25 := im25
    replace kk25 : Keep n W_X9_leastImage m21 m25 := kk25
    have km25 : Keep n W_X9_name M m25 := km21.tr kk25 (fun b j z => by unfold W_X9_leastImage at z; exact (Or.inr (Or.inr (Or.inl z))))
    replace e25_0 : (-2147483648) ≤ v25 ∧ v25 ≤ 2147483647 := e25_0
    refine w_gK (congrArg Prod.fst (kl_126 im25)) ?_
    have ppNP_m25 : NP m25 := (NP_of ppNP_m21 (fun j => kk25.2.2 152 j (by omega) (fun z => by unfold W_X9_leastImage at z; (try unfold isWS at z); (try unfold isShape at z); (try unfold isTold at z); (try dsimp only at z); omega)))
    refine w_call (s_X9_takeWorld ⟨by omega, by omega⟩ ppNP_m25 im25) ?_
    intro v31 m31 pp31
    obtain ⟨im31, kk31, -⟩ := pp31
    try dsimp only
    replace im31 : I n m31 := im31
    replace kk31 : Keep n W_X9_takeWorld m25 m31 := kk31
    have km31 : Keep n W_X9_name M m31 := km25.tr kk31 (fun b j z => by unfold W_X9_takeWorld at z; exact (Or.inl z))
    refine w_if (fun c2_ => ?_) (fun c2_ => ?_)
    · skip
      exact w_ret ⟨im31, km31, (show 0 ≤ 0 ∧ 0 ≤ 1 from ⟨by omega, by omega⟩), trivial⟩
    · skip
      exact w_ret ⟨im31, km31, (show 0 ≤ 1 ∧ 1 ≤ 1 from ⟨by omega, by omega⟩), trivial⟩
def W_X9_findStarts (b j : Int) : Prop := b = 153
theorem sb_X9_findStarts_9 {n : Nat} {Me : Mem} {k9 : Int → Int → Mem → Option (Int × Mem)} {fu9 : Nat} (hk9 : ∀ (l1 : Int) (M : Mem), (0 ≤ l1 ∧ l1 ≤ 4) → (NP M) → 5 - l1 < (fu9 : Int) → I n M → Keep n W_X9_findStarts Me M → wp (k9 126 l1 M) (fun q => I n q.2 ∧ Keep n W_X9_findStarts Me q.2 ∧ True)) {l1 : Int} {M : Mem} (r_l1 : 0 ≤ l1 ∧ l1 ≤ 4) (p_NP : NP M) (hf9 : 5 - l1 < (fu9 : Int) + 1) (iM : I n M) (kM : Keep n W_X9_findStarts Me M) : wp (bX9_findStarts_9 k9 126 l1 M) (fun q => I n q.2 ∧ Keep n W_X9_findStarts Me q.2 ∧ True) := by
  have hn : (169 : Int) ≤ (n : Int) := by have := iM.2.2.2.2.1; omega
  unfold bX9_findStarts_9
  refine w_gFc (ji := 8) rfl (congrArg Prod.fst (kl_126 iM)) (show mG M 126 8 = 134 from rd_Model_8 iM (a := 126) rfl) ?_
  refine w_aG (kl_134 iM) (by decide) (by decide) (fun a15 ha15 => ?_)
  have ra15 : 0 ≤ a15 ∧ a15 ≤ 4 := ha15.tr (P := fun z => 0 ≤ z ∧ z ≤ 4) (rd_Mrelations iM rfl)
  refine w_if (fun c1_ => ?_) (fun c1_ => ?_)
  · skip
    exact w_ret ⟨iM, kM, trivial⟩
  · skip
    refine w_gFc (ji := 27) rfl (congrArg Prod.fst (kl_126 iM)) (show mG M 126 27 = 153 from rd_Model_27 iM (a := 126) rfl) ?_
    refine w_gFc (ji := 27) rfl (congrArg Prod.fst (kl_126 iM)) (show mG M 126 27 = 153 from rd_Model_27 iM (a := 126) rfl) ?_
    refine w_aG (kl_153 iM) (by omega) (by omega) (fun a31 ha31 => ?_)
    have ra31 : 0 ≤ a31 ∧ a31 ≤ 9 * l1 := ha31.tr (P := fun z => 0 ≤ z ∧ z ≤ 9 * l1) (rd_Mstart iM rfl (by omega) (by omega))
    refine w_gFc (ji := 9) rfl (congrArg Prod.fst (kl_126 iM)) (show mG M 126 9 = 135 from rd_Model_9 iM (a := 126) rfl) ?_
    refine w_aG (kl_135 iM) (by omega) (by omega) (fun a38 ha38 => ?_)
    have ra38 : 0 ≤ a38 ∧ a38 ≤ 2 := ha38.tr (P := fun z => 0 ≤ z ∧ z ≤ 2) (rd_MfirstKind iM rfl)
    refine w_gK (congrArg Prod.fst (kl_126 iM)) ?_
    refine w_call (s_X9_sizeOf ⟨by omega, by omega⟩ p_NP iM) ?_
    intro v39 m39 pp39
    obtain ⟨im39, kk39, e39_0, -⟩ := pp39
    try dsimp only
    replace im39 : I n m39 := im39
    replace kk39 : Keep n W_X9_sizeOf M m39 := kk39
    have km39 : Keep n W_X9_findStarts Me m39 := kM.tr kk39 (fun b j z => z.elim)
    replace e39_0 : 1 ≤ v39 ∧ v39 ≤ 3 := e39_0
    refine w_gFc (ji := 10) rfl (congrArg Prod.fst (kl_126 im39)) (show mG m39 126 10 = 136 from rd_Model_10 im39 (a := 126) rfl) ?_
    refine w_aG (kl_136 im39) (by omega) (by omega) (fun a48 ha48 => ?_)
    have ra48 : (-1) ≤ a48 ∧ a48 ≤ 2 := ha48.tr (P := fun z => (-1) ≤ z ∧ z ≤ 2) (rd_MsecondKind im39 rfl)
    refine w_gK (congrArg Prod.fst (kl_126 im39)) ?_
    have ppNP_m39 : NP m39 := (NP_of p_NP (fun j => kk39.2.2 152 j (by omega) (fun z => z)))
    refine w_call (s_X9_sizeOf ⟨by omega, by omega⟩ ppNP_m39 im39) ?_
    intro v49 m49 pp49
    obtain ⟨im49, kk49, e49_0, -⟩ := pp49
    try dsimp only
    replace im49 : I n m49 := im49
    replace kk49 : Keep n W_X9_sizeOf m39 m49 := kk49
    have km49 : Keep n W_X9_findStarts Me m49 := km39.tr kk49 (fun b j z => z.elim)
    replace e49_0 : 1 ≤ v49 ∧ v49 ≤ 3 := e49_0
    have w2_ := wI_id (x := (l1 + 1)) (by omega) (by omega)
    have w3_ := mul_b (x := v39) (y := v49) (a := 3) (b := 3) (by omega) (by omega) (by omega) (by omega)
    have w4_ := wI_id (x := (v39 * v49)) (by omega) (by omega)
    have w5_ := wI_id (x := (a31 + (wI (v39 * v49)))) (by omega) (by omega)
    refine w_aS (kl_153 im49) (by omega) (by omega) (fun M54 hM54 => ?_)
    replace hM54 : M54 = mS m49 153 (wI (l1 + 1)) (wI (a31 + (wI (v39 * v49)))) := hM54
    have iM54 : I n M54 := wr_Mstart im49 rfl ⟨by omega, by omega⟩ hM54
    have kM54 : Keep n W_X9_findStarts Me M54 := km49.st hM54 (Or.inl rfl)
    obtain ⟨svM54, esvM54⟩ : ∃ z, z = (wI (a31 + (wI (v39 * v49)))) := ⟨_, rfl⟩
    have ppNP_M54 : NP M54 := (NP_of (NP_of ppNP_m39 (fun j => kk49.2.2 152 j (by omega) (fun z => z))) (fun j => st_ne hM54 (fun z => ne_fam rfl rfl (by decide) z.1)))
    exact hk9 _ _ ⟨by omega, by omega⟩ ppNP_M54 (by omega) iM54 kM54
theorem s_X9_findStarts_9 {n : Nat} {Me : Mem} : ∀ (fu : Nat) (l1 : Int) (M : Mem), (0 ≤ l1 ∧ l1 ≤ 4) → (NP M) → 5 - l1 < (fu : Int) → I n M → Keep n W_X9_findStarts Me M → wp (mX9_findStarts_9 fu 126 l1 M) (fun q => I n q.2 ∧ Keep n W_X9_findStarts Me q.2 ∧ True) := by
  intro fu
  induction fu with
  | zero =>
    intro l1 M r_l1 p_NP hf iM kM
    exfalso
    omega
  | succ fu ih =>
    intro l1 M r_l1 p_NP hf iM kM
    exact sb_X9_findStarts_9 ih r_l1 p_NP (by have e : ((fu + 1 : Nat) : Int) = (fu : Int) + 1 := rfl; rw [e] at hf; exact hf) iM kM
theorem s_X9_findStarts {n : Nat} {M : Mem} (p_NP : NP M) (iM : I n M) : wp (mX9_findStarts 126 M) (fun q => I n q.2 ∧ Keep n W_X9_findStarts M q.2 ∧ True) := by
  have hn : (169 : Int) ≤ (n : Int) := by have := iM.2.2.2.2.1; omega
  have kM : Keep n W_X9_findStarts M M := Keep.rf
  unfold mX9_findStarts
  refine w_gFc (ji := 27) rfl (congrArg Prod.fst (kl_126 iM)) (show mG M 126 27 = 153 from rd_Model_27 iM (a := 126) rfl) ?_
  refine w_aS (kl_153 iM) (by omega) (by omega) (fun M6 hM6 => ?_)
  replace hM6 : M6 = mS M 153 0 0 := hM6
  have iM6 : I n M6 := wr_Mstart iM rfl ⟨by omega, by omega⟩ hM6
  have kM6 : Keep n W_X9_findStarts M M6 := kM.st hM6 (Or.inl rfl)
  have ppNP_M6 : NP M6 := (NP_of p_NP (fun j => st_ne hM6 (fun z => ne_fam rfl rfl (by decide) z.1)))
  exact s_X9_findStarts_9 FU _ _ ⟨by omega, by omega⟩ ppNP_M6 (by show _ < (70000 : Int); omega) iM6 kM6
def W_X9_findLeast (b j : Int) : Prop := (152 ≤ b ∧ b ≤ 154) ∨ (160 ≤ b ∧ b ≤ 161) ∨ (b = 126 ∧ j = 46) ∨ (b = 126 ∧ j = 48) ∨ (b = 126 ∧ j = 49) ∨ (b = 126 ∧ j = 50) ∨ (b = 126 ∧ j = 52) ∨ (b = 126 ∧ j = 53) ∨ (b = 126 ∧ j = 54)
theorem s_X9_findLeast_145 {n : Nat} {Me : Mem} {k20 : Int → Int → Mem → Option (Int × Mem)} {fu20 : Nat} (hk20 : ∀ (l1 : Int) (M : Mem), (3 ≤ l1 ∧ l1 ≤ 10) → (WF M) → 11 - l1 < (fu20 : Int) → I n M → Keep n W_X9_findLeast Me M → wp (k20 126 l1 M) (fun q => I n q.2 ∧ Keep n W_X9_findLeast Me q.2 ∧ (0 ≤ q.1 ∧ q.1 ≤ 1) ∧ True)) {k28 : Int → Int → Int → Mem → Option (Int × Mem)} {fu28 : Nat} (hk28 : ∀ (l1 l2 : Int) (M : Mem), (3 ≤ l1 ∧ l1 ≤ 9) → (1 ≤ l2 ∧ l2 ≤ 4) → (WF M) → 11 - l1 < (fu20 : Int) + 1 → 5 - l2 < (fu28 : Int) → I n M → Keep n W_X9_findLeast Me M → wp (k28 126 l1 l2 M) (fun q => I n q.2 ∧ Keep n W_X9_findLeast Me q.2 ∧ (0 ≤ q.1 ∧ q.1 ≤ 1) ∧ True)) {k35 : Int → Int → Int → Int → Mem → Option (Int × Mem)} {fu35 : Nat} (hk35 : ∀ (l1 l2 l3 : Int) (M : Mem), (3 ≤ l1 ∧ l1 ≤ 9) → (1 ≤ l2 ∧ l2 ≤ 3) → (1 ≤ l3 ∧ l3 ≤ 4) → (WF M) → 11 - l1 < (fu20 : Int) + 1 → 5 - l2 < (fu28 : Int) + 1 → 5 - l3 < (fu35 : Int) → I n M → Keep n W_X9_findLeast Me M → wp (k35 126 l1 l2 l3 M) (fun q => I n q.2 ∧ Keep n W_X9_findLeast Me q.2 ∧ (0 ≤ q.1 ∧ q.1 ≤ 1) ∧ True)) {l1 l2 l3 : Int} {M : Mem} (r_l1 : 3 ≤ l1 ∧ l1 ≤ 9) (r_l2 : 1 ≤ l2 ∧ l2 ≤ 3) (r_l3 : 1 ≤ l3 ∧ l3 ≤ 3) (p_WF : WF M) (hf20 : 11 - l1 < (fu20 : Int) + 1) (hf28 : 5 - l2 < (fu28 : Int) + 1) (hf35 : 5 - l3 < (fu35 : Int) + 1) (iM : I n M) (kM : Keep n W_X9_findLeast Me M) : wp (mX9_findLeast_145 k20 k28 k35 126 l1 l2 l3 M) (fun q => I n q.2 ∧ Keep n W_X9_findLeast Me q.2 ∧ (0 ≤ q.1 ∧ q.1 ≤ 1) ∧ True) := by
  have hn : (169 : Int) ≤ (n : Int) := by have := iM.2.2.2.2.1; omega
  unfold mX9_findLeast_145
  have w1_ := wI_id (x := (l3 + 1)) (by omega) (by omega)
  exact hk35 _ _ _ _ ⟨by omega, by omega⟩ ⟨by omega, by omega⟩ ⟨by omega, by omega⟩ p_WF (by omega) (by omega) (by omega) iM kM
theorem sb_X9_findLeast_89 {n : Nat} {Me : Mem} {k20 : Int → Int → Mem → Option (Int × Mem)} {fu20 : Nat} (hk20 : ∀ (l1 : Int) (M : Mem), (3 ≤ l1 ∧ l1 ≤ 10) → (WF M) → 11 - l1 < (fu20 : Int) → I n M → Keep n W_X9_findLeast Me M → wp (k20 126 l1 M) (fun q => I n q.2 ∧ Keep n W_X9_findLeast Me q.2 ∧ (0 ≤ q.1 ∧ q.1 ≤ 1) ∧ True)) {k28 : Int → Int → Int → Mem → Option (Int × Mem)} {fu28 : Nat} (hk28 : ∀ (l1 l2 : Int) (M : Mem), (3 ≤ l1 ∧ l1 ≤ 9) → (1 ≤ l2 ∧ l2 ≤ 4) → (WF M) → 11 - l1 < (fu20 : Int) + 1 → 5 - l2 < (fu28 : Int) → I n M → Keep n W_X9_findLeast Me M → wp (k28 126 l1 l2 M) (fun q => I n q.2 ∧ Keep n W_X9_findLeast Me q.2 ∧ (0 ≤ q.1 ∧ q.1 ≤ 1) ∧ True)) {k35 : Int → Int → Int → Int → Mem → Option (Int × Mem)} {fu35 : Nat} (hk35 : ∀ (l1 l2 l3 : Int) (M : Mem), (3 ≤ l1 ∧ l1 ≤ 9) → (1 ≤ l2 ∧ l2 ≤ 3) → (1 ≤ l3 ∧ l3 ≤ 4) → (WF M) → 11 - l1 < (fu20 : Int) + 1 → 5 - l2 < (fu28 : Int) + 1 → 5 - l3 < (fu35 : Int) → I n M → Keep n W_X9_findLeast Me M → wp (k35 126 l1 l2 l3 M) (fun q => I n q.2 ∧ Keep n W_X9_findLeast Me q.2 ∧ (0 ≤ q.1 ∧ q.1 ≤ 1) ∧ True)) {k89 : Int → Int → Int → Int → Int → Mem → Option (Int × Mem)} {fu89 : Nat} (hk89 : ∀ (l1 l2 l3 l4 : Int) (M : Mem), (3 ≤ l1 ∧ l1 ≤ 9) → (1 ≤ l2 ∧ l2 ≤ 3) → (1 ≤ l3 ∧ l3 ≤ 3) → (0 ≤ l4 ∧ l4 ≤ 4096) → (NP M) → (WF M) → 11 - l1 < (fu20 : Int) + 1 → 5 - l2 < (fu28 : Int) + 1 → 5 - l3 < (fu35 : Int) + 1 → 4097 - l4 < (fu89 : Int) → I n M → Keep n W_X9_findLeast Me M → wp (k89 126 l1 l2 l3 l4 M) (fun q => I n q.2 ∧ Keep n W_X9_findLeast Me q.2 ∧ (0 ≤ q.1 ∧ q.1 ≤ 1) ∧ True)) {l1 l2 l3 l4 : Int} {M : Mem} (r_l1 : 3 ≤ l1 ∧ l1 ≤ 9) (r_l2 : 1 ≤ l2 ∧ l2 ≤ 3) (r_l3 : 1 ≤ l3 ∧ l3 ≤ 3) (r_l4 : 0 ≤ l4 ∧ l4 ≤ 4096) (p_NP : NP M) (p_WF : WF M) (hf20 : 11 - l1 < (fu20 : Int) + 1) (hf28 : 5 - l2 < (fu28 : Int) + 1) (hf35 : 5 - l3 < (fu35 : Int) + 1) (hf89 : 4097 - l4 < (fu89 : Int) + 1) (iM : I n M) (kM : Keep n W_X9_findLeast Me M) : wp (bX9_findLeast_89 k20 k28 k35 k89 126 l1 l2 l3 l4 M) (fun q => I n q.2 ∧ Keep n W_X9_findLeast Me q.2 ∧ (0 ≤ q.1 ∧ q.1 ≤ 1) ∧ True) := by
  have hn : (169 : Int) ≤ (n : Int) := by have := iM.2.2.2.2.1; omega
  unfold bX9_findLeast_89
  refine w_gK (congrArg Prod.fst (kl_126 iM)) ?_
  refine w_call (s_X9_manyFacts iM) ?_
  intro v90 m90 pp90
  obtain ⟨im90, kk90, e90_0, e90_1, -⟩ := pp90
  try dsimp only
  replace im90 : I n m90 := im90
  replace kk90 : Keep n W_X9_manyFacts M m90 := kk90
  have km90 : Keep n W_X9_findLeast Me m90 := kM.tr kk90 (fun b j z => z.elim)
  replace e90_0 : 0 ≤ v90 ∧ v90 ≤ 36 := e90_0
  replace e90_1 : v90 = mG m90 153 (mG m90 134 0) := e90_1
  have ev90 := e90_1
  refine w_if (fun c1_ => ?_) (fun c1_ => ?_)
  · skip
    have ppWF_m90 : WF m90 := (WF_of p_WF (fun j => kk90.2.2 141 j (by omega) (fun z => z)) (fun j => kk90.2.2 142 j (by omega) (fun z => z)) (fun j => kk90.2.2 143 j (by omega) (fun z => z)) (fun j => kk90.2.2 144 j (by omega) (fun z => z)) (fun j => kk90.2.2 138 j (by omega) (fun z => z)))
    exact s_X9_findLeast_145 hk20 hk28 hk35 ⟨by omega, by omega⟩ ⟨by omega, by omega⟩ ⟨by omega, by omega⟩ ppWF_m90 (by omega) (by omega) (by omega) im90 km90
  · skip
    have pF12_c1__m90 : F12 m90 := by unfold F12; rw [← ev90]; omega
    refine w_gK (congrArg Prod.fst (kl_126 im90)) ?_
    refine w_call (s_X9_manyFacts im90) ?_
    intro v102 m102 pp102
    obtain ⟨im102, kk102, e102_0, e102_1, -⟩ := pp102
    try dsimp only
    replace im102 : I n m102 := im102
    replace kk102 : Keep n W_X9_manyFacts m90 m102 := kk102
    have km102 : Keep n W_X9_findLeast Me m102 := km90.tr kk102 (fun b j z => z.elim)
    replace e102_0 : 0 ≤ v102 ∧ v102 ≤ 36 := e102_0
    replace e102_1 : v102 = mG m102 153 (mG m102 134 0) := e102_1
    have ev102 := e102_1
    have ppF12_m102 : F12 m102 := (F12_of pF12_c1__m90 (fun j => kk102.2.2 153 j (by omega) (fun z => z)) (fun j => kk102.2.2 134 j (by omega) (fun z => z)))
    have fv102 : v102 ≤ 12 := by rw [ev102]; exact ppF12_m102
    have w2_ := ishl1_b (k := v102) (B := 12) (by omega) (by omega) (by decide)
    refine w_if (fun c3_ => ?_) (fun c3_ => ?_)
    · skip
      have ppWF_m102 : WF m102 := (WF_of (WF_of p_WF (fun j => kk90.2.2 141 j (by omega) (fun z => z)) (fun j => kk90.2.2 142 j (by omega) (fun z => z)) (fun j => kk90.2.2 143 j (by omega) (fun z => z)) (fun j => kk90.2.2 144 j (by omega) (fun z => z)) (fun j => kk90.2.2 138 j (by omega) (fun z => z))) (fun j => kk102.2.2 141 j (by omega) (fun z => z)) (fun j => kk102.2.2 142 j (by omega) (fun z => z)) (fun j => kk102.2.2 143 j (by omega) (fun z => z)) (fun j => kk102.2.2 144 j (by omega) (fun z => z)) (fun j => kk102.2.2 138 j (by omega) (fun z => z)))
      exact s_X9_findLeast_145 hk20 hk28 hk35 ⟨by omega, by omega⟩ ⟨by omega, by omega⟩ ⟨by omega, by omega⟩ ppWF_m102 (by omega) (by omega) (by omega) im102 km102
    · skip
      refine w_gK (congrArg Prod.fst (kl_126 im102)) ?_
      have ppNP_m102 : NP m102 := (NP_of (NP_of p_NP (fun j => kk90.2.2 152 j (by omega) (fun z => z))) (fun j => kk102.2.2 152 j (by omega) (fun z => z)))
      have ppWF_m102 : WF m102 := (WF_of (WF_of p_WF (fun j => kk90.2.2 141 j (by omega) (fun z => z)) (fun j => kk90.2.2 142 j (by omega) (fun z => z)) (fun j => kk90.2.2 143 j (by omega) (fun z => z)) (fun j => kk90.2.2 144 j (by omega) (fun z => z)) (fun j => kk90.2.2 138 j (by omega) (fun z => z))) (fun j => kk102.2.2 141 j (by omega) (fun z => z)) (fun j => kk102.2.2 142 j (by omega) (fun z => z)) (fun j => kk102.2.2 143 j (by omega) (fun z => z)) (fun j => kk102.2.2 144 j (by omega) (fun z => z)) (fun j => kk102.2.2 138 j (by omega) (fun z => z)))
      refine w_call (s_X9_isWorld ⟨by omega, by omega⟩ ppF12_m102 ppNP_m102 ppWF_m102 im102) ?_
      intro v112 m112 pp112
      obtain ⟨im112, kk112, e112_0, -⟩ := pp112
      try dsimp only
      replace im112 : I n m112 := im112
      replace kk112 : Keep n W_X9_isWorld m102 m112 := kk112
      have km112 : Keep n W_X9_findLeast Me m112 := km102.tr kk112 (fun b j z => Or.elim z (fun z => (Or.inl ⟨by omega, by omega⟩)) (fun z => Or.elim z (fun z => (Or.inr (Or.inl z))) (fun z => (Or.inr (Or.inr (Or.inl z))))))
      replace e112_0 : 0 ≤ v112 ∧ v112 ≤ 1 := e112_0
      refine w_if (fun c4_ => ?_) (fun c4_ => ?_)
      · skip
        have w5_ := wI_id (x := (l4 + 1)) (by omega) (by omega)
        have ppNP_m112 : NP m112 := (NP_of ppNP_m102 (fun j => kk112.2.2 152 j (by omega) (fun z => by unfold W_X9_isWorld at z; (try unfold isWS at z); (try unfold isShape at z); (try unfold isTold at z); (try dsimp only at z); omega)))
        have ppWF_m112 : WF m112 := (WF_of ppWF_m102 (fun j => kk112.2.2 141 j (by omega) (fun z => by unfold W_X9_isWorld at z; (try unfold isWS at z); (try unfold isShape at z); (try unfold isTold at z); (try dsimp only at z); omega)) (fun j => kk112.2.2 142 j (by omega) (fun z => by unfold W_X9_isWorld at z; (try unfold isWS at z); (try unfold isShape at z); (try unfold isTold at z); (try dsimp only at z); omega)) (fun j => kk112.2.2 143 j (by omega) (fun z => by unfold W_X9_isWorld at z; (try unfold isWS at z); (try unfold isShape at z); (try unfold isTold at z); (try dsimp only at z); omega)) (fun j => kk112.2.2 144 j (by omega) (fun z => by unfold W_X9_isWorld at z; (try unfold isWS at z); (try unfold isShape at z); (try unfold isTold at z); (try dsimp only at z); omega)) (fun j => kk112.2.2 138 j (by omega) (fun z => by unfold W_X9_isWorld at z; (try unfold isWS at z); (try unfold isShape at z); (try unfold isTold at z); (try dsimp only at z); omega)))
        exact hk89 _ _ _ _ _ ⟨by omega, by omega⟩ ⟨by omega, by omega⟩ ⟨by omega, by omega⟩ ⟨by omega, by omega⟩ ppNP_m112 ppWF_m112 (by omega) (by omega) (by omega) (by omega) im112 km112
      · skip
        refine w_pF (ji := 52) rfl (congrArg Prod.fst (kl_126 im112)) (fun M120 hM120 => ?_)
        replace hM120 : M120 = mS m112 126 52 l2 := hM120
        have iM120 : I n M120 := wr_Model_52 im112 rfl ⟨by omega, by omega⟩ hM120
        have kM120 : Keep n W_X9_findLeast Me M120 := km112.st hM120 (Or.inl (Or.inr (Or.inr (Or.inr (Or.inr (Or.inr (Or.inr (Or.inl ⟨rfl, rfl⟩))))))))
        refine w_pF (ji := 53) rfl (congrArg Prod.fst (kl_126 iM120)) (fun M125 hM125 => ?_)
        replace hM125 : M125 = mS M120 126 53 l3 := hM125
        have iM125 : I n M125 := wr_Model_53 iM120 rfl ⟨by omega, by omega⟩ hM125
        have kM125 : Keep n W_X9_findLeast Me M125 := kM120.st hM125 (Or.inl (Or.inr (Or.inr (Or.inr (Or.inr (Or.inr (Or.inr (Or.inr (Or.inl ⟨rfl, rfl⟩)))))))))
        have w6_ := wI_id (x := (l1 - l2)) (by omega) (by omega)
        have w7_ := wI_id (x := ((wI (l1 - l2)) - l3)) (by omega) (by omega)
        refine w_pF (ji := 54) rfl (congrArg Prod.fst (kl_126 iM125)) (fun M134 hM134 => ?_)
        replace hM134 : M134 = mS M125 126 54 (wI ((wI (l1 - l2)) - l3)) := hM134
        have iM134 : I n M134 := wr_Model_54 iM125 rfl ⟨by omega, by omega⟩ hM134
        have kM134 : Keep n W_X9_findLeast Me M134 := kM125.st hM134 (Or.inl (Or.inr (Or.inr (Or.inr (Or.inr (Or.inr (Or.inr (Or.inr (Or.inr ⟨rfl, rfl⟩)))))))))
        obtain ⟨svM134, esvM134⟩ : ∃ z, z = (wI ((wI (l1 - l2)) - l3)) := ⟨_, rfl⟩
        exact w_ret ⟨iM134, kM134, (show 0 ≤ 1 ∧ 1 ≤ 1 from ⟨by omega, by omega⟩), trivial⟩
theorem s_X9_findLeast_89 {n : Nat} {Me : Mem} {k20 : Int → Int → Mem → Option (Int × Mem)} {fu20 : Nat} (hk20 : ∀ (l1 : Int) (M : Mem), (3 ≤ l1 ∧ l1 ≤ 10) → (WF M) → 11 - l1 < (fu20 : Int) → I n M → Keep n W_X9_findLeast Me M → wp (k20 126 l1 M) (fun q => I n q.2 ∧ Keep n W_X9_findLeast Me q.2 ∧ (0 ≤ q.1 ∧ q.1 ≤ 1) ∧ True)) {k28 : Int → Int → Int → Mem → Option (Int × Mem)} {fu28 : Nat} (hk28 : ∀ (l1 l2 : Int) (M : Mem), (3 ≤ l1 ∧ l1 ≤ 9) → (1 ≤ l2 ∧ l2 ≤ 4) → (WF M) → 11 - l1 < (fu20 : Int) + 1 → 5 - l2 < (fu28 : Int) → I n M → Keep n W_X9_findLeast Me M → wp (k28 126 l1 l2 M) (fun q => I n q.2 ∧ Keep n W_X9_findLeast Me q.2 ∧ (0 ≤ q.1 ∧ q.1 ≤ 1) ∧ True)) {k35 : Int → Int → Int → Int → Mem → Option (Int × Mem)} {fu35 : Nat} (hk35 : ∀ (l1 l2 l3 : Int) (M : Mem), (3 ≤ l1 ∧ l1 ≤ 9) → (1 ≤ l2 ∧ l2 ≤ 3) → (1 ≤ l3 ∧ l3 ≤ 4) → (WF M) → 11 - l1 < (fu20 : Int) + 1 → 5 - l2 < (fu28 : Int) + 1 → 5 - l3 < (fu35 : Int) → I n M → Keep n W_X9_findLeast Me M → wp (k35 126 l1 l2 l3 M) (fun q => I n q.2 ∧ Keep n W_X9_findLeast Me q.2 ∧ (0 ≤ q.1 ∧ q.1 ≤ 1) ∧ True)) : ∀ (fu : Nat) (l1 l2 l3 l4 : Int) (M : Mem), (3 ≤ l1 ∧ l1 ≤ 9) → (1 ≤ l2 ∧ l2 ≤ 3) → (1 ≤ l3 ∧ l3 ≤ 3) → (0 ≤ l4 ∧ l4 ≤ 4096) → (NP M) → (WF M) → 11 - l1 < (fu20 : Int) + 1 → 5 - l2 < (fu28 : Int) + 1 → 5 - l3 < (fu35 : Int) + 1 → 4097 - l4 < (fu : Int) → I n M → Keep n W_X9_findLeast Me M → wp (mX9_findLeast_89 k20 k28 k35 fu 126 l1 l2 l3 l4 M) (fun q => I n q.2 ∧ Keep n W_X9_findLeast Me q.2 ∧ (0 ≤ q.1 ∧ q.1 ≤ 1) ∧ True) := by
  intro fu
  induction fu with
  | zero =>
    intro l1 l2 l3 l4 M r_l1 r_l2 r_l3 r_l4 p_NP p_WF hf20 hf28 hf35 hf iM kM
    exfalso
    omega
  | succ fu ih =>
    intro l1 l2 l3 l4 M r_l1 r_l2 r_l3 r_l4 p_NP p_WF hf20 hf28 hf35 hf iM kM
    exact sb_X9_findLeast_89 hk20 hk28 hk35 ih r_l1 r_l2 r_l3 r_l4 p_NP p_WF hf20 hf28 hf35 (by have e : ((fu + 1 : Nat) : Int) = (fu : Int) + 1 := rfl; rw [e] at hf; exact hf) iM kM
theorem sb_X9_findLeast_35 {n : Nat} {Me : Mem} {k20 : Int → Int → Mem → Option (Int × Mem)} {fu20 : Nat} (hk20 : ∀ (l1 : Int) (M : Mem), (3 ≤ l1 ∧ l1 ≤ 10) → (WF M) → 11 - l1 < (fu20 : Int) → I n M → Keep n W_X9_findLeast Me M → wp (k20 126 l1 M) (fun q => I n q.2 ∧ Keep n W_X9_findLeast Me q.2 ∧ (0 ≤ q.1 ∧ q.1 ≤ 1) ∧ True)) {k28 : Int → Int → Int → Mem → Option (Int × Mem)} {fu28 : Nat} (hk28 : ∀ (l1 l2 : Int) (M : Mem), (3 ≤ l1 ∧ l1 ≤ 9) → (1 ≤ l2 ∧ l2 ≤ 4) → (WF M) → 11 - l1 < (fu20 : Int) + 1 → 5 - l2 < (fu28 : Int) → I n M → Keep n W_X9_findLeast Me M → wp (k28 126 l1 l2 M) (fun q => I n q.2 ∧ Keep n W_X9_findLeast Me q.2 ∧ (0 ≤ q.1 ∧ q.1 ≤ 1) ∧ True)) {k35 : Int → Int → Int → Int → Mem → Option (Int × Mem)} {fu35 : Nat} (hk35 : ∀ (l1 l2 l3 : Int) (M : Mem), (3 ≤ l1 ∧ l1 ≤ 9) → (1 ≤ l2 ∧ l2 ≤ 3) → (1 ≤ l3 ∧ l3 ≤ 4) → (WF M) → 11 - l1 < (fu20 : Int) + 1 → 5 - l2 < (fu28 : Int) + 1 → 5 - l3 < (fu35 : Int) → I n M → Keep n W_X9_findLeast Me M → wp (k35 126 l1 l2 l3 M) (fun q => I n q.2 ∧ Keep n W_X9_findLeast Me q.2 ∧ (0 ≤ q.1 ∧ q.1 ≤ 1) ∧ True)) {l1 l2 l3 : Int} {M : Mem} (r_l1 : 3 ≤ l1 ∧ l1 ≤ 9) (r_l2 : 1 ≤ l2 ∧ l2 ≤ 3) (r_l3 : 1 ≤ l3 ∧ l3 ≤ 4) (p_WF : WF M) (hf20 : 11 - l1 < (fu20 : Int) + 1) (hf28 : 5 - l2 < (fu28 : Int) + 1) (hf35 : 5 - l3 < (fu35 : Int) + 1) (iM : I n M) (kM : Keep n W_X9_findLeast Me M) : wp (bX9_findLeast_35 k20 k28 k35 126 l1 l2 l3 M) (fun q => I n q.2 ∧ Keep n W_X9_findLeast Me q.2 ∧ (0 ≤ q.1 ∧ q.1 ≤ 1) ∧ True) := by
  have hn : (169 : Int) ≤ (n : Int) := by have := iM.2.2.2.2.1; omega
  unfold bX9_findLeast_35
  refine w_if (fun c1_ => ?_) (fun c1_ => ?_)
  · skip
    have w2_ := wI_id (x := (l2 + 1)) (by omega) (by omega)
    exact hk28 _ _ _ ⟨by omega, by omega⟩ ⟨by omega, by omega⟩ p_WF (by omega) (by omega) iM kM
  · skip
    refine w_gFc (ji := 26) rfl (congrArg Prod.fst (kl_126 iM)) (show mG M 126 26 = 152 from rd_Model_26 iM (a := 126) rfl) ?_
    refine w_aS (kl_152 iM) (by omega) (by omega) (fun M46 hM46 => ?_)
    replace hM46 : M46 = mS M 152 0 l2 := hM46
    have iM46 : I n M46 := wr_Mnow iM rfl ⟨by omega, by omega⟩ hM46
    have kM46 : Keep n W_X9_findLeast Me M46 := kM.st hM46 (Or.inl (Or.inl ⟨by decide, by decide⟩))
    refine w_gFc (ji := 26) rfl (congrArg Prod.fst (kl_126 iM46)) (show mG M46 126 26 = 152 from rd_Model_26 iM46 (a := 126) rfl) ?_
    refine w_aS (kl_152 iM46) (by omega) (by omega) (fun M53 hM53 => ?_)
    replace hM53 : M53 = mS M46 152 1 l3 := hM53
    have iM53 : I n M53 := wr_Mnow iM46 rfl ⟨by omega, by omega⟩ hM53
    have kM53 : Keep n W_X9_findLeast Me M53 := kM46.st hM53 (Or.inl (Or.inl ⟨by decide, by decide⟩))
    refine w_gFc (ji := 26) rfl (congrArg Prod.fst (kl_126 iM53)) (show mG M53 126 26 = 152 from rd_Model_26 iM53 (a := 126) rfl) ?_
    have w3_ := wI_id (x := (l1 - l2)) (by omega) (by omega)
    have w4_ := wI_id (x := ((wI (l1 - l2)) - l3)) (by omega) (by omega)
    refine w_aS (kl_152 iM53) (by omega) (by omega) (fun M64 hM64 => ?_)
    replace hM64 : M64 = mS M53 152 2 (wI ((wI (l1 - l2)) - l3)) := hM64
    have iM64 : I n M64 := wr_Mnow iM53 rfl ⟨by omega, by omega⟩ hM64
    have kM64 : Keep n W_X9_findLeast Me M64 := kM53.st hM64 (Or.inl (Or.inl ⟨by decide, by decide⟩))
    obtain ⟨svM64, esvM64⟩ : ∃ z, z = (wI ((wI (l1 - l2)) - l3)) := ⟨_, rfl⟩
    refine w_gFc (ji := 26) rfl (congrArg Prod.fst (kl_126 iM64)) (show mG M64 126 26 = 152 from rd_Model_26 iM64 (a := 126) rfl) ?_
    refine w_aGc (kl_152 iM64) (by omega) (by omega) (show mG M64 152 2 = svM64 from (show mG M64 152 2 = svM64 from ((st_eq hM64).trans esvM64.symm))) ?_
    refine w_call (s_X9_in ⟨by omega, by omega⟩ ⟨by omega, by omega⟩ ⟨by omega, by omega⟩ iM64) ?_
    intro v73 m73 pp73
    obtain ⟨im73, kk73, e73_0, e73_1, -⟩ := pp73
    try dsimp only
    replace im73 : I n m73 := im73
    replace kk73 : Keep n W_X9_in M64 m73 := kk73
    have km73 : Keep n W_X9_findLeast Me m73 := kM64.tr kk73 (fun b j z => z.elim)
    replace e73_0 : 0 ≤ v73 ∧ v73 ≤ 1 := e73_0
    replace e73_1 : v73 = 1 → 1 ≤ svM64 ∧ svM64 ≤ 3 := e73_1
    refine w_if (fun c5_ => ?_) (fun c5_ => ?_)
    · skip
      have ppWF_m73 : WF m73 := (WF_of (WF_of (WF_of (WF_of p_WF (fun j => st_ne hM46 (fun z => ne_fam rfl rfl (by decide) z.1)) (fun j => st_ne hM46 (fun z => ne_fam rfl rfl (by decide) z.1)) (fun j => st_ne hM46 (fun z => ne_fam rfl rfl (by decide) z.1)) (fun j => st_ne hM46 (fun z => ne_fam rfl rfl (by decide) z.1)) (fun j => st_ne hM46 (fun z => ne_fam rfl rfl (by decide) z.1))) (fun j => st_ne hM53 (fun z => ne_fam rfl rfl (by decide) z.1)) (fun j => st_ne hM53 (fun z => ne_fam rfl rfl (by decide) z.1)) (fun j => st_ne hM53 (fun z => ne_fam rfl rfl (by decide) z.1)) (fun j => st_ne hM53 (fun z => ne_fam rfl rfl (by decide) z.1)) (fun j => st_ne hM53 (fun z => ne_fam rfl rfl (by decide) z.1))) (fun j => st_ne hM64 (fun z => ne_fam rfl rfl (by decide) z.1)) (fun j => st_ne hM64 (fun z => ne_fam rfl rfl (by decide) z.1)) (fun j => st_ne hM64 (fun z => ne_fam rfl rfl (by decide) z.1)) (fun j => st_ne hM64 (fun z => ne_fam rfl rfl (by decide) z.1)) (fun j => st_ne hM64 (fun z => ne_fam rfl rfl (by decide) z.1))) (fun j => kk73.2.2 141 j (by omega) (fun z => z)) (fun j => kk73.2.2 142 j (by omega) (fun z => z)) (fun j => kk73.2.2 143 j (by omega) (fun z => z)) (fun j => kk73.2.2 144 j (by omega) (fun z => z)) (fun j => kk73.2.2 138 j (by omega) (fun z => z)))
      exact s_X9_findLeast_145 hk20 hk28 hk35 ⟨by omega, by omega⟩ ⟨by omega, by omega⟩ ⟨by omega, by omega⟩ ppWF_m73 (by omega) (by omega) (by omega) im73 km73
    · skip
      refine w_gK (congrArg Prod.fst (kl_126 im73)) ?_
      have pNP_6 : NP m73 := NP.mk (show mG m73 152 0 = l2 from ((kk73.2.2 152 0 (by omega) (fun z => z)).trans ((st_ne hM64 (fun z => absurd z.2 (by decide))).trans ((st_ne hM53 (fun z => absurd z.2 (by decide))).trans (show mG M46 152 0 = l2 from (st_eq hM46)))))) (show mG m73 152 1 = l3 from ((kk73.2.2 152 1 (by omega) (fun z => z)).trans ((st_ne hM64 (fun z => absurd z.2 (by decide))).trans (show mG M53 152 1 = l3 from (st_eq hM53))))) (show mG m73 152 2 = svM64 from ((kk73.2.2 152 2 (by omega) (fun z => z)).trans (show mG M64 152 2 = svM64 from ((st_eq hM64).trans esvM64.symm)))) (by omega) (by omega) (by omega)
      refine w_call (s_X9_findStarts pNP_6 im73) ?_
      intro v83 m83 pp83
      obtain ⟨im83, kk83, -⟩ := pp83
      try dsimp only
      replace im83 : I n m83 := im83
      replace kk83 : Keep n W_X9_findStarts m73 m83 := kk83
      have km83 : Keep n W_X9_findLeast Me m83 := km73.tr kk83 (fun b j z => by unfold W_X9_findStarts at z; exact (Or.inl ⟨by omega, by omega⟩))
      have ppNP_m83 : NP m83 := (NP_of pNP_6 (fun j => kk83.2.2 152 j (by omega) (fun z => by unfold W_X9_findStarts at z; (try unfold isWS at z); (try unfold isShape at z); (try unfold isTold at z); (try dsimp only at z); omega)))
      have ppWF_m83 : WF m83 := (WF_of (WF_of (WF_of (WF_of (WF_of p_WF (fun j => st_ne hM46 (fun z => ne_fam rfl rfl (by decide) z.1)) (fun j => st_ne hM46 (fun z => ne_fam rfl rfl (by decide) z.1)) (fun j => st_ne hM46 (fun z => ne_fam rfl rfl (by decide) z.1)) (fun j => st_ne hM46 (fun z => ne_fam rfl rfl (by decide) z.1)) (fun j => st_ne hM46 (fun z => ne_fam rfl rfl (by decide) z.1))) (fun j => st_ne hM53 (fun z => ne_fam rfl rfl (by decide) z.1)) (fun j => st_ne hM53 (fun z => ne_fam rfl rfl (by decide) z.1)) (fun j => st_ne hM53 (fun z => ne_fam rfl rfl (by decide) z.1)) (fun j => st_ne hM53 (fun z => ne_fam rfl rfl (by decide) z.1)) (fun j => st_ne hM53 (fun z => ne_fam rfl rfl (by decide) z.1))) (fun j => st_ne hM64 (fun z => ne_fam rfl rfl (by decide) z.1)) (fun j => st_ne hM64 (fun z => ne_fam rfl rfl (by decide) z.1)) (fun j => st_ne hM64 (fun z => ne_fam rfl rfl (by decide) z.1)) (fun j => st_ne hM64 (fun z => ne_fam rfl rfl (by decide) z.1)) (fun j => st_ne hM64 (fun z => ne_fam rfl rfl (by decide) z.1))) (fun j => kk73.2.2 141 j (by omega) (fun z => z)) (fun j => kk73.2.2 142 j (by omega) (fun z => z)) (fun j => kk73.2.2 143 j (by omega) (fun z => z)) (fun j => kk73.2.2 144 j (by omega) (fun z => z)) (fun j => kk73.2.2 138 j (by omega) (fun z => z))) (fun j => kk83.2.2 141 j (by omega) (fun z => by unfold W_X9_findStarts at z; (try unfold isWS at z); (try unfold isShape at z); (try unfold isTold at z); (try dsimp only at z); omega)) (fun j => kk83.2.2 142 j (by omega) (fun z => by unfold W_X9_findStarts at z; (try unfold isWS at z); (try unfold isShape at z); (try unfold isTold at z); (try dsimp only at z); omega)) (fun j => kk83.2.2 143 j (by omega) (fun z => by unfold W_X9_findStarts at z; (try unfold isWS at z); (try unfold isShape at z); (try unfold isTold at z); (try dsimp only at z); omega)) (fun j => kk83.2.2 144 j (by omega) (fun z => by unfold W_X9_findStarts at z; (try unfold isWS at z); (try unfold isShape at z); (try unfold isTold at z); (try dsimp only at z); omega)) (fun j => kk83.2.2 138 j (by omega) (fun z => by unfold W_X9_findStarts at z; (try unfold isWS at z); (try unfold isShape at z); (try unfold isTold at z); (try dsimp only at z); omega)))
      exact s_X9_findLeast_89 hk20 hk28 hk35 FU _ _ _ _ _ ⟨by omega, by omega⟩ ⟨by omega, by omega⟩ ⟨by omega, by omega⟩ ⟨by omega, by omega⟩ ppNP_m83 ppWF_m83 (by omega) (by omega) (by omega) (by show _ < (70000 : Int); omega) im83 km83
theorem s_X9_findLeast_35 {n : Nat} {Me : Mem} {k20 : Int → Int → Mem → Option (Int × Mem)} {fu20 : Nat} (hk20 : ∀ (l1 : Int) (M : Mem), (3 ≤ l1 ∧ l1 ≤ 10) → (WF M) → 11 - l1 < (fu20 : Int) → I n M → Keep n W_X9_findLeast Me M → wp (k20 126 l1 M) (fun q => I n q.2 ∧ Keep n W_X9_findLeast Me q.2 ∧ (0 ≤ q.1 ∧ q.1 ≤ 1) ∧ True)) {k28 : Int → Int → Int → Mem → Option (Int × Mem)} {fu28 : Nat} (hk28 : ∀ (l1 l2 : Int) (M : Mem), (3 ≤ l1 ∧ l1 ≤ 9) → (1 ≤ l2 ∧ l2 ≤ 4) → (WF M) → 11 - l1 < (fu20 : Int) + 1 → 5 - l2 < (fu28 : Int) → I n M → Keep n W_X9_findLeast Me M → wp (k28 126 l1 l2 M) (fun q => I n q.2 ∧ Keep n W_X9_findLeast Me q.2 ∧ (0 ≤ q.1 ∧ q.1 ≤ 1) ∧ True)) : ∀ (fu : Nat) (l1 l2 l3 : Int) (M : Mem), (3 ≤ l1 ∧ l1 ≤ 9) → (1 ≤ l2 ∧ l2 ≤ 3) → (1 ≤ l3 ∧ l3 ≤ 4) → (WF M) → 11 - l1 < (fu20 : Int) + 1 → 5 - l2 < (fu28 : Int) + 1 → 5 - l3 < (fu : Int) → I n M → Keep n W_X9_findLeast Me M → wp (mX9_findLeast_35 k20 k28 fu 126 l1 l2 l3 M) (fun q => I n q.2 ∧ Keep n W_X9_findLeast Me q.2 ∧ (0 ≤ q.1 ∧ q.1 ≤ 1) ∧ True) := by
  intro fu
  induction fu with
  | zero =>
    intro l1 l2 l3 M r_l1 r_l2 r_l3 p_WF hf20 hf28 hf iM kM
    exfalso
    omega
  | succ fu ih =>
    intro l1 l2 l3 M r_l1 r_l2 r_l3 p_WF hf20 hf28 hf iM kM
    exact sb_X9_findLeast_35 hk20 hk28 ih r_l1 r_l2 r_l3 p_WF hf20 hf28 (by have e : ((fu + 1 : Nat) : Int) = (fu : Int) + 1 := rfl; rw [e] at hf; exact hf) iM kM
theorem sb_X9_findLeast_28 {n : Nat} {Me : Mem} {k20 : Int → Int → Mem → Option (Int × Mem)} {fu20 : Nat} (hk20 : ∀ (l1 : Int) (M : Mem), (3 ≤ l1 ∧ l1 ≤ 10) → (WF M) → 11 - l1 < (fu20 : Int) → I n M → Keep n W_X9_findLeast Me M → wp (k20 126 l1 M) (fun q => I n q.2 ∧ Keep n W_X9_findLeast Me q.2 ∧ (0 ≤ q.1 ∧ q.1 ≤ 1) ∧ True)) {k28 : Int → Int → Int → Mem → Option (Int × Mem)} {fu28 : Nat} (hk28 : ∀ (l1 l2 : Int) (M : Mem), (3 ≤ l1 ∧ l1 ≤ 9) → (1 ≤ l2 ∧ l2 ≤ 4) → (WF M) → 11 - l1 < (fu20 : Int) + 1 → 5 - l2 < (fu28 : Int) → I n M → Keep n W_X9_findLeast Me M → wp (k28 126 l1 l2 M) (fun q => I n q.2 ∧ Keep n W_X9_findLeast Me q.2 ∧ (0 ≤ q.1 ∧ q.1 ≤ 1) ∧ True)) {l1 l2 : Int} {M : Mem} (r_l1 : 3 ≤ l1 ∧ l1 ≤ 9) (r_l2 : 1 ≤ l2 ∧ l2 ≤ 4) (p_WF : WF M) (hf20 : 11 - l1 < (fu20 : Int) + 1) (hf28 : 5 - l2 < (fu28 : Int) + 1) (iM : I n M) (kM : Keep n W_X9_findLeast Me M) : wp (bX9_findLeast_28 k20 k28 126 l1 l2 M) (fun q => I n q.2 ∧ Keep n W_X9_findLeast Me q.2 ∧ (0 ≤ q.1 ∧ q.1 ≤ 1) ∧ True) := by
  have hn : (169 : Int) ≤ (n : Int) := by have := iM.2.2.2.2.1; omega
  unfold bX9_findLeast_28
  refine w_if (fun c1_ => ?_) (fun c1_ => ?_)
  · skip
    have w2_ := wI_id (x := (l1 + 1)) (by omega) (by omega)
    exact hk20 _ _ ⟨by omega, by omega⟩ p_WF (by omega) iM kM
  · skip
    exact s_X9_findLeast_35 hk20 hk28 FU _ _ _ _ ⟨by omega, by omega⟩ ⟨by omega, by omega⟩ ⟨by omega, by omega⟩ p_WF (by omega) (by omega) (by show _ < (70000 : Int); omega) iM kM
theorem s_X9_findLeast_28 {n : Nat} {Me : Mem} {k20 : Int → Int → Mem → Option (Int × Mem)} {fu20 : Nat} (hk20 : ∀ (l1 : Int) (M : Mem), (3 ≤ l1 ∧ l1 ≤ 10) → (WF M) → 11 - l1 < (fu20 : Int) → I n M → Keep n W_X9_findLeast Me M → wp (k20 126 l1 M) (fun q => I n q.2 ∧ Keep n W_X9_findLeast Me q.2 ∧ (0 ≤ q.1 ∧ q.1 ≤ 1) ∧ True)) : ∀ (fu : Nat) (l1 l2 : Int) (M : Mem), (3 ≤ l1 ∧ l1 ≤ 9) → (1 ≤ l2 ∧ l2 ≤ 4) → (WF M) → 11 - l1 < (fu20 : Int) + 1 → 5 - l2 < (fu : Int) → I n M → Keep n W_X9_findLeast Me M → wp (mX9_findLeast_28 k20 fu 126 l1 l2 M) (fun q => I n q.2 ∧ Keep n W_X9_findLeast Me q.2 ∧ (0 ≤ q.1 ∧ q.1 ≤ 1) ∧ True) := by
  intro fu
  induction fu with
  | zero =>
    intro l1 l2 M r_l1 r_l2 p_WF hf20 hf iM kM
    exfalso
    omega
  | succ fu ih =>
    intro l1 l2 M r_l1 r_l2 p_WF hf20 hf iM kM
    exact sb_X9_findLeast_28 hk20 ih r_l1 r_l2 p_WF hf20 (by have e : ((fu + 1 : Nat) : Int) = (fu : Int) + 1 := rfl; rw [e] at hf; exact hf) iM kM
theorem sb_X9_findLeast_20 {n : Nat} {Me : Mem} {k20 : Int → Int → Mem → Option (Int × Mem)} {fu20 : Nat} (hk20 : ∀ (l1 : Int) (M : Mem), (3 ≤ l1 ∧ l1 ≤ 10) → (WF M) → 11 - l1 < (fu20 : Int) → I n M → Keep n W_X9_findLeast Me M → wp (k20 126 l1 M) (fun q => I n q.2 ∧ Keep n W_X9_findLeast Me q.2 ∧ (0 ≤ q.1 ∧ q.1 ≤ 1) ∧ True)) {l1 : Int} {M : Mem} (r_l1 : 3 ≤ l1 ∧ l1 ≤ 10) (p_WF : WF M) (hf20 : 11 - l1 < (fu20 : Int) + 1) (iM : I n M) (kM : Keep n W_X9_findLeast Me M) : wp (bX9_findLeast_20 k20 126 l1 M) (fun q => I n q.2 ∧ Keep n W_X9_findLeast Me q.2 ∧ (0 ≤ q.1 ∧ q.1 ≤ 1) ∧ True) := by
  have hn : (169 : Int) ≤ (n : Int) := by have := iM.2.2.2.2.1; omega
  unfold bX9_findLeast_20
  refine w_if (fun c1_ => ?_) (fun c1_ => ?_)
  · skip
    exact w_ret ⟨iM, kM, (show 0 ≤ 0 ∧ 0 ≤ 1 from ⟨by omega, by omega⟩), trivial⟩
  · skip
    exact s_X9_findLeast_28 hk20 FU _ _ _ ⟨by omega, by omega⟩ ⟨by omega, by omega⟩ p_WF (by omega) (by show _ < (70000 : Int); omega) iM kM
theorem s_X9_findLeast_20 {n : Nat} {Me : Mem} : ∀ (fu : Nat) (l1 : Int) (M : Mem), (3 ≤ l1 ∧ l1 ≤ 10) → (WF M) → 11 - l1 < (fu : Int) → I n M → Keep n W_X9_findLeast Me M → wp (mX9_findLeast_20 fu 126 l1 M) (fun q => I n q.2 ∧ Keep n W_X9_findLeast Me q.2 ∧ (0 ≤ q.1 ∧ q.1 ≤ 1) ∧ True) := by
  intro fu
  induction fu with
  | zero =>
    intro l1 M r_l1 p_WF hf iM kM
    exfalso
    omega
  | succ fu ih =>
    intro l1 M r_l1 p_WF hf iM kM
    exact sb_X9_findLeast_20 ih r_l1 p_WF (by have e : ((fu + 1 : Nat) : Int) = (fu : Int) + 1 := rfl; rw [e] at hf; exact hf) iM kM
theorem s_X9_findLeast {n : Nat} {M : Mem} (p_WF : WF M) (iM : I n M) : wp (mX9_findLeast 126 M) (fun q => I n q.2 ∧ Keep n W_X9_findLeast M q.2 ∧ (0 ≤ q.1 ∧ q.1 ≤ 1) ∧ True) := by
  have hn : (169 : Int) ≤ (n : Int) := by have := iM.2.2.2.2.1; omega
  have kM : Keep n W_X9_findLeast M M := Keep.rf
  unfold mX9_findLeast
  refine w_gK (congrArg Prod.fst (kl_126 iM)) ?_
  refine w_call (s_X9_told iM) ?_
  intro v2 m2 pp2
  obtain ⟨im2, kk2, e2_0, -⟩ := pp2
  try dsimp only
  replace im2 : I n m2 := im2
  replace kk2 : Keep n W_X9_told M m2 := kk2
  have km2 : Keep n W_X9_findLeast M m2 := kM.tr kk2 (fun b j z => z.elim)
  replace e2_0 : 0 ≤ v2 ∧ v2 ≤ 4095 := e2_0
  refine w_pF (ji := 48) rfl (congrArg Prod.fst (kl_126 im2)) (fun M5 hM5 => ?_)
  replace hM5 : M5 = mS m2 126 48 v2 := hM5
  have iM5 : I n M5 := wr_Model_48 im2 rfl ⟨by omega, by omega⟩ hM5
  have kM5 : Keep n W_X9_findLeast M M5 := km2.st hM5 (Or.inl (Or.inr (Or.inr (Or.inr (Or.inl ⟨rfl, rfl⟩)))))
  refine w_pF (ji := 49) rfl (congrArg Prod.fst (kl_126 iM5)) (fun M10 hM10 => ?_)
  replace hM10 : M10 = mS M5 126 49 0 := hM10
  have iM10 : I n M10 := wr_Model_49 iM5 rfl ⟨by omega, by omega⟩ hM10
  have kM10 : Keep n W_X9_findLeast M M10 := kM5.st hM10 (Or.inl (Or.inr (Or.inr (Or.inr (Or.inr (Or.inl ⟨rfl, rfl⟩))))))
  refine w_pF (ji := 50) rfl (congrArg Prod.fst (kl_126 iM10)) (fun M15 hM15 => ?_)
  replace hM15 : M15 = mS M10 126 50 0 := hM15
  have iM15 : I n M15 := wr_Model_50 iM10 rfl ⟨by omega, by omega⟩ hM15
  have kM15 : Keep n W_X9_findLeast M M15 := kM10.st hM15 (Or.inl (Or.inr (Or.inr (Or.inr (Or.inr (Or.inr (Or.inl ⟨rfl, rfl⟩)))))))
  have ppWF_M15 : WF M15 := (WF_of (WF_of (WF_of (WF_of p_WF (fun j => kk2.2.2 141 j (by omega) (fun z => z)) (fun j => kk2.2.2 142 j (by omega) (fun z => z)) (fun j => kk2.2.2 143 j (by omega) (fun z => z)) (fun j => kk2.2.2 144 j (by omega) (fun z => z)) (fun j => kk2.2.2 138 j (by omega) (fun z => z))) (fun j => st_ne hM5 (fun z => ne_fam rfl rfl (by decide) z.1)) (fun j => st_ne hM5 (fun z => ne_fam rfl rfl (by decide) z.1)) (fun j => st_ne hM5 (fun z => ne_fam rfl rfl (by decide) z.1)) (fun j => st_ne hM5 (fun z => ne_fam rfl rfl (by decide) z.1)) (fun j => st_ne hM5 (fun z => ne_fam rfl rfl (by decide) z.1))) (fun j => st_ne hM10 (fun z => ne_fam rfl rfl (by decide) z.1)) (fun j => st_ne hM10 (fun z => ne_fam rfl rfl (by decide) z.1)) (fun j => st_ne hM10 (fun z => ne_fam rfl rfl (by decide) z.1)) (fun j => st_ne hM10 (fun z => ne_fam rfl rfl (by decide) z.1)) (fun j => st_ne hM10 (fun z => ne_fam rfl rfl (by decide) z.1))) (fun j => st_ne hM15 (fun z => ne_fam rfl rfl (by decide) z.1)) (fun j => st_ne hM15 (fun z => ne_fam rfl rfl (by decide) z.1)) (fun j => st_ne hM15 (fun z => ne_fam rfl rfl (by decide) z.1)) (fun j => st_ne hM15 (fun z => ne_fam rfl rfl (by decide) z.1)) (fun j => st_ne hM15 (fun z => ne_fam rfl rfl (by decide) z.1)))
  exact s_X9_findLeast_20 FU _ _ ⟨by omega, by omega⟩ ppWF_M15 (by show _ < (70000 : Int); omega) iM15 kM15
def W_X9_least (b j : Int) : Prop := (152 ≤ b ∧ b ≤ 154) ∨ (160 ≤ b ∧ b ≤ 161) ∨ (b = 126 ∧ j = 0) ∨ (b = 126 ∧ j = 46) ∨ (b = 126 ∧ j = 48) ∨ (b = 126 ∧ j = 49) ∨ (b = 126 ∧ j = 50) ∨ (b = 126 ∧ j = 52) ∨ (b = 126 ∧ j = 53) ∨ (b = 126 ∧ j = 54)
theorem s_X9_least {n : Nat} {l1 : Int} {M : Mem} (r_l1 : (-2147483648) ≤ l1 ∧ l1 ≤ 2147483647) (p_WF : WF M) (iM : I n M) : wp (mX9_least 126 l1 M) (fun q => I n q.2 ∧ Keep n W_X9_least M q.2 ∧ ((-2147483648) ≤ q.1 ∧ q.1 ≤ 2147483647) ∧ True) := by
  have hn : (169 : Int) ≤ (n : Int) := by have := iM.2.2.2.2.1; omega
  have kM : Keep n W_X9_least M M := Keep.rf
  unfold mX9_least
  refine w_pF (ji := 0) rfl (congrArg Prod.fst (kl_126 iM)) (fun M2 hM2 => ?_)
  replace hM2 : M2 = mS M 126 0 0 := hM2
  have iM2 : I n M2 := wr_Model_0 iM rfl ⟨by omega, by omega⟩ hM2
  have kM2 : Keep n W_X9_least M M2 := kM.st hM2 (Or.inl (Or.inr (Or.inr (Or.inl ⟨rfl, rfl⟩))))
  refine w_call (s_X9_in ⟨by omega, by omega⟩ ⟨by omega, by omega⟩ ⟨by omega, by omega⟩ iM2) ?_
  intro v8 m8 pp8
  obtain ⟨im8, kk8, e8_0, e8_1, -⟩ := pp8
  try dsimp only
  replace im8 : I n m8 := im8
  replace kk8 : Keep n W_X9_in M2 m8 := kk8
  have km8 : Keep n W_X9_least M m8 := kM2.tr kk8 (fun b j z => z.elim)
  replace e8_0 : 0 ≤ v8 ∧ v8 ≤ 1 := e8_0
  replace e8_1 : v8 = 1 → 0 ≤ l1 ∧ l1 ≤ 2 := e8_1
  refine w_if (fun c1_ => ?_) (fun c1_ => ?_)
  · skip
    exact w_ret ⟨im8, km8, (show (-2147483648) ≤ (-1) ∧ (-1) ≤ 2147483647 from ⟨by omega, by omega⟩), trivial⟩
  · skip
    refine w_gK (congrArg Prod.fst (kl_126 im8)) ?_
    have ppWF_m8 : WF m8 := (WF_of (WF_of p_WF (fun j => st_ne hM2 (fun z => ne_fam rfl rfl (by decide) z.1)) (fun j => st_ne hM2 (fun z => ne_fam rfl rfl (by decide) z.1)) (fun j => st_ne hM2 (fun z => ne_fam rfl rfl (by decide) z.1)) (fun j => st_ne hM2 (fun z => ne_fam rfl rfl (by decide) z.1)) (fun j => st_ne hM2 (fun z => ne_fam rfl rfl (by decide) z.1))) (fun j => kk8.2.2 141 j (by omega) (fun z => z)) (fun j => kk8.2.2 142 j (by omega) (fun z => z)) (fun j => kk8.2.2 143 j (by omega) (fun z => z)) (fun j => kk8.2.2 144 j (by omega) (fun z => z)) (fun j => kk8.2.2 138 j (by omega) (fun z => z)))
    refine w_call (s_X9_findLeast ppWF_m8 im8) ?_
    intro v15 m15 pp15
    obtain ⟨im15, kk15, e15_0, -⟩ := pp15
    try dsimp only
    replace im15 : I n m15 := im15
    replace kk15 : Keep n W_X9_findLeast m8 m15 := kk15
    have km15 : Keep n W_X9_least M m15 := km8.tr kk15 (fun b j z => Or.elim z (fun z => (Or.inl z)) (fun z => Or.elim z (fun z => (Or.inr (Or.inl z))) (fun z => Or.elim z (fun z => (Or.inr (Or.inr (Or.inr (Or.inl z))))) (fun z => Or.elim z (fun z => (Or.inr (Or.inr (Or.inr (Or.inr (Or.inl z)))))) (fun z => Or.elim z (fun z => (Or.inr (Or.inr (Or.inr (Or.inr (Or.inr (Or.inl z))))))) (fun z => Or.elim z (fun z => (Or.inr (Or.inr (Or.inr (Or.inr (Or.inr (Or.inr (Or.inl z)))))))) (fun z => Or.elim z (fun z => (Or.inr (Or.inr (Or.inr (Or.inr (Or.inr (Or.inr (Or.inr (Or.inl z))))))))) (fun z => Or.elim z (fun z => (Or.inr (Or.inr (Or.inr (Or.inr (Or.inr (Or.inr (Or.inr (Or.inr (Or.inl z)))))))))) (fun z => (Or.inr (Or.inr (Or.inr (Or.inr (Or.inr (Or.inr (Or.inr (Or.inr (Or.inr z))))))))))))))))))
    replace e15_0 : 0 ≤ v15 ∧ v15 ≤ 1 := e15_0
    refine w_if (fun c2_ => ?_) (fun c2_ => ?_)
    · skip
      exact w_ret ⟨im15, km15, (show (-2147483648) ≤ (-1) ∧ (-1) ≤ 2147483647 from ⟨by omega, by omega⟩), trivial⟩
    · skip
      refine w_if (fun c3_ => ?_) (fun c3_ => ?_)
      · skip
        refine w_gF (ji := 52) rfl (congrArg Prod.fst (kl_126 im15)) (fun a28 ha28 => ?_)
        have ra28 : (-2147483648) ≤ a28 ∧ a28 ≤ 2147483647 := ha28.tr (P := fun z => (-2147483648) ≤ z ∧ z ≤ 2147483647) (rd_Model_52 im15 rfl)
        exact w_ret ⟨im15, km15, (show (-2147483648) ≤ a28 ∧ a28 ≤ 2147483647 from ⟨by omega, by omega⟩), trivial⟩
      · skip
        refine w_if (fun c4_ => ?_) (fun c4_ => ?_)
        · skip
          refine w_gF (ji := 53) rfl (congrArg Prod.fst (kl_126 im15)) (fun a40 ha40 => ?_)
          have ra40 : (-2147483648) ≤ a40 ∧ a40 ≤ 2147483647 := ha40.tr (P := fun z => (-2147483648) ≤ z ∧ z ≤ 2147483647) (rd_Model_53 im15 rfl)
          exact w_ret ⟨im15, km15, (show (-2147483648) ≤ a40 ∧ a40 ≤ 2147483647 from ⟨by omega, by omega⟩), trivial⟩
        · skip
          refine w_gF (ji := 54) rfl (congrArg Prod.fst (kl_126 im15)) (fun a47 ha47 => ?_)
          have ra47 : (-2147483648) ≤ a47 ∧ a47 ≤ 2147483647 := ha47.tr (P := fun z => (-2147483648) ≤ z ∧ z ≤ 2147483647) (rd_Model_54 im15 rfl)
          exact w_ret ⟨im15, km15, (show (-2147483648) ≤ a47 ∧ a47 ≤ 2147483647 from ⟨by omega, by omega⟩), trivial⟩
def W_X9_findTogether (b j : Int) : Prop := b = 154 ∨ (160 ≤ b ∧ b ≤ 161) ∨ b = 163 ∨ (b = 126 ∧ j = 46) ∨ (b = 126 ∧ j = 49) ∨ (b = 126 ∧ j = 50)
theorem s_X9_findTogether_143 {n : Nat} {Me : Mem} {k37 : Int → Int → Int → Int → Int → Mem → Option (Int × Mem)} {fu37 : Nat} (hk37 : ∀ (l1 l2 l3 l4 : Int) (M : Mem), ((-1) ≤ l1 ∧ l1 ≤ 35) → (0 ≤ l2 ∧ l2 ≤ 1) → (0 ≤ l3 ∧ l3 ≤ 4095) → (0 ≤ l4 ∧ l4 ≤ 4096) → (F12 M) → (NP M) → (WF M) → 4097 - l4 < (fu37 : Int) → I n M → Keep n W_X9_findTogether Me M → wp (k37 126 l1 l2 l3 l4 M) (fun q => I n q.2 ∧ Keep n W_X9_findTogether Me q.2 ∧ True)) {l1 l2 l3 l4 : Int} {M : Mem} (r_l1 : (-1) ≤ l1 ∧ l1 ≤ 35) (r_l2 : 0 ≤ l2 ∧ l2 ≤ 1) (r_l3 : 0 ≤ l3 ∧ l3 ≤ 4095) (r_l4 : 0 ≤ l4 ∧ l4 ≤ 4095) (p_F12 : F12 M) (p_NP : NP M) (p_WF : WF M) (hf37 : 4097 - l4 < (fu37 : Int) + 1) (iM : I n M) (kM : Keep n W_X9_findTogether Me M) : wp (mX9_findTogether_143 k37 126 l1 l2 l3 l4 M) (fun q => I n q.2 ∧ Keep n W_X9_findTogether Me q.2 ∧ True) := by
  have hn : (169 : Int) ≤ (n : Int) := by have := iM.2.2.2.2.1; omega
  unfold mX9_findTogether_143
  have w1_ := wI_id (x := (l4 + 1)) (by omega) (by omega)
  exact hk37 _ _ _ _ _ ⟨by omega, by omega⟩ ⟨by omega, by omega⟩ ⟨by omega, by omega⟩ ⟨by omega, by omega⟩ p_F12 p_NP p_WF (by omega) iM kM
theorem s_X9_findTogether_126 {n : Nat} {Me : Mem} {k37 : Int → Int → Int → Int → Int → Mem → Option (Int × Mem)} {fu37 : Nat} (hk37 : ∀ (l1 l2 l3 l4 : Int) (M : Mem), ((-1) ≤ l1 ∧ l1 ≤ 35) → (0 ≤ l2 ∧ l2 ≤ 1) → (0 ≤ l3 ∧ l3 ≤ 4095) → (0 ≤ l4 ∧ l4 ≤ 4096) → (F12 M) → (NP M) → (WF M) → 4097 - l4 < (fu37 : Int) → I n M → Keep n W_X9_findTogether Me M → wp (k37 126 l1 l2 l3 l4 M) (fun q => I n q.2 ∧ Keep n W_X9_findTogether Me q.2 ∧ True)) {k87 : Int → Int → Int → Int → Int → Int → Int → Mem → Option (Int × Mem)} {fu87 : Nat} (hk87 : ∀ (l1 l2 l3 l4 l5 l6 : Int) (M : Mem), ((-1) ≤ l1 ∧ l1 ≤ 35) → (0 ≤ l2 ∧ l2 ≤ 1) → (0 ≤ l3 ∧ l3 ≤ 4095) → (0 ≤ l4 ∧ l4 ≤ 4095) → (0 ≤ l5 ∧ l5 ≤ 255) → (0 ≤ l6 ∧ l6 ≤ 8) → (F12 M) → (NP M) → (WF M) → 4097 - l4 < (fu37 : Int) + 1 → 9 - l6 < (fu87 : Int) → I n M → Keep n W_X9_findTogether Me M → wp (k87 126 l1 l2 l3 l4 l5 l6 M) (fun q => I n q.2 ∧ Keep n W_X9_findTogether Me q.2 ∧ True)) {l1 l2 l3 l4 l6 s0 s1 : Int} {M : Mem} (r_l1 : (-1) ≤ l1 ∧ l1 ≤ 35) (r_l2 : 0 ≤ l2 ∧ l2 ≤ 1) (r_l3 : 0 ≤ l3 ∧ l3 ≤ 4095) (r_l4 : 0 ≤ l4 ∧ l4 ≤ 4095) (r_l6 : 0 ≤ l6 ∧ l6 ≤ 7) (r_s0 : 0 ≤ s0 ∧ s0 ≤ 255) (r_s1 : 0 ≤ s1 ∧ s1 ≤ 128) (p_F12 : F12 M) (p_NP : NP M) (p_WF : WF M) (hf37 : 4097 - l4 < (fu37 : Int) + 1) (hf87 : 9 - l6 < (fu87 : Int) + 1) (iM : I n M) (kM : Keep n W_X9_findTogether Me M) : wp (mX9_findTogether_126 k37 k87 126 l1 l2 l3 l4 l6 s0 s1 M) (fun q => I n q.2 ∧ Keep n W_X9_findTogether Me q.2 ∧ True) := by
  have hn : (169 : Int) ≤ (n : Int) := by have := iM.2.2.2.2.1; omega
  unfold mX9_findTogether_126
  have w1_ := ior_b (x := s0) (y := s1) (k := 8) (by decide) (by omega) (by omega) (by omega) (by omega)
  have w2_ := wI_id (x := (l6 + 1)) (by omega) (by omega)
  exact hk87 _ _ _ _ _ _ _ ⟨by omega, by omega⟩ ⟨by omega, by omega⟩ ⟨by omega, by omega⟩ ⟨by omega, by omega⟩ ⟨by omega, by omega⟩ ⟨by omega, by omega⟩ p_F12 p_NP p_WF (by omega) (by omega) iM kM
theorem s_X9_findTogether_125 {n : Nat} {Me : Mem} {k37 : Int → Int → Int → Int → Int → Mem → Option (Int × Mem)} {fu37 : Nat} (hk37 : ∀ (l1 l2 l3 l4 : Int) (M : Mem), ((-1) ≤ l1 ∧ l1 ≤ 35) → (0 ≤ l2 ∧ l2 ≤ 1) → (0 ≤ l3 ∧ l3 ≤ 4095) → (0 ≤ l4 ∧ l4 ≤ 4096) → (F12 M) → (NP M) → (WF M) → 4097 - l4 < (fu37 : Int) → I n M → Keep n W_X9_findTogether Me M → wp (k37 126 l1 l2 l3 l4 M) (fun q => I n q.2 ∧ Keep n W_X9_findTogether Me q.2 ∧ True)) {k87 : Int → Int → Int → Int → Int → Int → Int → Mem → Option (Int × Mem)} {fu87 : Nat} (hk87 : ∀ (l1 l2 l3 l4 l5 l6 : Int) (M : Mem), ((-1) ≤ l1 ∧ l1 ≤ 35) → (0 ≤ l2 ∧ l2 ≤ 1) → (0 ≤ l3 ∧ l3 ≤ 4095) → (0 ≤ l4 ∧ l4 ≤ 4095) → (0 ≤ l5 ∧ l5 ≤ 255) → (0 ≤ l6 ∧ l6 ≤ 8) → (F12 M) → (NP M) → (WF M) → 4097 - l4 < (fu37 : Int) + 1 → 9 - l6 < (fu87 : Int) → I n M → Keep n W_X9_findTogether Me M → wp (k87 126 l1 l2 l3 l4 l5 l6 M) (fun q => I n q.2 ∧ Keep n W_X9_findTogether Me q.2 ∧ True)) {l1 l2 l3 l4 l6 s0 : Int} {M : Mem} (r_l1 : (-1) ≤ l1 ∧ l1 ≤ 35) (r_l2 : 0 ≤ l2 ∧ l2 ≤ 1) (r_l3 : 0 ≤ l3 ∧ l3 ≤ 4095) (r_l4 : 0 ≤ l4 ∧ l4 ≤ 4095) (r_l6 : 0 ≤ l6 ∧ l6 ≤ 7) (r_s0 : 0 ≤ s0 ∧ s0 ≤ 255) (p_F12 : F12 M) (p_NP : NP M) (p_WF : WF M) (hf37 : 4097 - l4 < (fu37 : Int) + 1) (hf87 : 9 - l6 < (fu87 : Int) + 1) (iM : I n M) (kM : Keep n W_X9_findTogether Me M) : wp (mX9_findTogether_125 k37 k87 126 l1 l2 l3 l4 l6 s0 M) (fun q => I n q.2 ∧ Keep n W_X9_findTogether Me q.2 ∧ True) := by
  have hn : (169 : Int) ≤ (n : Int) := by have := iM.2.2.2.2.1; omega
  unfold mX9_findTogether_125
  exact s_X9_findTogether_126 hk37 hk87 ⟨by omega, by omega⟩ ⟨by omega, by omega⟩ ⟨by omega, by omega⟩ ⟨by omega, by omega⟩ ⟨by omega, by omega⟩ ⟨by omega, by omega⟩ ⟨by omega, by omega⟩ p_F12 p_NP p_WF (by omega) (by omega) iM kM
theorem sb_X9_findTogether_87 {n : Nat} {Me : Mem} {k37 : Int → Int → Int → Int → Int → Mem → Option (Int × Mem)} {fu37 : Nat} (hk37 : ∀ (l1 l2 l3 l4 : Int) (M : Mem), ((-1) ≤ l1 ∧ l1 ≤ 35) → (0 ≤ l2 ∧ l2 ≤ 1) → (0 ≤ l3 ∧ l3 ≤ 4095) → (0 ≤ l4 ∧ l4 ≤ 4096) → (F12 M) → (NP M) → (WF M) → 4097 - l4 < (fu37 : Int) → I n M → Keep n W_X9_findTogether Me M → wp (k37 126 l1 l2 l3 l4 M) (fun q => I n q.2 ∧ Keep n W_X9_findTogether Me q.2 ∧ True)) {k87 : Int → Int → Int → Int → Int → Int → Int → Mem → Option (Int × Mem)} {fu87 : Nat} (hk87 : ∀ (l1 l2 l3 l4 l5 l6 : Int) (M : Mem), ((-1) ≤ l1 ∧ l1 ≤ 35) → (0 ≤ l2 ∧ l2 ≤ 1) → (0 ≤ l3 ∧ l3 ≤ 4095) → (0 ≤ l4 ∧ l4 ≤ 4095) → (0 ≤ l5 ∧ l5 ≤ 255) → (0 ≤ l6 ∧ l6 ≤ 8) → (F12 M) → (NP M) → (WF M) → 4097 - l4 < (fu37 : Int) + 1 → 9 - l6 < (fu87 : Int) → I n M → Keep n W_X9_findTogether Me M → wp (k87 126 l1 l2 l3 l4 l5 l6 M) (fun q => I n q.2 ∧ Keep n W_X9_findTogether Me q.2 ∧ True)) {l1 l2 l3 l4 l5 l6 : Int} {M : Mem} (r_l1 : (-1) ≤ l1 ∧ l1 ≤ 35) (r_l2 : 0 ≤ l2 ∧ l2 ≤ 1) (r_l3 : 0 ≤ l3 ∧ l3 ≤ 4095) (r_l4 : 0 ≤ l4 ∧ l4 ≤ 4095) (r_l5 : 0 ≤ l5 ∧ l5 ≤ 255) (r_l6 : 0 ≤ l6 ∧ l6 ≤ 8) (p_F12 : F12 M) (p_NP : NP M) (p_WF : WF M) (hf37 : 4097 - l4 < (fu37 : Int) + 1) (hf87 : 9 - l6 < (fu87 : Int) + 1) (iM : I n M) (kM : Keep n W_X9_findTogether Me M) : wp (bX9_findTogether_87 k37 k87 126 l1 l2 l3 l4 l5 l6 M) (fun q => I n q.2 ∧ Keep n W_X9_findTogether Me q.2 ∧ True) := by
  have hn : (169 : Int) ≤ (n : Int) := by have := iM.2.2.2.2.1; omega
  unfold bX9_findTogether_87
  refine w_gFc (ji := 12) rfl (congrArg Prod.fst (kl_126 iM)) (show mG M 126 12 = 138 from rd_Model_12 iM (a := 126) rfl) ?_
  refine w_aG (kl_138 iM) (by decide) (by decide) (fun a94 ha94 => ?_)
  have ra94 : 0 ≤ a94 ∧ a94 ≤ 8 := ha94.tr (P := fun z => 0 ≤ z ∧ z ≤ 8) (rd_Mstories iM rfl)
  refine w_if (fun c1_ => ?_) (fun c1_ => ?_)
  · skip
    refine w_gFc (ji := 55) rfl (congrArg Prod.fst (kl_126 iM)) (show mG M 126 55 = 163 from rd_Model_55 iM (a := 126) rfl) ?_
    refine w_aSZ (kl_163 iM) (by omega) (by omega) (by omega) (fun M142 hM142 => ?_)
    replace hM142 : M142 = mS M 163 l5 1 := hM142
    have iM142 : I n M142 := wr_Mtogether iM rfl ⟨by omega, by omega⟩ hM142
    have kM142 : Keep n W_X9_findTogether Me M142 := kM.st hM142 (Or.inl (Or.inr (Or.inr (Or.inl rfl))))
    have ppF12_M142 : F12 M142 := (F12_of p_F12 (fun j => st_ne hM142 (fun z => ne_fam rfl rfl (by decide) z.1)) (fun j => st_ne hM142 (fun z => ne_fam rfl rfl (by decide) z.1)))
    have ppNP_M142 : NP M142 := (NP_of p_NP (fun j => st_ne hM142 (fun z => ne_fam rfl rfl (by decide) z.1)))
    have ppWF_M142 : WF M142 := (WF_of p_WF (fun j => st_ne hM142 (fun z => ne_fam rfl rfl (by decide) z.1)) (fun j => st_ne hM142 (fun z => ne_fam rfl rfl (by decide) z.1)) (fun j => st_ne hM142 (fun z => ne_fam rfl rfl (by decide) z.1)) (fun j => st_ne hM142 (fun z => ne_fam rfl rfl (by decide) z.1)) (fun j => st_ne hM142 (fun z => ne_fam rfl rfl (by decide) z.1)))
    exact s_X9_findTogether_143 hk37 ⟨by omega, by omega⟩ ⟨by omega, by omega⟩ ⟨by omega, by omega⟩ ⟨by omega, by omega⟩ ppF12_M142 ppNP_M142 ppWF_M142 (by omega) iM142 kM142
  · skip
    have w2_ := ishr_b (x := l3) (k := l6) (by omega) (by omega) (by omega) (by omega)
    have w3_ := iand_l (x := (ishr l3 l6)) (y := 1) (by omega) (by omega)
    have w4_ := iand_r (x := (ishr l3 l6)) (y := 1) (by omega) (by omega)
    refine w_if (fun c5_ => ?_) (fun c5_ => ?_)
    · skip
      exact s_X9_findTogether_125 hk37 hk87 ⟨by omega, by omega⟩ ⟨by omega, by omega⟩ ⟨by omega, by omega⟩ ⟨by omega, by omega⟩ ⟨by omega, by omega⟩ ⟨by omega, by omega⟩ p_F12 p_NP p_WF (by omega) (by omega) iM kM
    · skip
      refine w_gK (congrArg Prod.fst (kl_126 iM)) ?_
      refine w_call (s_X9_means ⟨by omega, by omega⟩ p_NP p_WF iM) ?_
      intro v112 m112 pp112
      obtain ⟨im112, kk112, e112_0, -⟩ := pp112
      try dsimp only
      replace im112 : I n m112 := im112
      replace kk112 : Keep n W_X9_means M m112 := kk112
      have km112 : Keep n W_X9_findTogether Me m112 := kM.tr kk112 (fun b j z => Or.elim z (fun z => (Or.inr (Or.inl z))) (fun z => (Or.inr (Or.inr (Or.inr (Or.inl z))))))
      replace e112_0 : 0 ≤ v112 ∧ v112 ≤ 1 := e112_0
      refine w_if (fun c6_ => ?_) (fun c6_ => ?_)
      · skip
        have ppF12_m112 : F12 m112 := (F12_of p_F12 (fun j => kk112.2.2 153 j (by omega) (fun z => by unfold W_X9_means at z; (try unfold isWS at z); (try unfold isShape at z); (try unfold isTold at z); (try dsimp only at z); omega)) (fun j => kk112.2.2 134 j (by omega) (fun z => by unfold W_X9_means at z; (try unfold isWS at z); (try unfold isShape at z); (try unfold isTold at z); (try dsimp only at z); omega)))
        have ppNP_m112 : NP m112 := (NP_of p_NP (fun j => kk112.2.2 152 j (by omega) (fun z => by unfold W_X9_means at z; (try unfold isWS at z); (try unfold isShape at z); (try unfold isTold at z); (try dsimp only at z); omega)))
        have ppWF_m112 : WF m112 := (WF_of p_WF (fun j => kk112.2.2 141 j (by omega) (fun z => by unfold W_X9_means at z; (try unfold isWS at z); (try unfold isShape at z); (try unfold isTold at z); (try dsimp only at z); omega)) (fun j => kk112.2.2 142 j (by omega) (fun z => by unfold W_X9_means at z; (try unfold isWS at z); (try unfold isShape at z); (try unfold isTold at z); (try dsimp only at z); omega)) (fun j => kk112.2.2 143 j (by omega) (fun z => by unfold W_X9_means at z; (try unfold isWS at z); (try unfold isShape at z); (try unfold isTold at z); (try dsimp only at z); omega)) (fun j => kk112.2.2 144 j (by omega) (fun z => by unfold W_X9_means at z; (try unfold isWS at z); (try unfold isShape at z); (try unfold isTold at z); (try dsimp only at z); omega)) (fun j => kk112.2.2 138 j (by omega) (fun z => by unfold W_X9_means at z; (try unfold isWS at z); (try unfold isShape at z); (try unfold isTold at z); (try dsimp only at z); omega)))
        exact s_X9_findTogether_125 hk37 hk87 ⟨by omega, by omega⟩ ⟨by omega, by omega⟩ ⟨by omega, by omega⟩ ⟨by omega, by omega⟩ ⟨by omega, by omega⟩ ⟨by omega, by omega⟩ ppF12_m112 ppNP_m112 ppWF_m112 (by omega) (by omega) im112 km112
      · skip
        have w7_ := ishl1_b (k := l6) (B := 7) (by omega) (by omega) (by decide)
        have ppF12_m112 : F12 m112 := (F12_of p_F12 (fun j => kk112.2.2 153 j (by omega) (fun z => by unfold W_X9_means at z; (try unfold isWS at z); (try unfold isShape at z); (try unfold isTold at z); (try dsimp only at z); omega)) (fun j => kk112.2.2 134 j (by omega) (fun z => by unfold W_X9_means at z; (try unfold isWS at z); (try unfold isShape at z); (try unfold isTold at z); (try dsimp only at z); omega)))
        have ppNP_m112 : NP m112 := (NP_of p_NP (fun j => kk112.2.2 152 j (by omega) (fun z => by unfold W_X9_means at z; (try unfold isWS at z); (try unfold isShape at z); (try unfold isTold at z); (try dsimp only at z); omega)))
        have ppWF_m112 : WF m112 := (WF_of p_WF (fun j => kk112.2.2 141 j (by omega) (fun z => by unfold W_X9_means at z; (try unfold isWS at z); (try unfold isShape at z); (try unfold isTold at z); (try dsimp only at z); omega)) (fun j => kk112.2.2 142 j (by omega) (fun z => by unfold W_X9_means at z; (try unfold isWS at z); (try unfold isShape at z); (try unfold isTold at z); (try dsimp only at z); omega)) (fun j => kk112.2.2 143 j (by omega) (fun z => by unfold W_X9_means at z; (try unfold isWS at z); (try unfold isShape at z); (try unfold isTold at z); (try dsimp only at z); omega)) (fun j => kk112.2.2 144 j (by omega) (fun z => by unfold W_X9_means at z; (try unfold isWS at z); (try unfold isShape at z); (try unfold isTold at z); (try dsimp only at z); omega)) (fun j => kk112.2.2 138 j (by omega) (fun z => by unfold W_X9_means at z; (try unfold isWS at z); (try unfold isShape at z); (try unfold isTold at z); (try dsimp only at z); omega)))
        exact s_X9_findTogether_126 hk37 hk87 ⟨by omega, by omega⟩ ⟨by omega, by omega⟩ ⟨by omega, by omega⟩ ⟨by omega, by omega⟩ ⟨by omega, by omega⟩ ⟨by omega, by omega⟩ ⟨by omega, by omega⟩ ppF12_m112 ppNP_m112 ppWF_m112 (by omega) (by omega) im112 km112
theorem s_X9_findTogether_87 {n : Nat} {Me : Mem} {k37 : Int → Int → Int → Int → Int → Mem → Option (Int × Mem)} {fu37 : Nat} (hk37 : ∀ (l1 l2 l3 l4 : Int) (M : Mem), ((-1) ≤ l1 ∧ l1 ≤ 35) → (0 ≤ l2 ∧ l2 ≤ 1) → (0 ≤ l3 ∧ l3 ≤ 4095) → (0 ≤ l4 ∧ l4 ≤ 4096) → (F12 M) → (NP M) → (WF M) → 4097 - l4 < (fu37 : Int) → I n M → Keep n W_X9_findTogether Me M → wp (k37 126 l1 l2 l3 l4 M) (fun q => I n q.2 ∧ Keep n W_X9_findTogether Me q.2 ∧ True)) : ∀ (fu : Nat) (l1 l2 l3 l4 l5 l6 : Int) (M : Mem), ((-1) ≤ l1 ∧ l1 ≤ 35) → (0 ≤ l2 ∧ l2 ≤ 1) → (0 ≤ l3 ∧ l3 ≤ 4095) → (0 ≤ l4 ∧ l4 ≤ 4095) → (0 ≤ l5 ∧ l5 ≤ 255) → (0 ≤ l6 ∧ l6 ≤ 8) → (F12 M) → (NP M) → (WF M) → 4097 - l4 < (fu37 : Int) + 1 → 9 - l6 < (fu : Int) → I n M → Keep n W_X9_findTogether Me M → wp (mX9_findTogether_87 k37 fu 126 l1 l2 l3 l4 l5 l6 M) (fun q => I n q.2 ∧ Keep n W_X9_findTogether Me q.2 ∧ True) := by
  intro fu
  induction fu with
  | zero =>
    intro l1 l2 l3 l4 l5 l6 M r_l1 r_l2 r_l3 r_l4 r_l5 r_l6 p_F12 p_NP p_WF hf37 hf iM kM
    exfalso
    omega
  | succ fu ih =>
    intro l1 l2 l3 l4 l5 l6 M r_l1 r_l2 r_l3 r_l4 r_l5 r_l6 p_F12 p_NP p_WF hf37 hf iM kM
    exact sb_X9_findTogether_87 hk37 ih r_l1 r_l2 r_l3 r_l4 r_l5 r_l6 p_F12 p_NP p_WF hf37 (by have e : ((fu + 1 : Nat) : Int) = (fu : Int) + 1 := rfl; rw [e] at hf; exact hf) iM kM
theorem s_X9_findTogether_81 {n : Nat} {Me : Mem} {k37 : Int → Int → Int → Int → Int → Mem → Option (Int × Mem)} {fu37 : Nat} (hk37 : ∀ (l1 l2 l3 l4 : Int) (M : Mem), ((-1) ≤ l1 ∧ l1 ≤ 35) → (0 ≤ l2 ∧ l2 ≤ 1) → (0 ≤ l3 ∧ l3 ≤ 4095) → (0 ≤ l4 ∧ l4 ≤ 4096) → (F12 M) → (NP M) → (WF M) → 4097 - l4 < (fu37 : Int) → I n M → Keep n W_X9_findTogether Me M → wp (k37 126 l1 l2 l3 l4 M) (fun q => I n q.2 ∧ Keep n W_X9_findTogether Me q.2 ∧ True)) {l1 l2 l3 l4 : Int} {M : Mem} (r_l1 : (-1) ≤ l1 ∧ l1 ≤ 35) (r_l2 : 0 ≤ l2 ∧ l2 ≤ 1) (r_l3 : 0 ≤ l3 ∧ l3 ≤ 4095) (r_l4 : 0 ≤ l4 ∧ l4 ≤ 4095) (p_F12 : F12 M) (p_NP : NP M) (p_WF : WF M) (hf37 : 4097 - l4 < (fu37 : Int) + 1) (iM : I n M) (kM : Keep n W_X9_findTogether Me M) : wp (mX9_findTogether_81 k37 126 l1 l2 l3 l4 M) (fun q => I n q.2 ∧ Keep n W_X9_findTogether Me q.2 ∧ True) := by
  have hn : (169 : Int) ≤ (n : Int) := by have := iM.2.2.2.2.1; omega
  unfold mX9_findTogether_81
  exact s_X9_findTogether_87 hk37 FU _ _ _ _ _ _ _ ⟨by omega, by omega⟩ ⟨by omega, by omega⟩ ⟨by omega, by omega⟩ ⟨by omega, by omega⟩ ⟨by omega, by omega⟩ ⟨by omega, by omega⟩ p_F12 p_NP p_WF (by omega) (by show _ < (70000 : Int); omega) iM kM
theorem sb_X9_findTogether_37 {n : Nat} {Me : Mem} {k37 : Int → Int → Int → Int → Int → Mem → Option (Int × Mem)} {fu37 : Nat} (hk37 : ∀ (l1 l2 l3 l4 : Int) (M : Mem), ((-1) ≤ l1 ∧ l1 ≤ 35) → (0 ≤ l2 ∧ l2 ≤ 1) → (0 ≤ l3 ∧ l3 ≤ 4095) → (0 ≤ l4 ∧ l4 ≤ 4096) → (F12 M) → (NP M) → (WF M) → 4097 - l4 < (fu37 : Int) → I n M → Keep n W_X9_findTogether Me M → wp (k37 126 l1 l2 l3 l4 M) (fun q => I n q.2 ∧ Keep n W_X9_findTogether Me q.2 ∧ True)) {l1 l2 l3 l4 : Int} {M : Mem} (r_l1 : (-1) ≤ l1 ∧ l1 ≤ 35) (r_l2 : 0 ≤ l2 ∧ l2 ≤ 1) (r_l3 : 0 ≤ l3 ∧ l3 ≤ 4095) (r_l4 : 0 ≤ l4 ∧ l4 ≤ 4096) (p_F12 : F12 M) (p_NP : NP M) (p_WF : WF M) (hf37 : 4097 - l4 < (fu37 : Int) + 1) (iM : I n M) (kM : Keep n W_X9_findTogether Me M) : wp (bX9_findTogether_37 k37 126 l1 l2 l3 l4 M) (fun q => I n q.2 ∧ Keep n W_X9_findTogether Me q.2 ∧ True) := by
  have hn : (169 : Int) ≤ (n : Int) := by have := iM.2.2.2.2.1; omega
  unfold bX9_findTogether_37
  refine w_gK (congrArg Prod.fst (kl_126 iM)) ?_
  refine w_call (s_X9_manyFacts iM) ?_
  intro v41 m41 pp41
  obtain ⟨im41, kk41, e41_0, e41_1, -⟩ := pp41
  try dsimp only
  replace im41 : I n m41 := im41
  replace kk41 : Keep n W_X9_manyFacts M m41 := kk41
  have km41 : Keep n W_X9_findTogether Me m41 := kM.tr kk41 (fun b j z => z.elim)
  replace e41_0 : 0 ≤ v41 ∧ v41 ≤ 36 := e41_0
  replace e41_1 : v41 = mG m41 153 (mG m41 134 0) := e41_1
  have ev41 := e41_1
  have ppF12_m41 : F12 m41 := (F12_of p_F12 (fun j => kk41.2.2 153 j (by omega) (fun z => z)) (fun j => kk41.2.2 134 j (by omega) (fun z => z)))
  have fv41 : v41 ≤ 12 := by rw [ev41]; exact ppF12_m41
  have w1_ := ishl1_b (k := v41) (B := 12) (by omega) (by omega) (by decide)
  refine w_if (fun c2_ => ?_) (fun c2_ => ?_)
  · skip
    exact w_ret ⟨im41, km41, trivial⟩
  · skip
    refine w_gK (congrArg Prod.fst (kl_126 im41)) ?_
    have ppNP_m41 : NP m41 := (NP_of p_NP (fun j => kk41.2.2 152 j (by omega) (fun z => z)))
    refine w_call (s_X9_layWorld ⟨by omega, by omega⟩ ppNP_m41 im41) ?_
    intro v51 m51 pp51
    obtain ⟨im51, kk51, -⟩ := pp51
    try dsimp only
    replace im51 : I n m51 := im51
    replace kk51 : Keep n W_X9_layWorld m41 m51 := kk51
    have km51 : Keep n W_X9_findTogether Me m51 := km41.tr kk51 (fun b j z => by unfold W_X9_layWorld at z; exact (Or.inl z))
    refine w_gK (congrArg Prod.fst (kl_126 im51)) ?_
    refine w_call (s_X9_isAsKnown ⟨by omega, by omega⟩ im51) ?_
    intro v57 m57 pp57
    obtain ⟨im57, kk57, e57_0, -⟩ := pp57
    try dsimp only
    replace im57 : I n m57 := im57
    replace kk57 : Keep n W_X9_isAsKnown m51 m57 := kk57
    have km57 : Keep n W_X9_findTogether Me m57 := km51.tr kk57 (fun b j z => z.elim)
    replace e57_0 : 0 ≤ v57 ∧ v57 ≤ 1 := e57_0
    refine w_if (fun c3_ => ?_) (fun c3_ => ?_)
    · skip
      have ppF12_m57 : F12 m57 := (F12_of (F12_of ppF12_m41 (fun j => kk51.2.2 153 j (by omega) (fun z => by unfold W_X9_layWorld at z; (try unfold isWS at z); (try unfold isShape at z); (try unfold isTold at z); (try dsimp only at z); omega)) (fun j => kk51.2.2 134 j (by omega) (fun z => by unfold W_X9_layWorld at z; (try unfold isWS at z); (try unfold isShape at z); (try unfold isTold at z); (try dsimp only at z); omega))) (fun j => kk57.2.2 153 j (by omega) (fun z => z)) (fun j => kk57.2.2 134 j (by omega) (fun z => z)))
      have ppNP_m57 : NP m57 := (NP_of (NP_of ppNP_m41 (fun j => kk51.2.2 152 j (by omega) (fun z => by unfold W_X9_layWorld at z; (try unfold isWS at z); (try unfold isShape at z); (try unfold isTold at z); (try dsimp only at z); omega))) (fun j => kk57.2.2 152 j (by omega) (fun z => z)))
      have ppWF_m57 : WF m57 := (WF_of (WF_of (WF_of p_WF (fun j => kk41.2.2 141 j (by omega) (fun z => z)) (fun j => kk41.2.2 142 j (by omega) (fun z => z)) (fun j => kk41.2.2 143 j (by omega) (fun z => z)) (fun j => kk41.2.2 144 j (by omega) (fun z => z)) (fun j => kk41.2.2 138 j (by omega) (fun z => z))) (fun j => kk51.2.2 141 j (by omega) (fun z => by unfold W_X9_layWorld at z; (try unfold isWS at z); (try unfold isShape at z); (try unfold isTold at z); (try dsimp only at z); omega)) (fun j => kk51.2.2 142 j (by omega) (fun z => by unfold W_X9_layWorld at z; (try unfold isWS at z); (try unfold isShape at z); (try unfold isTold at z); (try dsimp only at z); omega)) (fun j => kk51.2.2 143 j (by omega) (fun z => by unfold W_X9_layWorld at z; (try unfold isWS at z); (try unfold isShape at z); (try unfold isTold at z); (try dsimp only at z); omega)) (fun j => kk51.2.2 144 j (by omega) (fun z => by unfold W_X9_layWorld at z; (try unfold isWS at z); (try unfold isShape at z); (try unfold isTold at z); (try dsimp only at z); omega)) (fun j => kk51.2.2 138 j (by omega) (fun z => by unfold W_X9_layWorld at z; (try unfold isWS at z); (try unfold isShape at z); (try unfold isTold at z); (try dsimp only at z); omega))) (fun j => kk57.2.2 141 j (by omega) (fun z => z)) (fun j => kk57.2.2 142 j (by omega) (fun z => z)) (fun j => kk57.2.2 143 j (by omega) (fun z => z)) (fun j => kk57.2.2 144 j (by omega) (fun z => z)) (fun j => kk57.2.2 138 j (by omega) (fun z => z)))
      exact s_X9_findTogether_143 hk37 ⟨by omega, by omega⟩ ⟨by omega, by omega⟩ ⟨by omega, by omega⟩ ⟨by omega, by omega⟩ ppF12_m57 ppNP_m57 ppWF_m57 (by omega) im57 km57
    · skip
      refine w_if (fun c4_ => ?_) (fun c4_ => ?_)
      · skip
        have ppF12_m57 : F12 m57 := (F12_of (F12_of ppF12_m41 (fun j => kk51.2.2 153 j (by omega) (fun z => by unfold W_X9_layWorld at z; (try unfold isWS at z); (try unfold isShape at z); (try unfold isTold at z); (try dsimp only at z); omega)) (fun j => kk51.2.2 134 j (by omega) (fun z => by unfold W_X9_layWorld at z; (try unfold isWS at z); (try unfold isShape at z); (try unfold isTold at z); (try dsimp only at z); omega))) (fun j => kk57.2.2 153 j (by omega) (fun z => z)) (fun j => kk57.2.2 134 j (by omega) (fun z => z)))
        have ppNP_m57 : NP m57 := (NP_of (NP_of ppNP_m41 (fun j => kk51.2.2 152 j (by omega) (fun z => by unfold W_X9_layWorld at z; (try unfold isWS at z); (try unfold isShape at z); (try unfold isTold at z); (try dsimp only at z); omega))) (fun j => kk57.2.2 152 j (by omega) (fun z => z)))
        have ppWF_m57 : WF m57 := (WF_of (WF_of (WF_of p_WF (fun j => kk41.2.2 141 j (by omega) (fun z => z)) (fun j => kk41.2.2 142 j (by omega) (fun z => z)) (fun j => kk41.2.2 143 j (by omega) (fun z => z)) (fun j => kk41.2.2 144 j (by omega) (fun z => z)) (fun j => kk41.2.2 138 j (by omega) (fun z => z))) (fun j => kk51.2.2 141 j (by omega) (fun z => by unfold W_X9_layWorld at z; (try unfold isWS at z); (try unfold isShape at z); (try unfold isTold at z); (try dsimp only at z); omega)) (fun j => kk51.2.2 142 j (by omega) (fun z => by unfold W_X9_layWorld at z; (try unfold isWS at z); (try unfold isShape at z); (try unfold isTold at z); (try dsimp only at z); omega)) (fun j => kk51.2.2 143 j (by omega) (fun z => by unfold W_X9_layWorld at z; (try unfold isWS at z); (try unfold isShape at z); (try unfold isTold at z); (try dsimp only at z); omega)) (fun j => kk51.2.2 144 j (by omega) (fun z => by unfold W_X9_layWorld at z; (try unfold isWS at z); (try unfold isShape at z); (try unfold isTold at z); (try dsimp only at z); omega)) (fun j => kk51.2.2 138 j (by omega) (fun z => by unfold W_X9_layWorld at z; (try unfold isWS at z); (try unfold isShape at z); (try unfold isTold at z); (try dsimp only at z); omega))) (fun j => kk57.2.2 141 j (by omega) (fun z => z)) (fun j => kk57.2.2 142 j (by omega) (fun z => z)) (fun j => kk57.2.2 143 j (by omega) (fun z => z)) (fun j => kk57.2.2 144 j (by omega) (fun z => z)) (fun j => kk57.2.2 138 j (by omega) (fun z => z)))
        exact s_X9_findTogether_81 hk37 ⟨by omega, by omega⟩ ⟨by omega, by omega⟩ ⟨by omega, by omega⟩ ⟨by omega, by omega⟩ ppF12_m57 ppNP_m57 ppWF_m57 (by omega) im57 km57
      · skip
        refine w_gFc (ji := 28) rfl (congrArg Prod.fst (kl_126 im57)) (show mG m57 126 28 = 154 from rd_Model_28 im57 (a := 126) rfl) ?_
        refine w_aG (kl_154 im57) (by omega) (by omega) (fun a73 ha73 => ?_)
        have ra73 : 0 ≤ a73 ∧ a73 ≤ 1 := ha73.tr (P := fun z => 0 ≤ z ∧ z ≤ 1) (rd_Mis im57 rfl)
        refine w_if (fun c5_ => ?_) (fun c5_ => ?_)
        · skip
          have ppF12_m57 : F12 m57 := (F12_of (F12_of ppF12_m41 (fun j => kk51.2.2 153 j (by omega) (fun z => by unfold W_X9_layWorld at z; (try unfold isWS at z); (try unfold isShape at z); (try unfold isTold at z); (try dsimp only at z); omega)) (fun j => kk51.2.2 134 j (by omega) (fun z => by unfold W_X9_layWorld at z; (try unfold isWS at z); (try unfold isShape at z); (try unfold isTold at z); (try dsimp only at z); omega))) (fun j => kk57.2.2 153 j (by omega) (fun z => z)) (fun j => kk57.2.2 134 j (by omega) (fun z => z)))
          have ppNP_m57 : NP m57 := (NP_of (NP_of ppNP_m41 (fun j => kk51.2.2 152 j (by omega) (fun z => by unfold W_X9_layWorld at z; (try unfold isWS at z); (try unfold isShape at z); (try unfold isTold at z); (try dsimp only at z); omega))) (fun j => kk57.2.2 152 j (by omega) (fun z => z)))
          have ppWF_m57 : WF m57 := (WF_of (WF_of (WF_of p_WF (fun j => kk41.2.2 141 j (by omega) (fun z => z)) (fun j => kk41.2.2 142 j (by omega) (fun z => z)) (fun j => kk41.2.2 143 j (by omega) (fun z => z)) (fun j => kk41.2.2 144 j (by omega) (fun z => z)) (fun j => kk41.2.2 138 j (by omega) (fun z => z))) (fun j => kk51.2.2 141 j (by omega) (fun z => by unfold W_X9_layWorld at z; (try unfold isWS at z); (try unfold isShape at z); (try unfold isTold at z); (try dsimp only at z); omega)) (fun j => kk51.2.2 142 j (by omega) (fun z => by unfold W_X9_layWorld at z; (try unfold isWS at z); (try unfold isShape at z); (try unfold isTold at z); (try dsimp only at z); omega)) (fun j => kk51.2.2 143 j (by omega) (fun z => by unfold W_X9_layWorld at z; (try unfold isWS at z); (try unfold isShape at z); (try unfold isTold at z); (try dsimp only at z); omega)) (fun j => kk51.2.2 144 j (by omega) (fun z => by unfold W_X9_layWorld at z; (try unfold isWS at z); (try unfold isShape at z); (try unfold isTold at z); (try dsimp only at z); omega)) (fun j => kk51.2.2 138 j (by omega) (fun z => by unfold W_X9_layWorld at z; (try unfold isWS at z); (try unfold isShape at z); (try unfold isTold at z); (try dsimp only at z); omega))) (fun j => kk57.2.2 141 j (by omega) (fun z => z)) (fun j => kk57.2.2 142 j (by omega) (fun z => z)) (fun j => kk57.2.2 143 j (by omega) (fun z => z)) (fun j => kk57.2.2 144 j (by omega) (fun z => z)) (fun j => kk57.2.2 138 j (by omega) (fun z => z)))
          exact s_X9_findTogether_143 hk37 ⟨by omega, by omega⟩ ⟨by omega, by omega⟩ ⟨by omega, by omega⟩ ⟨by omega, by omega⟩ ppF12_m57 ppNP_m57 ppWF_m57 (by omega) im57 km57
        · skip
          have ppF12_m57 : F12 m57 := (F12_of (F12_of ppF12_m41 (fun j => kk51.2.2 153 j (by omega) (fun z => by unfold W_X9_layWorld at z; (try unfold isWS at z); (try unfold isShape at z); (try unfold isTold at z); (try dsimp only at z); omega)) (fun j => kk51.2.2 134 j (by omega) (fun z => by unfold W_X9_layWorld at z; (try unfold isWS at z); (try unfold isShape at z); (try unfold isTold at z); (try dsimp only at z); omega))) (fun j => kk57.2.2 153 j (by omega) (fun z => z)) (fun j => kk57.2.2 134 j (by omega) (fun z => z)))
          have ppNP_m57 : NP m57 := (NP_of (NP_of ppNP_m41 (fun j => kk51.2.2 152 j (by omega) (fun z => by unfold W_X9_layWorld at z; (try unfold isWS at z); (try unfold isShape at z); (try unfold isTold at z); (try dsimp only at z); omega))) (fun j => kk57.2.2 152 j (by omega) (fun z => z)))
          have ppWF_m57 : WF m57 := (WF_of (WF_of (WF_of p_WF (fun j => kk41.2.2 141 j (by omega) (fun z => z)) (fun j => kk41.2.2 142 j (by omega) (fun z => z)) (fun j => kk41.2.2 143 j (by omega) (fun z => z)) (fun j => kk41.2.2 144 j (by omega) (fun z => z)) (fun j => kk41.2.2 138 j (by omega) (fun z => z))) (fun j => kk51.2.2 141 j (by omega) (fun z => by unfold W_X9_layWorld at z; (try unfold isWS at z); (try unfold isShape at z); (try unfold isTold at z); (try dsimp only at z); omega)) (fun j => kk51.2.2 142 j (by omega) (fun z => by unfold W_X9_layWorld at z; (try unfold isWS at z); (try unfold isShape at z); (try unfold isTold at z); (try dsimp only at z); omega)) (fun j => kk51.2.2 143 j (by omega) (fun z => by unfold W_X9_layWorld at z; (try unfold isWS at z); (try unfold isShape at z); (try unfold isTold at z); (try dsimp only at z); omega)) (fun j => kk51.2.2 144 j (by omega) (fun z => by unfold W_X9_layWorld at z; (try unfold isWS at z); (try unfold isShape at z); (try unfold isTold at z); (try dsimp only at z); omega)) (fun j => kk51.2.2 138 j (by omega) (fun z => by unfold W_X9_layWorld at z; (try unfold isWS at z); (try unfold isShape at z); (try unfold isTold at z); (try dsimp only at z); omega))) (fun j => kk57.2.2 141 j (by omega) (fun z => z)) (fun j => kk57.2.2 142 j (by omega) (fun z => z)) (fun j => kk57.2.2 143 j (by omega) (fun z => z)) (fun j => kk57.2.2 144 j (by omega) (fun z => z)) (fun j => kk57.2.2 138 j (by omega) (fun z => z)))
          exact s_X9_findTogether_81 hk37 ⟨by omega, by omega⟩ ⟨by omega, by omega⟩ ⟨by omega, by omega⟩ ⟨by omega, by omega⟩ ppF12_m57 ppNP_m57 ppWF_m57 (by omega) im57 km57
theorem s_X9_findTogether_37 {n : Nat} {Me : Mem} : ∀ (fu : Nat) (l1 l2 l3 l4 : Int) (M : Mem), ((-1) ≤ l1 ∧ l1 ≤ 35) → (0 ≤ l2 ∧ l2 ≤ 1) → (0 ≤ l3 ∧ l3 ≤ 4095) → (0 ≤ l4 ∧ l4 ≤ 4096) → (F12 M) → (NP M) → (WF M) → 4097 - l4 < (fu : Int) → I n M → Keep n W_X9_findTogether Me M → wp (mX9_findTogether_37 fu 126 l1 l2 l3 l4 M) (fun q => I n q.2 ∧ Keep n W_X9_findTogether Me q.2 ∧ True) := by
  intro fu
  induction fu with
  | zero =>
    intro l1 l2 l3 l4 M r_l1 r_l2 r_l3 r_l4 p_F12 p_NP p_WF hf iM kM
    exfalso
    omega
  | succ fu ih =>
    intro l1 l2 l3 l4 M r_l1 r_l2 r_l3 r_l4 p_F12 p_NP p_WF hf iM kM
    exact sb_X9_findTogether_37 ih r_l1 r_l2 r_l3 r_l4 p_F12 p_NP p_WF (by have e : ((fu + 1 : Nat) : Int) = (fu : Int) + 1 := rfl; rw [e] at hf; exact hf) iM kM
theorem sb_X9_findTogether_8 {n : Nat} {Me : Mem} {k8 : Int → Int → Int → Int → Int → Mem → Option (Int × Mem)} {fu8 : Nat} (hk8 : ∀ (l1 l2 l3 l4 : Int) (M : Mem), ((-1) ≤ l1 ∧ l1 ≤ 35) → (0 ≤ l2 ∧ l2 ≤ 1) → (0 ≤ l3 ∧ l3 ≤ 4095) → (0 ≤ l4 ∧ l4 ≤ 256) → (F12 M) → (NP M) → (WF M) → 257 - l4 < (fu8 : Int) → I n M → Keep n W_X9_findTogether Me M → wp (k8 126 l1 l2 l3 l4 M) (fun q => I n q.2 ∧ Keep n W_X9_findTogether Me q.2 ∧ True)) {l1 l2 l3 l4 : Int} {M : Mem} (r_l1 : (-1) ≤ l1 ∧ l1 ≤ 35) (r_l2 : 0 ≤ l2 ∧ l2 ≤ 1) (r_l3 : 0 ≤ l3 ∧ l3 ≤ 4095) (r_l4 : 0 ≤ l4 ∧ l4 ≤ 256) (p_F12 : F12 M) (p_NP : NP M) (p_WF : WF M) (hf8 : 257 - l4 < (fu8 : Int) + 1) (iM : I n M) (kM : Keep n W_X9_findTogether Me M) : wp (bX9_findTogether_8 k8 126 l1 l2 l3 l4 M) (fun q => I n q.2 ∧ Keep n W_X9_findTogether Me q.2 ∧ True) := by
  have hn : (169 : Int) ≤ (n : Int) := by have := iM.2.2.2.2.1; omega
  unfold bX9_findTogether_8
  refine w_if (fun c1_ => ?_) (fun c1_ => ?_)
  · skip
    refine w_gK (congrArg Prod.fst (kl_126 iM)) ?_
    refine w_call (s_X9_findKnown p_F12 p_NP iM) ?_
    intro v31 m31 pp31
    obtain ⟨im31, kk31, -⟩ := pp31
    try dsimp only
    replace im31 : I n m31 := im31
    replace kk31 : Keep n W_X9_findKnown M m31 := kk31
    have km31 : Keep n W_X9_findTogether Me m31 := kM.tr kk31 (fun b j z => Or.elim z (fun z => (Or.inr (Or.inr (Or.inr (Or.inr (Or.inl z)))))) (fun z => (Or.inr (Or.inr (Or.inr (Or.inr (Or.inr z)))))))
    have ppF12_m31 : F12 m31 := (F12_of p_F12 (fun j => kk31.2.2 153 j (by omega) (fun z => by unfold W_X9_findKnown at z; (try unfold isWS at z); (try unfold isShape at z); (try unfold isTold at z); (try dsimp only at z); omega)) (fun j => kk31.2.2 134 j (by omega) (fun z => by unfold W_X9_findKnown at z; (try unfold isWS at z); (try unfold isShape at z); (try unfold isTold at z); (try dsimp only at z); omega)))
    have ppNP_m31 : NP m31 := (NP_of p_NP (fun j => kk31.2.2 152 j (by omega) (fun z => by unfold W_X9_findKnown at z; (try unfold isWS at z); (try unfold isShape at z); (try unfold isTold at z); (try dsimp only at z); omega)))
    have ppWF_m31 : WF m31 := (WF_of p_WF (fun j => kk31.2.2 141 j (by omega) (fun z => by unfold W_X9_findKnown at z; (try unfold isWS at z); (try unfold isShape at z); (try unfold isTold at z); (try dsimp only at z); omega)) (fun j => kk31.2.2 142 j (by omega) (fun z => by unfold W_X9_findKnown at z; (try unfold isWS at z); (try unfold isShape at z); (try unfold isTold at z); (try dsimp only at z); omega)) (fun j => kk31.2.2 143 j (by omega) (fun z => by unfold W_X9_findKnown at z; (try unfold isWS at z); (try unfold isShape at z); (try unfold isTold at z); (try dsimp only at z); omega)) (fun j => kk31.2.2 144 j (by omega) (fun z => by unfold W_X9_findKnown at z; (try unfold isWS at z); (try unfold isShape at z); (try unfold isTold at z); (try dsimp only at z); omega)) (fun j => kk31.2.2 138 j (by omega) (fun z => by unfold W_X9_findKnown at z; (try unfold isWS at z); (try unfold isShape at z); (try unfold isTold at z); (try dsimp only at z); omega)))
    exact s_X9_findTogether_37 FU _ _ _ _ _ ⟨by omega, by omega⟩ ⟨by omega, by omega⟩ ⟨by omega, by omega⟩ ⟨by omega, by omega⟩ ppF12_m31 ppNP_m31 ppWF_m31 (by show _ < (70000 : Int); omega) im31 km31
  · skip
    refine w_gFc (ji := 55) rfl (congrArg Prod.fst (kl_126 iM)) (show mG M 126 55 = 163 from rd_Model_55 iM (a := 126) rfl) ?_
    refine w_aSZ (kl_163 iM) (by omega) (by omega) (by omega) (fun M23 hM23 => ?_)
    replace hM23 : M23 = mS M 163 l4 0 := hM23
    have iM23 : I n M23 := wr_Mtogether iM rfl ⟨by omega, by omega⟩ hM23
    have kM23 : Keep n W_X9_findTogether Me M23 := kM.st hM23 (Or.inl (Or.inr (Or.inr (Or.inl rfl))))
    have w2_ := wI_id (x := (l4 + 1)) (by omega) (by omega)
    have ppF12_M23 : F12 M23 := (F12_of p_F12 (fun j => st_ne hM23 (fun z => ne_fam rfl rfl (by decide) z.1)) (fun j => st_ne hM23 (fun z => ne_fam rfl rfl (by decide) z.1)))
    have ppNP_M23 : NP M23 := (NP_of p_NP (fun j => st_ne hM23 (fun z => ne_fam rfl rfl (by decide) z.1)))
    have ppWF_M23 : WF M23 := (WF_of p_WF (fun j => st_ne hM23 (fun z => ne_fam rfl rfl (by decide) z.1)) (fun j => st_ne hM23 (fun z => ne_fam rfl rfl (by decide) z.1)) (fun j => st_ne hM23 (fun z => ne_fam rfl rfl (by decide) z.1)) (fun j => st_ne hM23 (fun z => ne_fam rfl rfl (by decide) z.1)) (fun j => st_ne hM23 (fun z => ne_fam rfl rfl (by decide) z.1)))
    exact hk8 _ _ _ _ _ ⟨by omega, by omega⟩ ⟨by omega, by omega⟩ ⟨by omega, by omega⟩ ⟨by omega, by omega⟩ ppF12_M23 ppNP_M23 ppWF_M23 (by omega) iM23 kM23
theorem s_X9_findTogether_8 {n : Nat} {Me : Mem} : ∀ (fu : Nat) (l1 l2 l3 l4 : Int) (M : Mem), ((-1) ≤ l1 ∧ l1 ≤ 35) → (0 ≤ l2 ∧ l2 ≤ 1) → (0 ≤ l3 ∧ l3 ≤ 4095) → (0 ≤ l4 ∧ l4 ≤ 256) → (F12 M) → (NP M) → (WF M) → 257 - l4 < (fu : Int) → I n M → Keep n W_X9_findTogether Me M → wp (mX9_findTogether_8 fu 126 l1 l2 l3 l4 M) (fun q => I n q.2 ∧ Keep n W_X9_findTogether Me q.2 ∧ True) := by
  intro fu
  induction fu with
  | zero =>
    intro l1 l2 l3 l4 M r_l1 r_l2 r_l3 r_l4 p_F12 p_NP p_WF hf iM kM
    exfalso
    omega
  | succ fu ih =>
    intro l1 l2 l3 l4 M r_l1 r_l2 r_l3 r_l4 p_F12 p_NP p_WF hf iM kM
    exact sb_X9_findTogether_8 ih r_l1 r_l2 r_l3 r_l4 p_F12 p_NP p_WF (by have e : ((fu + 1 : Nat) : Int) = (fu : Int) + 1 := rfl; rw [e] at hf; exact hf) iM kM
theorem s_X9_findTogether {n : Nat} {l1 l2 : Int} {M : Mem} (r_l1 : (-1) ≤ l1 ∧ l1 ≤ 35) (r_l2 : 0 ≤ l2 ∧ l2 ≤ 1) (p_F12 : F12 M) (p_NP : NP M) (p_WF : WF M) (iM : I n M) : wp (mX9_findTogether 126 l1 l2 M) (fun q => I n q.2 ∧ Keep n W_X9_findTogether M q.2 ∧ True) := by
  have hn : (169 : Int) ≤ (n : Int) := by have := iM.2.2.2.2.1; omega
  have kM : Keep n W_X9_findTogether M M := Keep.rf
  unfold mX9_findTogether
  refine w_gK (congrArg Prod.fst (kl_126 iM)) ?_
  refine w_call (s_X9_told iM) ?_
  intro v1 m1 pp1
  obtain ⟨im1, kk1, e1_0, -⟩ := pp1
  try dsimp only
  replace im1 : I n m1 := im1
  replace kk1 : Keep n W_X9_told M m1 := kk1
  have km1 : Keep n W_X9_findTogether M m1 := kM.tr kk1 (fun b j z => z.elim)
  replace e1_0 : 0 ≤ v1 ∧ v1 ≤ 4095 := e1_0
  have ppF12_m1 : F12 m1 := (F12_of p_F12 (fun j => kk1.2.2 153 j (by omega) (fun z => z)) (fun j => kk1.2.2 134 j (by omega) (fun z => z)))
  have ppNP_m1 : NP m1 := (NP_of p_NP (fun j => kk1.2.2 152 j (by omega) (fun z => z)))
  have ppWF_m1 : WF m1 := (WF_of p_WF (fun j => kk1.2.2 141 j (by omega) (fun z => z)) (fun j => kk1.2.2 142 j (by omega) (fun z => z)) (fun j => kk1.2.2 143 j (by omega) (fun z => z)) (fun j => kk1.2.2 144 j (by omega) (fun z => z)) (fun j => kk1.2.2 138 j (by omega) (fun z => z)))
  exact s_X9_findTogether_8 FU _ _ _ _ _ ⟨by omega, by omega⟩ ⟨by omega, by omega⟩ ⟨by omega, by omega⟩ ⟨by omega, by omega⟩ ppF12_m1 ppNP_m1 ppWF_m1 (by show _ < (70000 : Int); omega) im1 km1
