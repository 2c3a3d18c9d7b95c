def W_X9_without (b j : Int) : Prop := (152 ≤ b ∧ b ≤ 154) ∨ (160 ≤ b ∧ b ≤ 161) ∨ (b = 126 ∧ j = 0) ∨ (b = 126 ∧ j = 46) ∨ (b = 126 ∧ j = 48) ∨ (b = 126 ∧ j = 49) ∨ (b = 126 ∧ j = 50)
theorem s_X9_without_87 {n : Nat} {Me : Mem} {k63 : Int → Int → Int → Mem → Option (Int × Mem)} {fu63 : Nat} (hk63 : ∀ (l2 l3 : Int) (M : Mem), ((-2147483648) ≤ l2 ∧ l2 ≤ 2147483647) → (0 ≤ l3 ∧ l3 ≤ 4096) → (F12 M) → (NP M) → (SF M) → (WF M) → 4097 - l3 < (fu63 : Int) → I n M → Keep n W_X9_without Me M → wp (k63 126 l2 l3 M) (fun q => I n q.2 ∧ Keep n W_X9_without Me q.2 ∧ ((-2147483648) ≤ q.1 ∧ q.1 ≤ 2147483647) ∧ True)) {l3 s0 s1 : Int} {M : Mem} (r_l3 : 0 ≤ l3 ∧ l3 ≤ 4095) (r_s0 : (-2147483648) ≤ s0 ∧ s0 ≤ 2147483647) (r_s1 : 0 ≤ s1 ∧ s1 ≤ 1) (p_F12 : F12 M) (p_NP : NP M) (p_SF : SF M) (p_WF : WF M) (hf63 : 4097 - l3 < (fu63 : Int) + 1) (iM : I n M) (kM : Keep n W_X9_without Me M) : wp (mX9_without_87 k63 126 l3 s0 s1 M) (fun q => I n q.2 ∧ Keep n W_X9_without Me q.2 ∧ ((-2147483648) ≤ q.1 ∧ q.1 ≤ 2147483647) ∧ True) := by
  have hn : (169 : Int) ≤ (n : Int) := by have := iM.2.2.2.2.1; omega
  unfold mX9_without_87
  have w1_ := And.intro (wI_lo (s0 + s1)) (wI_hi (s0 + s1))
  have w2_ := wI_id (x := (l3 + 1)) (by omega) (by omega)
  exact hk63 _ _ _ ⟨by omega, by omega⟩ ⟨by omega, by omega⟩ p_F12 p_NP p_SF p_WF (by omega) iM kM
theorem sb_X9_without_63 {n : Nat} {Me : Mem} {k63 : Int → Int → Int → Mem → Option (Int × Mem)} {fu63 : Nat} (hk63 : ∀ (l2 l3 : Int) (M : Mem), ((-2147483648) ≤ l2 ∧ l2 ≤ 2147483647) → (0 ≤ l3 ∧ l3 ≤ 4096) → (F12 M) → (NP M) → (SF M) → (WF M) → 4097 - l3 < (fu63 : Int) → I n M → Keep n W_X9_without Me M → wp (k63 126 l2 l3 M) (fun q => I n q.2 ∧ Keep n W_X9_without Me q.2 ∧ ((-2147483648) ≤ q.1 ∧ q.1 ≤ 2147483647) ∧ True)) {l2 l3 : Int} {M : Mem} (r_l2 : (-2147483648) ≤ l2 ∧ l2 ≤ 2147483647) (r_l3 : 0 ≤ l3 ∧ l3 ≤ 4096) (p_F12 : F12 M) (p_NP : NP M) (p_SF : SF M) (p_WF : WF M) (hf63 : 4097 - l3 < (fu63 : Int) + 1) (iM : I n M) (kM : Keep n W_X9_without Me M) : wp (bX9_without_63 k63 126 l2 l3 M) (fun q => I n q.2 ∧ Keep n W_X9_without Me q.2 ∧ ((-2147483648) ≤ q.1 ∧ q.1 ≤ 2147483647) ∧ True) := by
  have hn : (169 : Int) ≤ (n : Int) := by have := iM.2.2.2.2.1; omega
  unfold bX9_without_63
  refine w_gK (congrArg Prod.fst (kl_126 iM)) ?_
  refine w_call (s_X9_manyFacts iM) ?_
  intro v66 m66 pp66
  obtain ⟨im66, kk66, e66_0, e66_1, -⟩ := pp66
  try dsimp only
  replace im66 : I n m66 := im66
  replace kk66 : Keep n W_X9_manyFacts M m66 := kk66
  have km66 : Keep n W_X9_without Me m66 := kM.tr kk66 (fun b j z => z.elim)
  replace e66_0 : 0 ≤ v66 ∧ v66 ≤ 36 := e66_0
  replace e66_1 : v66 = mG m66 153 (mG m66 134 0) := e66_1
  have ev66 := e66_1
  have ppF12_m66 : F12 m66 := (F12_of p_F12 (fun j => kk66.2.2 153 j (by omega) (fun z => z)) (fun j => kk66.2.2 134 j (by omega) (fun z => z)))
  have fv66 : v66 ≤ 12 := by rw [ev66]; exact ppF12_m66
  have w1_ := ishl1_b (k := v66) (B := 12) (by omega) (by omega) (by decide)
  refine w_if (fun c2_ => ?_) (fun c2_ => ?_)
  · skip
    exact w_ret ⟨im66, km66, (show (-2147483648) ≤ l2 ∧ l2 ≤ 2147483647 from ⟨by omega, by omega⟩), trivial⟩
  · skip
    refine w_gK (congrArg Prod.fst (kl_126 im66)) ?_
    have ppNP_m66 : NP m66 := (NP_of p_NP (fun j => kk66.2.2 152 j (by omega) (fun z => z)))
    have ppWF_m66 : WF m66 := (WF_of p_WF (fun j => kk66.2.2 141 j (by omega) (fun z => z)) (fun j => kk66.2.2 142 j (by omega) (fun z => z)) (fun j => kk66.2.2 143 j (by omega) (fun z => z)) (fun j => kk66.2.2 144 j (by omega) (fun z => z)) (fun j => kk66.2.2 138 j (by omega) (fun z => z)))
    refine w_call (s_X9_isWorld ⟨by omega, by omega⟩ ppF12_m66 ppNP_m66 ppWF_m66 im66) ?_
    intro v76 m76 pp76
    obtain ⟨im76, kk76, e76_0, -⟩ := pp76
    try dsimp only
    replace im76 : I n m76 := im76
    replace kk76 : Keep n W_X9_isWorld m66 m76 := kk76
    have km76 : Keep n W_X9_without Me m76 := km66.tr kk76 (fun b j z => Or.elim z (fun z => (Or.inl ⟨by omega, by omega⟩)) (fun z => Or.elim z (fun z => (Or.inr (Or.inl z))) (fun z => (Or.inr (Or.inr (Or.inr (Or.inl z)))))))
    replace e76_0 : 0 ≤ v76 ∧ v76 ≤ 1 := e76_0
    refine w_if (fun c3_ => ?_) (fun c3_ => ?_)
    · skip
      have ppF12_m76 : F12 m76 := (F12_of ppF12_m66 (fun j => kk76.2.2 153 j (by omega) (fun z => by unfold W_X9_isWorld at z; (try unfold isWS at z); (try unfold isShape at z); (try unfold isTold at z); (try dsimp only at z); omega)) (fun j => kk76.2.2 134 j (by omega) (fun z => by unfold W_X9_isWorld at z; (try unfold isWS at z); (try unfold isShape at z); (try unfold isTold at z); (try dsimp only at z); omega)))
      have ppNP_m76 : NP m76 := (NP_of ppNP_m66 (fun j => kk76.2.2 152 j (by omega) (fun z => by unfold W_X9_isWorld at z; (try unfold isWS at z); (try unfold isShape at z); (try unfold isTold at z); (try dsimp only at z); omega)))
      have ppSF_m76 : SF m76 := (SF_of (SF_of p_SF (fun j => kk66.2.2 153 j (by omega) (fun z => z)) (fun j => kk66.2.2 134 j (by omega) (fun z => z)) (fun j => kk66.2.2 133 j (by omega) (fun z => z)) (fun j => kk66.2.2 135 j (by omega) (fun z => z)) (fun j => kk66.2.2 136 j (by omega) (fun z => z)) (fun j => kk66.2.2 152 j (by omega) (fun z => z))) (fun j => kk76.2.2 153 j (by omega) (fun z => by unfold W_X9_isWorld at z; (try unfold isWS at z); (try unfold isShape at z); (try unfold isTold at z); (try dsimp only at z); omega)) (fun j => kk76.2.2 134 j (by omega) (fun z => by unfold W_X9_isWorld at z; (try unfold isWS at z); (try unfold isShape at z); (try unfold isTold at z); (try dsimp only at z); omega)) (fun j => kk76.2.2 133 j (by omega) (fun z => by unfold W_X9_isWorld at z; (try unfold isWS at z); (try unfold isShape at z); (try unfold isTold at z); (try dsimp only at z); omega)) (fun j => kk76.2.2 135 j (by omega) (fun z => by unfold W_X9_isWorld at z; (try unfold isWS at z); (try unfold isShape at z); (try unfold isTold at z); (try dsimp only at z); omega)) (fun j => kk76.2.2 136 j (by omega) (fun z => by unfold W_X9_isWorld at z; (try unfold isWS at z); (try unfold isShape at z); (try unfold isTold at z); (try dsimp only at z); omega)) (fun j => kk76.2.2 152 j (by omega) (fun z => by unfold W_X9_isWorld at z; (try unfold isWS at z); (try unfold isShape at z); (try unfold isTold at z); (try dsimp only at z); omega)))
      have ppWF_m76 : WF m76 := (WF_of ppWF_m66 (fun j => kk76.2.2 141 j (by omega) (fun z => by unfold W_X9_isWorld at z; (try unfold isWS at z); (try unfold isShape at z); (try unfold isTold at z); (try dsimp only at z); omega)) (fun j => kk76.2.2 142 j (by omega) (fun z => by unfold W_X9_isWorld at z; (try unfold isWS at z); (try unfold isShape at z); (try unfold isTold at z); (try dsimp only at z); omega)) (fun j => kk76.2.2 143 j (by omega) (fun z => by unfold W_X9_isWorld at z; (try unfold isWS at z); (try unfold isShape at z); (try unfold isTold at z); (try dsimp only at z); omega)) (fun j => kk76.2.2 144 j (by omega) (fun z => by unfold W_X9_isWorld at z; (try unfold isWS at z); (try unfold isShape at z); (try unfold isTold at z); (try dsimp only at z); omega)) (fun j => kk76.2.2 138 j (by omega) (fun z => by unfold W_X9_isWorld at z; (try unfold isWS at z); (try unfold isShape at z); (try unfold isTold at z); (try dsimp only at z); omega)))
      exact s_X9_without_87 hk63 ⟨by omega, by omega⟩ ⟨by omega, by omega⟩ ⟨by omega, by omega⟩ ppF12_m76 ppNP_m76 ppSF_m76 ppWF_m76 (by omega) im76 km76
    · skip
      have ppF12_m76 : F12 m76 := (F12_of ppF12_m66 (fun j => kk76.2.2 153 j (by omega) (fun z => by unfold W_X9_isWorld at z; (try unfold isWS at z); (try unfold isShape at z); (try unfold isTold at z); (try dsimp only at z); omega)) (fun j => kk76.2.2 134 j (by omega) (fun z => by unfold W_X9_isWorld at z; (try unfold isWS at z); (try unfold isShape at z); (try unfold isTold at z); (try dsimp only at z); omega)))
      have ppNP_m76 : NP m76 := (NP_of ppNP_m66 (fun j => kk76.2.2 152 j (by omega) (fun z => by unfold W_X9_isWorld at z; (try unfold isWS at z); (try unfold isShape at z); (try unfold isTold at z); (try dsimp only at z); omega)))
      have ppSF_m76 : SF m76 := (SF_of (SF_of p_SF (fun j => kk66.2.2 153 j (by omega) (fun z => z)) (fun j => kk66.2.2 134 j (by omega) (fun z => z)) (fun j => kk66.2.2 133 j (by omega) (fun z => z)) (fun j => kk66.2.2 135 j (by omega) (fun z => z)) (fun j => kk66.2.2 136 j (by omega) (fun z => z)) (fun j => kk66.2.2 152 j (by omega) (fun z => z))) (fun j => kk76.2.2 153 j (by omega) (fun z => by unfold W_X9_isWorld at z; (try unfold isWS at z); (try unfold isShape at z); (try unfold isTold at z); (try dsimp only at z); omega)) (fun j => kk76.2.2 134 j (by omega) (fun z => by unfold W_X9_isWorld at z; (try unfold isWS at z); (try unfold isShape at z); (try unfold isTold at z); (try dsimp only at z); omega)) (fun j => kk76.2.2 133 j (by omega) (fun z => by unfold W_X9_isWorld at z; (try unfold isWS at z); (try unfold isShape at z); (try unfold isTold at z); (try dsimp only at z); omega)) (fun j => kk76.2.2 135 j (by omega) (fun z => by unfold W_X9_isWorld at z; (try unfold isWS at z); (try unfold isShape at z); (try unfold isTold at z); (try dsimp only at z); omega)) (fun j => kk76.2.2 136 j (by omega) (fun z => by unfold W_X9_isWorld at z; (try unfold isWS at z); (try unfold isShape at z); (try unfold isTold at z); (try dsimp only at z); omega)) (fun j => kk76.2.2 152 j (by omega) (fun z => by unfold W_X9_isWorld at z; (try unfold isWS at z); (try unfold isShape at z); (try unfold isTold at z); (try dsimp only at z); omega)))
      have ppWF_m76 : WF m76 := (WF_of ppWF_m66 (fun j => kk76.2.2 141 j (by omega) (fun z => by unfold W_X9_isWorld at z; (try unfold isWS at z); (try unfold isShape at z); (try unfold isTold at z); (try dsimp only at z); omega)) (fun j => kk76.2.2 142 j (by omega) (fun z => by unfold W_X9_isWorld at z; (try unfold isWS at z); (try unfold isShape at z); (try unfold isTold at z); (try dsimp only at z); omega)) (fun j => kk76.2.2 143 j (by omega) (fun z => by unfold W_X9_isWorld at z; (try unfold isWS at z); (try unfold isShape at z); (try unfold isTold at z); (try dsimp only at z); omega)) (fun j => kk76.2.2 144 j (by omega) (fun z => by unfold W_X9_isWorld at z; (try unfold isWS at z); (try unfold isShape at z); (try unfold isTold at z); (try dsimp only at z); omega)) (fun j => kk76.2.2 138 j (by omega) (fun z => by unfold W_X9_isWorld at z; (try unfold isWS at z); (try unfold isShape at z); (try unfold isTold at z); (try dsimp only at z); omega)))
      exact s_X9_without_87 hk63 ⟨by omega, by omega⟩ ⟨by omega, by omega⟩ ⟨by omega, by omega⟩ ppF12_m76 ppNP_m76 ppSF_m76 ppWF_m76 (by omega) im76 km76
theorem s_X9_without_63 {n : Nat} {Me : Mem} : ∀ (fu : Nat) (l2 l3 : Int) (M : Mem), ((-2147483648) ≤ l2 ∧ l2 ≤ 2147483647) → (0 ≤ l3 ∧ l3 ≤ 4096) → (F12 M) → (NP M) → (SF M) → (WF M) → 4097 - l3 < (fu : Int) → I n M → Keep n W_X9_without Me M → wp (mX9_without_63 fu 126 l2 l3 M) (fun q => I n q.2 ∧ Keep n W_X9_without Me q.2 ∧ ((-2147483648) ≤ q.1 ∧ q.1 ≤ 2147483647) ∧ True) := by
  intro fu
  induction fu with
  | zero =>
    intro l2 l3 M r_l2 r_l3 p_F12 p_NP p_SF p_WF hf iM kM
    exfalso
    omega
  | succ fu ih =>
    intro l2 l3 M r_l2 r_l3 p_F12 p_NP p_SF p_WF hf iM kM
    exact sb_X9_without_63 ih r_l2 r_l3 p_F12 p_NP p_SF p_WF (by have e : ((fu + 1 : Nat) : Int) = (fu : Int) + 1 := rfl; rw [e] at hf; exact hf) iM kM
theorem s_X9_without {n : Nat} {l1 : Int} {M : Mem} (r_l1 : (-2147483648) ≤ l1 ∧ l1 ≤ 2147483647) (p_WF : WF M) (iM : I n M) : wp (mX9_without 126 l1 M) (fun q => I n q.2 ∧ Keep n W_X9_without M q.2 ∧ ((-2147483648) ≤ q.1 ∧ q.1 ≤ 2147483647) ∧ True) := by
  have hn : (169 : Int) ≤ (n : Int) := by have := iM.2.2.2.2.1; omega
  have kM : Keep n W_X9_without M M := Keep.rf
  unfold mX9_without
  refine w_pF (ji := 0) rfl (congrArg Prod.fst (kl_126 iM)) (fun M2 hM2 => ?_)
  replace hM2 : M2 = mS M 126 0 0 := hM2
  have iM2 : I n M2 := wr_Model_0 iM rfl ⟨by omega, by omega⟩ hM2
  have kM2 : Keep n W_X9_without M M2 := kM.st hM2 (Or.inl (Or.inr (Or.inr (Or.inl ⟨rfl, rfl⟩))))
  refine w_gFc (ji := 12) rfl (congrArg Prod.fst (kl_126 iM2)) (show mG M2 126 12 = 138 from rd_Model_12 iM2 (a := 126) rfl) ?_
  refine w_aG (kl_138 iM2) (by decide) (by decide) (fun a12 ha12 => ?_)
  have ra12 : 0 ≤ a12 ∧ a12 ≤ 8 := ha12.tr (P := fun z => 0 ≤ z ∧ z ≤ 8) (rd_Mstories iM2 rfl)
  have w1_ := wI_id (x := (a12 - 1)) (by omega) (by omega)
  refine w_call (s_X9_in ⟨by omega, by omega⟩ ⟨by omega, by omega⟩ ⟨by omega, by omega⟩ iM2) ?_
  intro v15 m15 pp15
  obtain ⟨im15, kk15, e15_0, e15_1, -⟩ := pp15
  try dsimp only
  replace im15 : I n m15 := im15
  replace kk15 : Keep n W_X9_in M2 m15 := kk15
  have km15 : Keep n W_X9_without M m15 := kM2.tr kk15 (fun b j z => z.elim)
  replace e15_0 : 0 ≤ v15 ∧ v15 ≤ 1 := e15_0
  replace e15_1 : v15 = 1 → 0 ≤ l1 ∧ l1 ≤ (wI (a12 - 1)) := e15_1
  refine w_if (fun c2_ => ?_) (fun c2_ => ?_)
  · skip
    exact w_ret ⟨im15, km15, (show (-2147483648) ≤ (-1) ∧ (-1) ≤ 2147483647 from ⟨by omega, by omega⟩), trivial⟩
  · skip
    refine w_gK (congrArg Prod.fst (kl_126 im15)) ?_
    refine w_call (s_X9_canTell im15) ?_
    intro v22 m22 pp22
    obtain ⟨im22, kk22, e22_0, e22_1, e22_2, e22_3, -⟩ := pp22
    try dsimp only
    replace im22 : I n m22 := im22
    replace kk22 : Keep n W_X9_canTell m15 m22 := kk22
    have km22 : Keep n W_X9_without M m22 := km15.tr kk22 (fun b j z => by unfold W_X9_canTell at z; exact (Or.inl ⟨by omega, by omega⟩))
    replace e22_0 : 0 ≤ v22 ∧ v22 ≤ 1 := e22_0
    replace e22_1 : NP m22 := e22_1
    have gNP_m22 := e22_1
    replace e22_2 : SF m22 := e22_2
    have gSF_m22 := e22_2
    replace e22_3 : v22 = 1 → F12 m22 := e22_3
    have ev22 := e22_3
    refine w_if (fun c3_ => ?_) (fun c3_ => ?_)
    · skip
      exact w_ret ⟨im22, km22, (show (-2147483648) ≤ (-1) ∧ (-1) ≤ 2147483647 from ⟨by omega, by omega⟩), trivial⟩
    · skip
      have pF12_c3__m22 : F12 m22 := ev22 (by omega)
      refine w_gK (congrArg Prod.fst (kl_126 im22)) ?_
      refine w_call (s_X9_prepare pF12_c3__m22 gNP_m22 im22) ?_
      intro v31 m31 pp31
      obtain ⟨im31, kk31, -⟩ := pp31
      try dsimp only
      replace im31 : I n m31 := im31
      replace kk31 : Keep n W_X9_prepare m22 m31 := kk31
      have km31 : Keep n W_X9_without M m31 := km22.tr kk31 (fun b j z => Or.elim z (fun z => (Or.inr (Or.inr (Or.inr (Or.inr (Or.inl z)))))) (fun z => Or.elim z (fun z => (Or.inr (Or.inr (Or.inr (Or.inr (Or.inr (Or.inl z))))))) (fun z => (Or.inr (Or.inr (Or.inr (Or.inr (Or.inr (Or.inr z)))))))))
      refine w_gF (ji := 48) rfl (congrArg Prod.fst (kl_126 im31)) (fun a35 ha35 => ?_)
      have ra35 : (-2147483648) ≤ a35 ∧ a35 ≤ 2147483647 := ha35.tr (P := fun z => (-2147483648) ≤ z ∧ z ≤ 2147483647) (rd_Model_48 im31 rfl)
      have w4_ := ishr_in a35 l1
      have w5_ := iand_r (x := (ishr a35 l1)) (y := 1) (by omega) (by omega)
      refine w_if (fun c6_ => ?_) (fun c6_ => ?_)
      · skip
        exact w_ret ⟨im31, km31, (show (-2147483648) ≤ (-1) ∧ (-1) ≤ 2147483647 from ⟨by omega, by omega⟩), trivial⟩
      · skip
        refine w_gFc (ji := 48) rfl (congrArg Prod.fst (kl_126 im31)) (show mG m31 126 48 = a35 from (show mG m31 126 48 = a35 from ha35)) ?_
        have w7_ := ishl1_b (k := l1) (B := 7) (by omega) (by omega) (by decide)
        have w8_ := ixor_in a35 (ishl 1 l1)
        refine w_pF (ji := 48) rfl (congrArg Prod.fst (kl_126 im31)) (fun M56 hM56 => ?_)
        replace hM56 : M56 = mS m31 126 48 (ixor a35 (ishl 1 l1)) := hM56
        have iM56 : I n M56 := wr_Model_48 im31 rfl ⟨by omega, by omega⟩ hM56
        have kM56 : Keep n W_X9_without M M56 := km31.st hM56 (Or.inl (Or.inr (Or.inr (Or.inr (Or.inr (Or.inl ⟨rfl, rfl⟩))))))
        obtain ⟨svM56, esvM56⟩ : ∃ z, z = (ixor a35 (ishl 1 l1)) := ⟨_, rfl⟩
        have ppF12_M56 : F12 M56 := (F12_of (F12_of pF12_c3__m22 (fun j => kk31.2.2 153 j (by omega) (fun z => by unfold W_X9_prepare at z; (try unfold isWS at z); (try unfold isShape at z); (try unfold isTold at z); (try dsimp only at z); omega)) (fun j => kk31.2.2 134 j (by omega) (fun z => by unfold W_X9_prepare at z; (try unfold isWS at z); (try unfold isShape at z); (try unfold isTold at z); (try dsimp only at z); omega))) (fun j => st_ne hM56 (fun z => ne_fam rfl rfl (by decide) z.1)) (fun j => st_ne hM56 (fun z => ne_fam rfl rfl (by decide) z.1)))
        have ppNP_M56 : NP M56 := (NP_of (NP_of gNP_m22 (fun j => kk31.2.2 152 j (by omega) (fun z => by unfold W_X9_prepare at z; (try unfold isWS at z); (try unfold isShape at z); (try unfold isTold at z); (try dsimp only at z); omega))) (fun j => st_ne hM56 (fun z => ne_fam rfl rfl (by decide) z.1)))
        have ppSF_M56 : SF M56 := (SF_of (SF_of gSF_m22 (fun j => kk31.2.2 153 j (by omega) (fun z => by unfold W_X9_prepare at z; (try unfold isWS at z); (try unfold isShape at z); (try unfold isTold at z); (try dsimp only at z); omega)) (fun j => kk31.2.2 134 j (by omega) (fun z => by unfold W_X9_prepare at z; (try unfold isWS at z); (try unfold isShape at z); (try unfold isTold at z); (try dsimp only at z); omega)) (fun j => kk31.2.2 133 j (by omega) (fun z => by unfold W_X9_prepare at z; (try unfold isWS at z); (try unfold isShape at z); (try unfold isTold at z); (try dsimp only at z); omega)) (fun j => kk31.2.2 135 j (by omega) (fun z => by unfold W_X9_prepare at z; (try unfold isWS at z); (try unfold isShape at z); (try unfold isTold at z); (try dsimp only at z); omega)) (fun j => kk31.2.2 136 j (by omega) (fun z => by unfold W_X9_prepare at z; (try unfold isWS at z); (try unfold isShape at z); (try unfold isTold at z); (try dsimp only at z); omega)) (fun j => kk31.2.2 152 j (by omega) (fun z => by unfold W_X9_prepare at z; (try unfold isWS at z); (try unfold isShape at z); (try unfold isTold at z); (try dsimp only at z); omega))) (fun j => st_ne hM56 (fun z => ne_fam rfl rfl (by decide) z.1)) (fun j => st_ne hM56 (fun z => ne_fam rfl rfl (by decide) z.1)) (fun j => st_ne hM56 (fun z => ne_fam rfl rfl (by decide) z.1)) (fun j => st_ne hM56 (fun z => ne_fam rfl rfl (by decide) z.1)) (fun j => st_ne hM56 (fun z => ne_fam rfl rfl (by decide) z.1)) (fun j => st_ne hM56 (fun z => ne_fam rfl rfl (by decide) z.1)))
        have ppWF_M56 : WF M56 := (WF_of (WF_of (WF_of (WF_of (WF_of p_WF (fun j => st_ne hM2 (fun z => ne_fam rfl rfl (by decide) z.1)) (fun j => st_ne hM2 (fun z => ne_fam rfl rfl (by decide) z.1)) (fun j => st_ne hM2 (fun z => ne_fam rfl rfl (by decide) z.1)) (fun j => st_ne hM2 (fun z => ne_fam rfl rfl (by decide) z.1)) (fun j => st_ne hM2 (fun z => ne_fam rfl rfl (by decide) z.1))) (fun j => kk15.2.2 141 j (by omega) (fun z => z)) (fun j => kk15.2.2 142 j (by omega) (fun z => z)) (fun j => kk15.2.2 143 j (by omega) (fun z => z)) (fun j => kk15.2.2 144 j (by omega) (fun z => z)) (fun j => kk15.2.2 138 j (by omega) (fun z => z))) (fun j => kk22.2.2 141 j (by omega) (fun z => by unfold W_X9_canTell at z; (try unfold isWS at z); (try unfold isShape at z); (try unfold isTold at z); (try dsimp only at z); omega)) (fun j => kk22.2.2 142 j (by omega) (fun z => by unfold W_X9_canTell at z; (try unfold isWS at z); (try unfold isShape at z); (try unfold isTold at z); (try dsimp only at z); omega)) (fun j => kk22.2.2 143 j (by omega) (fun z => by unfold W_X9_canTell at z; (try unfold isWS at z); (try unfold isShape at z); (try unfold isTold at z); (try dsimp only at z); omega)) (fun j => kk22.2.2 144 j (by omega) (fun z => by unfold W_X9_canTell at z; (try unfold isWS at z); (try unfold isShape at z); (try unfold isTold at z); (try dsimp only at z); omega)) (fun j => kk22.2.2 138 j (by omega) (fun z => by unfold W_X9_canTell at z; (try unfold isWS at z); (try unfold isShape at z); (try unfold isTold at z); (try dsimp only at z); omega))) (fun j => kk31.2.2 141 j (by omega) (fun z => by unfold W_X9_prepare at z; (try unfold isWS at z); (try unfold isShape at z); (try unfold isTold at z); (try dsimp only at z); omega)) (fun j => kk31.2.2 142 j (by omega) (fun z => by unfold W_X9_prepare at z; (try unfold isWS at z); (try unfold isShape at z); (try unfold isTold at z); (try dsimp only at z); omega)) (fun j => kk31.2.2 143 j (by omega) (fun z => by unfold W_X9_prepare at z; (try unfold isWS at z); (try unfold isShape at z); (try unfold isTold at z); (try dsimp only at z); omega)) (fun j => kk31.2.2 144 j (by omega) (fun z => by unfold W_X9_prepare at z; (try unfold isWS at z); (try unfold isShape at z); (try unfold isTold at z); (try dsimp only at z); omega)) (fun j => kk31.2.2 138 j (by omega) (fun z => by unfold W_X9_prepare at z; (try unfold isWS at z); (try unfold isShape at z); (try unfold isTold at z); (try dsimp only at z); omega))) (fun j => st_ne hM56 (fun z => ne_fam rfl rfl (by decide) z.1)) (fun j => st_ne hM56 (fun z => ne_fam rfl rfl (by decide) z.1)) (fun j => st_ne hM56 (fun z => ne_fam rfl rfl (by decide) z.1)) (fun j => st_ne hM56 (fun z => ne_fam rfl rfl (by decide) z.1)) (fun j => st_ne hM56 (fun z => ne_fam rfl rfl (by decide) z.1)))
        exact s_X9_without_63 FU _ _ _ ⟨by omega, by omega⟩ ⟨by omega, by omega⟩ ppF12_M56 ppNP_M56 ppSF_M56 ppWF_M56 (by show _ < (70000 : Int); omega) iM56 kM56
def W_X9_findYes (b j : Int) : Prop := b = 168
theorem s_X9_findYes_51 {n : Nat} {Me : Mem} {k2 : Int → Int → Int → Mem → Option (Int × Mem)} {fu2 : Nat} (hk2 : ∀ (l1 l2 : Int) (M : Mem), (1 ≤ l1 ∧ l1 ≤ 16) → (0 ≤ l2 ∧ l2 ≤ 12) → (F12 M) → 13 - l2 < (fu2 : Int) → I n M → Keep n W_X9_findYes Me M → wp (k2 126 l1 l2 M) (fun q => I n q.2 ∧ Keep n W_X9_findYes Me q.2 ∧ True)) {k19 : Int → Int → Int → Int → Mem → Option (Int × Mem)} {fu19 : Nat} (hk19 : ∀ (l1 l2 l3 : Int) (M : Mem), (1 ≤ l1 ∧ l1 ≤ 16) → (0 ≤ l2 ∧ l2 ≤ 11) → (0 ≤ l3 ∧ l3 ≤ 16) → (F12 M) → 13 - l2 < (fu2 : Int) + 1 → 17 - l3 < (fu19 : Int) → I n M → Keep n W_X9_findYes Me M → wp (k19 126 l1 l2 l3 M) (fun q => I n q.2 ∧ Keep n W_X9_findYes Me q.2 ∧ True)) {l1 l2 l3 s1 s2 s3 : Int} {M : Mem} (r_l1 : 1 ≤ l1 ∧ l1 ≤ 16) (r_l2 : 0 ≤ l2 ∧ l2 ≤ 11) (r_l3 : 0 ≤ l3 ∧ l3 ≤ 15) (r_s1 : 0 ≤ s1 ∧ s1 ≤ 11) (r_s2 : 0 ≤ s2 ∧ s2 ≤ 65535) (r_s3 : 0 ≤ s3 ∧ s3 ≤ 32768) (p_F12 : F12 M) (hf2 : 13 - l2 < (fu2 : Int) + 1) (hf19 : 17 - l3 < (fu19 : Int) + 1) (iM : I n M) (kM : Keep n W_X9_findYes Me M) : wp (mX9_findYes_51 k2 k19 126 l1 l2 l3 168 s1 s2 s3 M) (fun q => I n q.2 ∧ Keep n W_X9_findYes Me q.2 ∧ True) := by
  have hn : (169 : Int) ≤ (n : Int) := by have := iM.2.2.2.2.1; omega
  unfold mX9_findYes_51
  have w1_ := ior_b (x := s2) (y := s3) (k := 16) (by decide) (by omega) (by omega) (by omega) (by omega)
  refine w_aS (kl_168 iM) (by omega) (by omega) (fun M52 hM52 => ?_)
  replace hM52 : M52 = mS M 168 s1 (ior s2 s3) := hM52
  have iM52 : I n M52 := wr_Myes iM rfl ⟨by omega, by omega⟩ hM52
  have kM52 : Keep n W_X9_findYes Me M52 := kM.st hM52 (Or.inl rfl)
  obtain ⟨svM52, esvM52⟩ : ∃ z, z = (ior s2 s3) := ⟨_, rfl⟩
  have w2_ := wI_id (x := (l3 + 1)) (by omega) (by omega)
  have ppF12_M52 : F12 M52 := (F12_of p_F12 (fun j => st_ne hM52 (fun z => ne_fam rfl rfl (by decide) z.1)) (fun j => st_ne hM52 (fun z => ne_fam rfl rfl (by decide) z.1)))
  exact hk19 _ _ _ _ ⟨by omega, by omega⟩ ⟨by omega, by omega⟩ ⟨by omega, by omega⟩ ppF12_M52 (by omega) (by omega) iM52 kM52
theorem sb_X9_findYes_19 {n : Nat} {Me : Mem} {k2 : Int → Int → Int → Mem → Option (Int × Mem)} {fu2 : Nat} (hk2 : ∀ (l1 l2 : Int) (M : Mem), (1 ≤ l1 ∧ l1 ≤ 16) → (0 ≤ l2 ∧ l2 ≤ 12) → (F12 M) → 13 - l2 < (fu2 : Int) → I n M → Keep n W_X9_findYes Me M → wp (k2 126 l1 l2 M) (fun q => I n q.2 ∧ Keep n W_X9_findYes Me q.2 ∧ True)) {k19 : Int → Int → Int → Int → Mem → Option (Int × Mem)} {fu19 : Nat} (hk19 : ∀ (l1 l2 l3 : Int) (M : Mem), (1 ≤ l1 ∧ l1 ≤ 16) → (0 ≤ l2 ∧ l2 ≤ 11) → (0 ≤ l3 ∧ l3 ≤ 16) → (F12 M) → 13 - l2 < (fu2 : Int) + 1 → 17 - l3 < (fu19 : Int) → I n M → Keep n W_X9_findYes Me M → wp (k19 126 l1 l2 l3 M) (fun q => I n q.2 ∧ Keep n W_X9_findYes Me q.2 ∧ True)) {l1 l2 l3 : Int} {M : Mem} (r_l1 : 1 ≤ l1 ∧ l1 ≤ 16) (r_l2 : 0 ≤ l2 ∧ l2 ≤ 11) (r_l3 : 0 ≤ l3 ∧ l3 ≤ 16) (p_F12 : F12 M) (hf2 : 13 - l2 < (fu2 : Int) + 1) (hf19 : 17 - l3 < (fu19 : Int) + 1) (iM : I n M) (kM : Keep n W_X9_findYes Me M) : wp (bX9_findYes_19 k2 k19 126 l1 l2 l3 M) (fun q => I n q.2 ∧ Keep n W_X9_findYes Me q.2 ∧ True) := by
  have hn : (169 : Int) ≤ (n : Int) := by have := iM.2.2.2.2.1; omega
  unfold bX9_findYes_19
  refine w_if (fun c1_ => ?_) (fun c1_ => ?_)
  · skip
    have w2_ := wI_id (x := (l2 + 1)) (by omega) (by omega)
    exact hk2 _ _ _ ⟨by omega, by omega⟩ ⟨by omega, by omega⟩ p_F12 (by omega) iM kM
  · skip
    refine w_gFc (ji := 61) rfl (congrArg Prod.fst (kl_126 iM)) (show mG M 126 61 = 168 from rd_Model_61 iM (a := 126) rfl) ?_
    refine w_aG (kl_168 iM) (by omega) (by omega) (fun a30 ha30 => ?_)
    have ra30 : 0 ≤ a30 ∧ a30 ≤ 65535 := ha30.tr (P := fun z => 0 ≤ z ∧ z ≤ 65535) (rd_Myes iM rfl)
    refine w_gFc (ji := 58) rfl (congrArg Prod.fst (kl_126 iM)) (show mG M 126 58 = 165 from rd_Model_58 iM (a := 126) rfl) ?_
    refine w_aG (kl_165 iM) (by omega) (by omega) (fun a36 ha36 => ?_)
    have ra36 : 0 ≤ a36 ∧ a36 ≤ 4095 := ha36.tr (P := fun z => 0 ≤ z ∧ z ≤ 4095) (rd_MfewWorlds iM rfl)
    have w3_ := ishr_b (x := a36) (k := l2) (by omega) (by omega) (by omega) (by omega)
    have w4_ := iand_l (x := (ishr a36 l2)) (y := 1) (by omega) (by omega)
    have w5_ := iand_r (x := (ishr a36 l2)) (y := 1) (by omega) (by omega)
    refine w_if (fun c6_ => ?_) (fun c6_ => ?_)
    · skip
      exact s_X9_findYes_51 hk2 hk19 ⟨by omega, by omega⟩ ⟨by omega, by omega⟩ ⟨by omega, by omega⟩ ⟨by omega, by omega⟩ ⟨by omega, by omega⟩ ⟨by omega, by omega⟩ p_F12 (by omega) (by omega) iM kM
    · skip
      have w7_ := ishl1_b (k := l3) (B := 15) (by omega) (by omega) (by decide)
      exact s_X9_findYes_51 hk2 hk19 ⟨by omega, by omega⟩ ⟨by omega, by omega⟩ ⟨by omega, by omega⟩ ⟨by omega, by omega⟩ ⟨by omega, by omega⟩ ⟨by omega, by omega⟩ p_F12 (by omega) (by omega) iM kM
theorem s_X9_findYes_19 {n : Nat} {Me : Mem} {k2 : Int → Int → Int → Mem → Option (Int × Mem)} {fu2 : Nat} (hk2 : ∀ (l1 l2 : Int) (M : Mem), (1 ≤ l1 ∧ l1 ≤ 16) → (0 ≤ l2 ∧ l2 ≤ 12) → (F12 M) → 13 - l2 < (fu2 : Int) → I n M → Keep n W_X9_findYes Me M → wp (k2 126 l1 l2 M) (fun q => I n q.2 ∧ Keep n W_X9_findYes Me q.2 ∧ True)) : ∀ (fu : Nat) (l1 l2 l3 : Int) (M : Mem), (1 ≤ l1 ∧ l1 ≤ 16) → (0 ≤ l2 ∧ l2 ≤ 11) → (0 ≤ l3 ∧ l3 ≤ 16) → (F12 M) → 13 - l2 < (fu2 : Int) + 1 → 17 - l3 < (fu : Int) → I n M → Keep n W_X9_findYes Me M → wp (mX9_findYes_19 k2 fu 126 l1 l2 l3 M) (fun q => I n q.2 ∧ Keep n W_X9_findYes Me q.2 ∧ True) := by
  intro fu
  induction fu with
  | zero =>
    intro l1 l2 l3 M r_l1 r_l2 r_l3 p_F12 hf2 hf iM kM
    exfalso
    omega
  | succ fu ih =>
    intro l1 l2 l3 M r_l1 r_l2 r_l3 p_F12 hf2 hf iM kM
    exact sb_X9_findYes_19 hk2 ih r_l1 r_l2 r_l3 p_F12 hf2 (by have e : ((fu + 1 : Nat) : Int) = (fu : Int) + 1 := rfl; rw [e] at hf; exact hf) iM kM
theorem sb_X9_findYes_2 {n : Nat} {Me : Mem} {k2 : Int → Int → Int → Mem → Option (Int × Mem)} {fu2 : Nat} (hk2 : ∀ (l1 l2 : Int) (M : Mem), (1 ≤ l1 ∧ l1 ≤ 16) → (0 ≤ l2 ∧ l2 ≤ 12) → (F12 M) → 13 - l2 < (fu2 : Int) → I n M → Keep n W_X9_findYes Me M → wp (k2 126 l1 l2 M) (fun q => I n q.2 ∧ Keep n W_X9_findYes Me q.2 ∧ True)) {l1 l2 : Int} {M : Mem} (r_l1 : 1 ≤ l1 ∧ l1 ≤ 16) (r_l2 : 0 ≤ l2 ∧ l2 ≤ 12) (p_F12 : F12 M) (hf2 : 13 - l2 < (fu2 : Int) + 1) (iM : I n M) (kM : Keep n W_X9_findYes Me M) : wp (bX9_findYes_2 k2 126 l1 l2 M) (fun q => I n q.2 ∧ Keep n W_X9_findYes Me q.2 ∧ True) := by
  have hn : (169 : Int) ≤ (n : Int) := by have := iM.2.2.2.2.1; omega
  unfold bX9_findYes_2
  refine w_gK (congrArg Prod.fst (kl_126 iM)) ?_
  refine w_call (s_X9_manyFacts iM) ?_
  intro v4 m4 pp4
  obtain ⟨im4, kk4, e4_0, e4_1, -⟩ := pp4
  try dsimp only
  replace im4 : I n m4 := im4
  replace kk4 : Keep n W_X9_manyFacts M m4 := kk4
  have km4 : Keep n W_X9_findYes Me m4 := kM.tr kk4 (fun b j z => z.elim)
  replace e4_0 : 0 ≤ v4 ∧ v4 ≤ 36 := e4_0
  replace e4_1 : v4 = mG m4 153 (mG m4 134 0) := e4_1
  have ev4 := e4_1
  have ppF12_m4 : F12 m4 := (F12_of p_F12 (fun j => kk4.2.2 153 j (by omega) (fun z => z)) (fun j => kk4.2.2 134 j (by omega) (fun z => z)))
  have fv4 : v4 ≤ 12 := by rw [ev4]; exact ppF12_m4
  refine w_if (fun c1_ => ?_) (fun c1_ => ?_)
  · skip
    exact w_ret ⟨im4, km4, trivial⟩
  · skip
    refine w_gFc (ji := 61) rfl (congrArg Prod.fst (kl_126 im4)) (show mG m4 126 61 = 168 from rd_Model_61 im4 (a := 126) rfl) ?_
    refine w_aS (kl_168 im4) (by omega) (by omega) (fun M16 hM16 => ?_)
    replace hM16 : M16 = mS m4 168 l2 0 := hM16
    have iM16 : I n M16 := wr_Myes im4 rfl ⟨by omega, by omega⟩ hM16
    have kM16 : Keep n W_X9_findYes Me M16 := km4.st hM16 (Or.inl rfl)
    have ppF12_M16 : F12 M16 := (F12_of ppF12_m4 (fun j => st_ne hM16 (fun z => ne_fam rfl rfl (by decide) z.1)) (fun j => st_ne hM16 (fun z => ne_fam rfl rfl (by decide) z.1)))
    exact s_X9_findYes_19 hk2 FU _ _ _ _ ⟨by omega, by omega⟩ ⟨by omega, by omega⟩ ⟨by omega, by omega⟩ ppF12_M16 (by omega) (by show _ < (70000 : Int); omega) iM16 kM16
theorem s_X9_findYes_2 {n : Nat} {Me : Mem} : ∀ (fu : Nat) (l1 l2 : Int) (M : Mem), (1 ≤ l1 ∧ l1 ≤ 16) → (0 ≤ l2 ∧ l2 ≤ 12) → (F12 M) → 13 - l2 < (fu : Int) → I n M → Keep n W_X9_findYes Me M → wp (mX9_findYes_2 fu 126 l1 l2 M) (fun q => I n q.2 ∧ Keep n W_X9_findYes Me q.2 ∧ True) := by
  intro fu
  induction fu with
  | zero =>
    intro l1 l2 M r_l1 r_l2 p_F12 hf iM kM
    exfalso
    omega
  | succ fu ih =>
    intro l1 l2 M r_l1 r_l2 p_F12 hf iM kM
    exact sb_X9_findYes_2 ih r_l1 r_l2 p_F12 (by have e : ((fu + 1 : Nat) : Int) = (fu : Int) + 1 := rfl; rw [e] at hf; exact hf) iM kM
theorem s_X9_findYes {n : Nat} {l1 : Int} {M : Mem} (r_l1 : 1 ≤ l1 ∧ l1 ≤ 16) (p_F12 : F12 M) (iM : I n M) : wp (mX9_findYes 126 l1 M) (fun q => I n q.2 ∧ Keep n W_X9_findYes M q.2 ∧ True) := by
  have hn : (169 : Int) ≤ (n : Int) := by have := iM.2.2.2.2.1; omega
  have kM : Keep n W_X9_findYes M M := Keep.rf
  unfold mX9_findYes
  exact s_X9_findYes_2 FU _ _ _ ⟨by omega, by omega⟩ ⟨by omega, by omega⟩ p_F12 (by show _ < (70000 : Int); omega) iM kM
def W_X9_asks (b j : Int) : Prop := False
theorem s_X9_asks_46 {n : Nat} {Me : Mem} {k2 : Int → Int → Int → Mem → Option (Int × Mem)} {fu2 : Nat} (hk2 : ∀ (l1 l2 : Int) (M : Mem), (0 ≤ l1 ∧ l1 ≤ 65535) → (0 ≤ l2 ∧ l2 ≤ 12) → (F12 M) → 13 - l2 < (fu2 : Int) → I n M → Keep n W_X9_asks Me M → wp (k2 126 l1 l2 M) (fun q => I n q.2 ∧ Keep n W_X9_asks Me q.2 ∧ (0 ≤ q.1 ∧ q.1 ≤ 1) ∧ True)) {l1 l2 : Int} {M : Mem} (r_l1 : 0 ≤ l1 ∧ l1 ≤ 65535) (r_l2 : 0 ≤ l2 ∧ l2 ≤ 11) (p_F12 : F12 M) (hf2 : 13 - l2 < (fu2 : Int) + 1) (iM : I n M) (kM : Keep n W_X9_asks Me M) : wp (mX9_asks_46 k2 126 l1 l2 M) (fun q => I n q.2 ∧ Keep n W_X9_asks Me q.2 ∧ (0 ≤ q.1 ∧ q.1 ≤ 1) ∧ True) := by
  have hn : (169 : Int) ≤ (n : Int) := by have := iM.2.2.2.2.1; omega
  unfold mX9_asks_46
  have w1_ := wI_id (x := (l2 + 1)) (by omega) (by omega)
  exact hk2 _ _ _ ⟨by omega, by omega⟩ ⟨by omega, by omega⟩ p_F12 (by omega) iM kM
theorem sb_X9_asks_2 {n : Nat} {Me : Mem} {k2 : Int → Int → Int → Mem → Option (Int × Mem)} {fu2 : Nat} (hk2 : ∀ (l1 l2 : Int) (M : Mem), (0 ≤ l1 ∧ l1 ≤ 65535) → (0 ≤ l2 ∧ l2 ≤ 12) → (F12 M) → 13 - l2 < (fu2 : Int) → I n M → Keep n W_X9_asks Me M → wp (k2 126 l1 l2 M) (fun q => I n q.2 ∧ Keep n W_X9_asks Me q.2 ∧ (0 ≤ q.1 ∧ q.1 ≤ 1) ∧ True)) {l1 l2 : Int} {M : Mem} (r_l1 : 0 ≤ l1 ∧ l1 ≤ 65535) (r_l2 : 0 ≤ l2 ∧ l2 ≤ 12) (p_F12 : F12 M) (hf2 : 13 - l2 < (fu2 : Int) + 1) (iM : I n M) (kM : Keep n W_X9_asks Me M) : wp (bX9_asks_2 k2 126 l1 l2 M) (fun q => I n q.2 ∧ Keep n W_X9_asks Me q.2 ∧ (0 ≤ q.1 ∧ q.1 ≤ 1) ∧ True) := by
  have hn : (169 : Int) ≤ (n : Int) := by have := iM.2.2.2.2.1; omega
  unfold bX9_asks_2
  refine w_gK (congrArg Prod.fst (kl_126 iM)) ?_
  refine w_call (s_X9_manyFacts iM) ?_
  intro v4 m4 pp4
  obtain ⟨im4, kk4, e4_0, e4_1, -⟩ := pp4
  try dsimp only
  replace im4 : I n m4 := im4
  replace kk4 : Keep n W_X9_manyFacts M m4 := kk4
  have km4 : Keep n W_X9_asks Me m4 := kM.tr kk4 (fun b j z => z.elim)
  replace e4_0 : 0 ≤ v4 ∧ v4 ≤ 36 := e4_0
  replace e4_1 : v4 = mG m4 153 (mG m4 134 0) := e4_1
  have ev4 := e4_1
  have ppF12_m4 : F12 m4 := (F12_of p_F12 (fun j => kk4.2.2 153 j (by omega) (fun z => z)) (fun j => kk4.2.2 134 j (by omega) (fun z => z)))
  have fv4 : v4 ≤ 12 := by rw [ev4]; exact ppF12_m4
  refine w_if (fun c1_ => ?_) (fun c1_ => ?_)
  · skip
    exact w_ret ⟨im4, km4, (show 0 ≤ 0 ∧ 0 ≤ 1 from ⟨by omega, by omega⟩), trivial⟩
  · skip
    refine w_gFc (ji := 59) rfl (congrArg Prod.fst (kl_126 im4)) (show mG m4 126 59 = 166 from rd_Model_59 im4 (a := 126) rfl) ?_
    refine w_gFc (ji := 61) rfl (congrArg Prod.fst (kl_126 im4)) (show mG m4 126 61 = 168 from rd_Model_61 im4 (a := 126) rfl) ?_
    refine w_aG (kl_168 im4) (by omega) (by omega) (fun a20 ha20 => ?_)
    have ra20 : 0 ≤ a20 ∧ a20 ≤ 65535 := ha20.tr (P := fun z => 0 ≤ z ∧ z ≤ 65535) (rd_Myes im4 rfl)
    have w2_ := iand_l (x := l1) (y := a20) (by omega) (by omega)
    have w3_ := iand_r (x := l1) (y := a20) (by omega) (by omega)
    refine w_aG (kl_166 im4) (by omega) (by omega) (fun a22 ha22 => ?_)
    have ra22 : 0 ≤ a22 ∧ a22 ≤ 1 := ha22.tr (P := fun z => 0 ≤ z ∧ z ≤ 1) (rd_Mdoes im4 rfl)
    refine w_if (fun c4_ => ?_) (fun c4_ => ?_)
    · skip
      exact s_X9_asks_46 hk2 ⟨by omega, by omega⟩ ⟨by omega, by omega⟩ ppF12_m4 (by omega) im4 km4
    · skip
      refine w_gFc (ji := 59) rfl (congrArg Prod.fst (kl_126 im4)) (show mG m4 126 59 = 166 from rd_Model_59 im4 (a := 126) rfl) ?_
      refine w_gFc (ji := 61) rfl (congrArg Prod.fst (kl_126 im4)) (show mG m4 126 61 = 168 from rd_Model_61 im4 (a := 126) rfl) ?_
      refine w_aGc (kl_168 im4) (by omega) (by omega) (show mG m4 168 l2 = a20 from (show mG m4 168 l2 = a20 from ha20)) ?_
      have w5_ := ixor_in a20 (-1)
      have w6_ := iand_l (x := l1) (y := (ixor a20 (-1))) (by omega) (by omega)
      refine w_aG (kl_166 im4) (by omega) (by omega) (fun a40 ha40 => ?_)
      have ra40 : 0 ≤ a40 ∧ a40 ≤ 1 := ha40.tr (P := fun z => 0 ≤ z ∧ z ≤ 1) (rd_Mdoes im4 rfl)
      refine w_if (fun c8_ => ?_) (fun c8_ => ?_)
      · skip
        exact s_X9_asks_46 hk2 ⟨by omega, by omega⟩ ⟨by omega, by omega⟩ ppF12_m4 (by omega) im4 km4
      · skip
        exact w_ret ⟨im4, km4, (show 0 ≤ 1 ∧ 1 ≤ 1 from ⟨by omega, by omega⟩), trivial⟩
theorem s_X9_asks_2 {n : Nat} {Me : Mem} : ∀ (fu : Nat) (l1 l2 : Int) (M : Mem), (0 ≤ l1 ∧ l1 ≤ 65535) → (0 ≤ l2 ∧ l2 ≤ 12) → (F12 M) → 13 - l2 < (fu : Int) → I n M → Keep n W_X9_asks Me M → wp (mX9_asks_2 fu 126 l1 l2 M) (fun q => I n q.2 ∧ Keep n W_X9_asks Me q.2 ∧ (0 ≤ q.1 ∧ q.1 ≤ 1) ∧ True) := by
  intro fu
  induction fu with
  | zero =>
    intro l1 l2 M r_l1 r_l2 p_F12 hf iM kM
    exfalso
    omega
  | succ fu ih =>
    intro l1 l2 M r_l1 r_l2 p_F12 hf iM kM
    exact sb_X9_asks_2 ih r_l1 r_l2 p_F12 (by have e : ((fu + 1 : Nat) : Int) = (fu : Int) + 1 := rfl; rw [e] at hf; exact hf) iM kM
theorem s_X9_asks {n : Nat} {l1 : Int} {M : Mem} (r_l1 : 0 ≤ l1 ∧ l1 ≤ 65535) (p_F12 : F12 M) (iM : I n M) : wp (mX9_asks 126 l1 M) (fun q => I n q.2 ∧ Keep n W_X9_asks M q.2 ∧ (0 ≤ q.1 ∧ q.1 ≤ 1) ∧ True) := by
  have hn : (169 : Int) ≤ (n : Int) := by have := iM.2.2.2.2.1; omega
  have kM : Keep n W_X9_asks M M := Keep.rf
  unfold mX9_asks
  exact s_X9_asks_2 FU _ _ _ ⟨by omega, by omega⟩ ⟨by omega, by omega⟩ p_F12 (by show _ < (70000 : Int); omega) iM kM
def W_X9_questions (b j : Int) : Prop := (152 ≤ b ∧ b ≤ 154) ∨ (160 ≤ b ∧ b ≤ 161) ∨ (165 ≤ b ∧ b ≤ 168) ∨ (b = 126 ∧ j = 0) ∨ (b = 126 ∧ j = 46) ∨ (b = 126 ∧ j = 48) ∨ (b = 126 ∧ j = 49) ∨ (b = 126 ∧ j = 50)
theorem sb_X9_questions_176 {n : Nat} {Me : Mem} {k111 : Int → Int → Int → Mem → Option (Int × Mem)} {fu111 : Nat} (hk111 : ∀ (l1 l2 : Int) (M : Mem), (1 ≤ l1 ∧ l1 ≤ 16) → (0 ≤ l2 ∧ l2 ≤ 5) → (F12 M) → (NP M) → (SF M) → (WF M) → 6 - l2 < (fu111 : Int) → I n M → Keep n W_X9_questions Me M → wp (k111 126 l1 l2 M) (fun q => I n q.2 ∧ Keep n W_X9_questions Me q.2 ∧ ((-1) ≤ q.1 ∧ q.1 ≤ 4) ∧ True)) {k176 : Int → Int → Int → Int → Mem → Option (Int × Mem)} {fu176 : Nat} (hk176 : ∀ (l1 l2 l3 : Int) (M : Mem), (1 ≤ l1 ∧ l1 ≤ 16) → (0 ≤ l2 ∧ l2 ≤ 4) → (0 ≤ l3 ∧ l3 ≤ 65536) → (F12 M) → (NP M) → (SF M) → (WF M) → 6 - l2 < (fu111 : Int) + 1 → 65537 - l3 < (fu176 : Int) → I n M → Keep n W_X9_questions Me M → wp (k176 126 l1 l2 l3 M) (fun q => I n q.2 ∧ Keep n W_X9_questions Me q.2 ∧ ((-1) ≤ q.1 ∧ q.1 ≤ 4) ∧ True)) {l1 l2 l3 : Int} {M : Mem} (r_l1 : 1 ≤ l1 ∧ l1 ≤ 16) (r_l2 : 0 ≤ l2 ∧ l2 ≤ 4) (r_l3 : 0 ≤ l3 ∧ l3 ≤ 65536) (p_F12 : F12 M) (p_NP : NP M) (p_SF : SF M) (p_WF : WF M) (hf111 : 6 - l2 < (fu111 : Int) + 1) (hf176 : 65537 - l3 < (fu176 : Int) + 1) (iM : I n M) (kM : Keep n W_X9_questions Me M) : wp (bX9_questions_176 k111 k176 126 l1 l2 l3 M) (fun q => I n q.2 ∧ Keep n W_X9_questions Me q.2 ∧ ((-1) ≤ q.1 ∧ q.1 ≤ 4) ∧ True) := by
  have hn : (169 : Int) ≤ (n : Int) := by have := iM.2.2.2.2.1; omega
  unfold bX9_questions_176
  have w1_ := ishl1_b (k := l1) (B := 16) (by omega) (by omega) (by decide)
  refine w_if (fun c2_ => ?_) (fun c2_ => ?_)
  · skip
    have w3_ := wI_id (x := (l2 + 1)) (by omega) (by omega)
    exact hk111 _ _ _ ⟨by omega, by omega⟩ ⟨by omega, by omega⟩ p_F12 p_NP p_SF p_WF (by omega) iM kM
  · skip
    refine w_gFc (ji := 59) rfl (congrArg Prod.fst (kl_126 iM)) (show mG M 126 59 = 166 from rd_Model_59 iM (a := 126) rfl) ?_
    refine w_gFc (ji := 60) rfl (congrArg Prod.fst (kl_126 iM)) (show mG M 126 60 = 167 from rd_Model_60 iM (a := 126) rfl) ?_
    refine w_aG (kl_167 iM) (by omega) (by omega) (fun a193 ha193 => ?_)
    have ra193 : 0 ≤ a193 ∧ a193 ≤ 1 := ha193.tr (P := fun z => 0 ≤ z ∧ z ≤ 1) (rd_MdoesNow iM rfl)
    refine w_aSZ (kl_166 iM) (by omega) (by omega) (by omega) (fun M194 hM194 => ?_)
    replace hM194 : M194 = mS M 166 l3 a193 := hM194
    have iM194 : I n M194 := wr_Mdoes iM rfl ⟨by omega, by omega⟩ hM194
    have kM194 : Keep n W_X9_questions Me M194 := kM.st hM194 (Or.inl (Or.inr (Or.inr (Or.inl ⟨by decide, by decide⟩))))
    have w4_ := wI_id (x := (l3 + 1)) (by omega) (by omega)
    have ppF12_M194 : F12 M194 := (F12_of p_F12 (fun j => st_ne hM194 (fun z => ne_fam rfl rfl (by decide) z.1)) (fun j => st_ne hM194 (fun z => ne_fam rfl rfl (by decide) z.1)))
    have ppNP_M194 : NP M194 := (NP_of p_NP (fun j => st_ne hM194 (fun z => ne_fam rfl rfl (by decide) z.1)))
    have ppSF_M194 : SF M194 := (SF_of p_SF (fun j => st_ne hM194 (fun z => ne_fam rfl rfl (by decide) z.1)) (fun j => st_ne hM194 (fun z => ne_fam rfl rfl (by decide) z.1)) (fun j => st_ne hM194 (fun z => ne_fam rfl rfl (by decide) z.1)) (fun j => st_ne hM194 (fun z => ne_fam rfl rfl (by decide) z.1)) (fun j => st_ne hM194 (fun z => ne_fam rfl rfl (by decide) z.1)) (fun j => st_ne hM194 (fun z => ne_fam rfl rfl (by decide) z.1)))
    have ppWF_M194 : WF M194 := (WF_of p_WF (fun j => st_ne hM194 (fun z => ne_fam rfl rfl (by decide) z.1)) (fun j => st_ne hM194 (fun z => ne_fam rfl rfl (by decide) z.1)) (fun j => st_ne hM194 (fun z => ne_fam rfl rfl (by decide) z.1)) (fun j => st_ne hM194 (fun z => ne_fam rfl rfl (by decide) z.1)) (fun j => st_ne hM194 (fun z => ne_fam rfl rfl (by decide) z.1)))
    exact hk176 _ _ _ _ ⟨by omega, by omega⟩ ⟨by omega, by omega⟩ ⟨by omega, by omega⟩ ppF12_M194 ppNP_M194 ppSF_M194 ppWF_M194 (by omega) (by omega) iM194 kM194
theorem s_X9_questions_176 {n : Nat} {Me : Mem} {k111 : Int → Int → Int → Mem → Option (Int × Mem)} {fu111 : Nat} (hk111 : ∀ (l1 l2 : Int) (M : Mem), (1 ≤ l1 ∧ l1 ≤ 16) → (0 ≤ l2 ∧ l2 ≤ 5) → (F12 M) → (NP M) → (SF M) → (WF M) → 6 - l2 < (fu111 : Int) → I n M → Keep n W_X9_questions Me M → wp (k111 126 l1 l2 M) (fun q => I n q.2 ∧ Keep n W_X9_questions Me q.2 ∧ ((-1) ≤ q.1 ∧ q.1 ≤ 4) ∧ True)) : ∀ (fu : Nat) (l1 l2 l3 : Int) (M : Mem), (1 ≤ l1 ∧ l1 ≤ 16) → (0 ≤ l2 ∧ l2 ≤ 4) → (0 ≤ l3 ∧ l3 ≤ 65536) → (F12 M) → (NP M) → (SF M) → (WF M) → 6 - l2 < (fu111 : Int) + 1 → 65537 - l3 < (fu : Int) → I n M → Keep n W_X9_questions Me M → wp (mX9_questions_176 k111 fu 126 l1 l2 l3 M) (fun q => I n q.2 ∧ Keep n W_X9_questions Me q.2 ∧ ((-1) ≤ q.1 ∧ q.1 ≤ 4) ∧ True) := by
  intro fu
  induction fu with
  | zero =>
    intro l1 l2 l3 M r_l1 r_l2 r_l3 p_F12 p_NP p_SF p_WF hf111 hf iM kM
    exfalso
    omega
  | succ fu ih =>
    intro l1 l2 l3 M r_l1 r_l2 r_l3 p_F12 p_NP p_SF p_WF hf111 hf iM kM
    exact sb_X9_questions_176 hk111 ih r_l1 r_l2 r_l3 p_F12 p_NP p_SF p_WF hf111 (by have e : ((fu + 1 : Nat) : Int) = (fu : Int) + 1 := rfl; rw [e] at hf; exact hf) iM kM
theorem s_X9_questions_167 {n : Nat} {Me : Mem} {k111 : Int → Int → Int → Mem → Option (Int × Mem)} {fu111 : Nat} (hk111 : ∀ (l1 l2 : Int) (M : Mem), (1 ≤ l1 ∧ l1 ≤ 16) → (0 ≤ l2 ∧ l2 ≤ 5) → (F12 M) → (NP M) → (SF M) → (WF M) → 6 - l2 < (fu111 : Int) → I n M → Keep n W_X9_questions Me M → wp (k111 126 l1 l2 M) (fun q => I n q.2 ∧ Keep n W_X9_questions Me q.2 ∧ ((-1) ≤ q.1 ∧ q.1 ≤ 4) ∧ True)) {k133 : Int → Int → Int → Int → Mem → Option (Int × Mem)} {fu133 : Nat} (hk133 : ∀ (l1 l2 l3 : Int) (M : Mem), (1 ≤ l1 ∧ l1 ≤ 16) → (0 ≤ l2 ∧ l2 ≤ 4) → (0 ≤ l3 ∧ l3 ≤ 65536) → (F12 M) → (NP M) → (SF M) → (WF M) → 6 - l2 < (fu111 : Int) + 1 → 65537 - l3 < (fu133 : Int) → I n M → Keep n W_X9_questions Me M → wp (k133 126 l1 l2 l3 M) (fun q => I n q.2 ∧ Keep n W_X9_questions Me q.2 ∧ ((-1) ≤ q.1 ∧ q.1 ≤ 4) ∧ True)) {l1 l2 l3 s1 s2 : Int} {M : Mem} (r_l1 : 1 ≤ l1 ∧ l1 ≤ 16) (r_l2 : 0 ≤ l2 ∧ l2 ≤ 4) (r_l3 : 0 ≤ l3 ∧ l3 ≤ 65535) (r_s1 : 0 ≤ s1 ∧ s1 ≤ 65535) (r_s2 : 0 ≤ s2 ∧ s2 ≤ 1) (p_F12 : F12 M) (p_NP : NP M) (p_SF : SF M) (p_WF : WF M) (hf111 : 6 - l2 < (fu111 : Int) + 1) (hf133 : 65537 - l3 < (fu133 : Int) + 1) (iM : I n M) (kM : Keep n W_X9_questions Me M) : wp (mX9_questions_167 k111 k133 126 l1 l2 l3 167 s1 s2 M) (fun q => I n q.2 ∧ Keep n W_X9_questions Me q.2 ∧ ((-1) ≤ q.1 ∧ q.1 ≤ 4) ∧ True) := by
  have hn : (169 : Int) ≤ (n : Int) := by have := iM.2.2.2.2.1; omega
  unfold mX9_questions_167
  refine w_aSZ (kl_167 iM) (by omega) (by omega) (by omega) (fun M167 hM167 => ?_)
  replace hM167 : M167 = mS M 167 s1 s2 := hM167
  have iM167 : I n M167 := wr_MdoesNow iM rfl ⟨by omega, by omega⟩ hM167
  have kM167 : Keep n W_X9_questions Me M167 := kM.st hM167 (Or.inl (Or.inr (Or.inr (Or.inl ⟨by decide, by decide⟩))))
  have w1_ := wI_id (x := (l3 + 1)) (by omega) (by omega)
  have ppF12_M167 : F12 M167 := (F12_of p_F12 (fun j => st_ne hM167 (fun z => ne_fam rfl rfl (by decide) z.1)) (fun j => st_ne hM167 (fun z => ne_fam rfl rfl (by decide) z.1)))
  have ppNP_M167 : NP M167 := (NP_of p_NP (fun j => st_ne hM167 (fun z => ne_fam rfl rfl (by decide) z.1)))
  have ppSF_M167 : SF M167 := (SF_of p_SF (fun j => st_ne hM167 (fun z => ne_fam rfl rfl (by decide) z.1)) (fun j => st_ne hM167 (fun z => ne_fam rfl rfl (by decide) z.1)) (fun j => st_ne hM167 (fun z => ne_fam rfl rfl (by decide) z.1)) (fun j => st_ne hM167 (fun z => ne_fam rfl rfl (by decide) z.1)) (fun j => st_ne hM167 (fun z => ne_fam rfl rfl (by decide) z.1)) (fun j => st_ne hM167 (fun z => ne_fam rfl rfl (by decide) z.1)))
  have ppWF_M167 : WF M167 := (WF_of p_WF (fun j => st_ne hM167 (fun z => ne_fam rfl rfl (by decide) z.1)) (fun j => st_ne hM167 (fun z => ne_fam rfl rfl (by decide) z.1)) (fun j => st_ne hM167 (fun z => ne_fam rfl rfl (by decide) z.1)) (fun j => st_ne hM167 (fun z => ne_fam rfl rfl (by decide) z.1)) (fun j => st_ne hM167 (fun z => ne_fam rfl rfl (by decide) z.1)))
  exact hk133 _ _ _ _ ⟨by omega, by omega⟩ ⟨by omega, by omega⟩ ⟨by omega, by omega⟩ ppF12_M167 ppNP_M167 ppSF_M167 ppWF_M167 (by omega) (by omega) iM167 kM167
theorem s_X9_questions_162 {n : Nat} {Me : Mem} {k111 : Int → Int → Int → Mem → Option (Int × Mem)} {fu111 : Nat} (hk111 : ∀ (l1 l2 : Int) (M : Mem), (1 ≤ l1 ∧ l1 ≤ 16) → (0 ≤ l2 ∧ l2 ≤ 5) → (F12 M) → (NP M) → (SF M) → (WF M) → 6 - l2 < (fu111 : Int) → I n M → Keep n W_X9_questions Me M → wp (k111 126 l1 l2 M) (fun q => I n q.2 ∧ Keep n W_X9_questions Me q.2 ∧ ((-1) ≤ q.1 ∧ q.1 ≤ 4) ∧ True)) {k133 : Int → Int → Int → Int → Mem → Option (Int × Mem)} {fu133 : Nat} (hk133 : ∀ (l1 l2 l3 : Int) (M : Mem), (1 ≤ l1 ∧ l1 ≤ 16) → (0 ≤ l2 ∧ l2 ≤ 4) → (0 ≤ l3 ∧ l3 ≤ 65536) → (F12 M) → (NP M) → (SF M) → (WF M) → 6 - l2 < (fu111 : Int) + 1 → 65537 - l3 < (fu133 : Int) → I n M → Keep n W_X9_questions Me M → wp (k133 126 l1 l2 l3 M) (fun q => I n q.2 ∧ Keep n W_X9_questions Me q.2 ∧ ((-1) ≤ q.1 ∧ q.1 ≤ 4) ∧ True)) {l1 l2 l3 s1 : Int} {M : Mem} (r_l1 : 1 ≤ l1 ∧ l1 ≤ 16) (r_l2 : 0 ≤ l2 ∧ l2 ≤ 4) (r_l3 : 0 ≤ l3 ∧ l3 ≤ 65535) (r_s1 : 0 ≤ s1 ∧ s1 ≤ 65535) (p_F12 : F12 M) (p_NP : NP M) (p_SF : SF M) (p_WF : WF M) (hf111 : 6 - l2 < (fu111 : Int) + 1) (hf133 : 65537 - l3 < (fu133 : Int) + 1) (iM : I n M) (kM : Keep n W_X9_questions Me M) : wp (mX9_questions_162 k111 k133 126 l1 l2 l3 167 s1 M) (fun q => I n q.2 ∧ Keep n W_X9_questions Me q.2 ∧ ((-1) ≤ q.1 ∧ q.1 ≤ 4) ∧ True) := by
  have hn : (169 : Int) ≤ (n : Int) := by have := iM.2.2.2.2.1; omega
  unfold mX9_questions_162
  exact s_X9_questions_167 hk111 hk133 ⟨by omega, by omega⟩ ⟨by omega, by omega⟩ ⟨by omega, by omega⟩ ⟨by omega, by omega⟩ ⟨by omega, by omega⟩ p_F12 p_NP p_SF p_WF (by omega) (by omega) iM kM
theorem sb_X9_questions_133 {n : Nat} {Me : Mem} {k111 : Int → Int → Int → Mem → Option (Int × Mem)} {fu111 : Nat} (hk111 : ∀ (l1 l2 : Int) (M : Mem), (1 ≤ l1 ∧ l1 ≤ 16) → (0 ≤ l2 ∧ l2 ≤ 5) → (F12 M) → (NP M) → (SF M) → (WF M) → 6 - l2 < (fu111 : Int) → I n M → Keep n W_X9_questions Me M → wp (k111 126 l1 l2 M) (fun q => I n q.2 ∧ Keep n W_X9_questions Me q.2 ∧ ((-1) ≤ q.1 ∧ q.1 ≤ 4) ∧ True)) {k133 : Int → Int → Int → Int → Mem → Option (Int × Mem)} {fu133 : Nat} (hk133 : ∀ (l1 l2 l3 : Int) (M : Mem), (1 ≤ l1 ∧ l1 ≤ 16) → (0 ≤ l2 ∧ l2 ≤ 4) → (0 ≤ l3 ∧ l3 ≤ 65536) → (F12 M) → (NP M) → (SF M) → (WF M) → 6 - l2 < (fu111 : Int) + 1 → 65537 - l3 < (fu133 : Int) → I n M → Keep n W_X9_questions Me M → wp (k133 126 l1 l2 l3 M) (fun q => I n q.2 ∧ Keep n W_X9_questions Me q.2 ∧ ((-1) ≤ q.1 ∧ q.1 ≤ 4) ∧ True)) {l1 l2 l3 : Int} {M : Mem} (r_l1 : 1 ≤ l1 ∧ l1 ≤ 16) (r_l2 : 0 ≤ l2 ∧ l2 ≤ 4) (r_l3 : 0 ≤ l3 ∧ l3 ≤ 65536) (p_F12 : F12 M) (p_NP : NP M) (p_SF : SF M) (p_WF : WF M) (hf111 : 6 - l2 < (fu111 : Int) + 1) (hf133 : 65537 - l3 < (fu133 : Int) + 1) (iM : I n M) (kM : Keep n W_X9_questions Me M) : wp (bX9_questions_133 k111 k133 126 l1 l2 l3 M) (fun q => I n q.2 ∧ Keep n W_X9_questions Me q.2 ∧ ((-1) ≤ q.1 ∧ q.1 ≤ 4) ∧ True) := by
  have hn : (169 : Int) ≤ (n : Int) := by have := iM.2.2.2.2.1; omega
  unfold bX9_questions_133
  have w1_ := ishl1_b (k := l1) (B := 16) (by omega) (by omega) (by decide)
  refine w_if (fun c2_ => ?_) (fun c2_ => ?_)
  · skip
    exact s_X9_questions_176 hk111 FU _ _ _ _ ⟨by omega, by omega⟩ ⟨by omega, by omega⟩ ⟨by omega, by omega⟩ p_F12 p_NP p_SF p_WF (by omega) (by show _ < (70000 : Int); omega) iM kM
  · skip
    refine w_gFc (ji := 60) rfl (congrArg Prod.fst (kl_126 iM)) (show mG M 126 60 = 167 from rd_Model_60 iM (a := 126) rfl) ?_
    refine w_gFc (ji := 59) rfl (congrArg Prod.fst (kl_126 iM)) (show mG M 126 59 = 166 from rd_Model_59 iM (a := 126) rfl) ?_
    refine w_aG (kl_166 iM) (by omega) (by omega) (fun a150 ha150 => ?_)
    have ra150 : 0 ≤ a150 ∧ a150 ≤ 1 := ha150.tr (P := fun z => 0 ≤ z ∧ z ≤ 1) (rd_Mdoes iM rfl)
    refine w_if (fun c3_ => ?_) (fun c3_ => ?_)
    · skip
      refine w_gK (congrArg Prod.fst (kl_126 iM)) ?_
      refine w_call (s_X9_asks ⟨by omega, by omega⟩ p_F12 iM) ?_
      intro v156 m156 pp156
      obtain ⟨im156, kk156, e156_0, -⟩ := pp156
      try dsimp only
      replace im156 : I n m156 := im156
      replace kk156 : Keep n W_X9_asks M m156 := kk156
      have km156 : Keep n W_X9_questions Me m156 := kM.tr kk156 (fun b j z => z.elim)
      replace e156_0 : 0 ≤ v156 ∧ v156 ≤ 1 := e156_0
      refine w_if (fun c4_ => ?_) (fun c4_ => ?_)
      · skip
        have ppF12_m156 : F12 m156 := (F12_of p_F12 (fun j => kk156.2.2 153 j (by omega) (fun z => z)) (fun j => kk156.2.2 134 j (by omega) (fun z => z)))
        have ppNP_m156 : NP m156 := (NP_of p_NP (fun j => kk156.2.2 152 j (by omega) (fun z => z)))
        have ppSF_m156 : SF m156 := (SF_of p_SF (fun j => kk156.2.2 153 j (by omega) (fun z => z)) (fun j => kk156.2.2 134 j (by omega) (fun z => z)) (fun j => kk156.2.2 133 j (by omega) (fun z => z)) (fun j => kk156.2.2 135 j (by omega) (fun z => z)) (fun j => kk156.2.2 136 j (by omega) (fun z => z)) (fun j => kk156.2.2 152 j (by omega) (fun z => z)))
        have ppWF_m156 : WF m156 := (WF_of p_WF (fun j => kk156.2.2 141 j (by omega) (fun z => z)) (fun j => kk156.2.2 142 j (by omega) (fun z => z)) (fun j => kk156.2.2 143 j (by omega) (fun z => z)) (fun j => kk156.2.2 144 j (by omega) (fun z => z)) (fun j => kk156.2.2 138 j (by omega) (fun z => z)))
        exact s_X9_questions_167 hk111 hk133 ⟨by omega, by omega⟩ ⟨by omega, by omega⟩ ⟨by omega, by omega⟩ ⟨by omega, by omega⟩ ⟨by omega, by omega⟩ ppF12_m156 ppNP_m156 ppSF_m156 ppWF_m156 (by omega) (by omega) im156 km156
      · skip
        have ppF12_m156 : F12 m156 := (F12_of p_F12 (fun j => kk156.2.2 153 j (by omega) (fun z => z)) (fun j => kk156.2.2 134 j (by omega) (fun z => z)))
        have ppNP_m156 : NP m156 := (NP_of p_NP (fun j => kk156.2.2 152 j (by omega) (fun z => z)))
        have ppSF_m156 : SF m156 := (SF_of p_SF (fun j => kk156.2.2 153 j (by omega) (fun z => z)) (fun j => kk156.2.2 134 j (by omega) (fun z => z)) (fun j => kk156.2.2 133 j (by omega) (fun z => z)) (fun j => kk156.2.2 135 j (by omega) (fun z => z)) (fun j => kk156.2.2 136 j (by omega) (fun z => z)) (fun j => kk156.2.2 152 j (by omega) (fun z => z)))
        have ppWF_m156 : WF m156 := (WF_of p_WF (fun j => kk156.2.2 141 j (by omega) (fun z => z)) (fun j => kk156.2.2 142 j (by omega) (fun z => z)) (fun j => kk156.2.2 143 j (by omega) (fun z => z)) (fun j => kk156.2.2 144 j (by omega) (fun z => z)) (fun j => kk156.2.2 138 j (by omega) (fun z => z)))
        exact s_X9_questions_162 hk111 hk133 ⟨by omega, by omega⟩ ⟨by omega, by omega⟩ ⟨by omega, by omega⟩ ⟨by omega, by omega⟩ ppF12_m156 ppNP_m156 ppSF_m156 ppWF_m156 (by omega) (by omega) im156 km156
    · skip
      exact s_X9_questions_162 hk111 hk133 ⟨by omega, by omega⟩ ⟨by omega, by omega⟩ ⟨by omega, by omega⟩ ⟨by omega, by omega⟩ p_F12 p_NP p_SF p_WF (by omega) (by omega) iM kM
theorem s_X9_questions_133 {n : Nat} {Me : Mem} {k111 : Int → Int → Int → Mem → Option (Int × Mem)} {fu111 : Nat} (hk111 : ∀ (l1 l2 : Int) (M : Mem), (1 ≤ l1 ∧ l1 ≤ 16) → (0 ≤ l2 ∧ l2 ≤ 5) → (F12 M) → (NP M) → (SF M) → (WF M) → 6 - l2 < (fu111 : Int) → I n M → Keep n W_X9_questions Me M → wp (k111 126 l1 l2 M) (fun q => I n q.2 ∧ Keep n W_X9_questions Me q.2 ∧ ((-1) ≤ q.1 ∧ q.1 ≤ 4) ∧ True)) : ∀ (fu : Nat) (l1 l2 l3 : Int) (M : Mem), (1 ≤ l1 ∧ l1 ≤ 16) → (0 ≤ l2 ∧ l2 ≤ 4) → (0 ≤ l3 ∧ l3 ≤ 65536) → (F12 M) → (NP M) → (SF M) → (WF M) → 6 - l2 < (fu111 : Int) + 1 → 65537 - l3 < (fu : Int) → I n M → Keep n W_X9_questions Me M → wp (mX9_questions_133 k111 fu 126 l1 l2 l3 M) (fun q => I n q.2 ∧ Keep n W_X9_questions Me q.2 ∧ ((-1) ≤ q.1 ∧ q.1 ≤ 4) ∧ True) := by
  intro fu
  induction fu with
  | zero =>
    intro l1 l2 l3 M r_l1 r_l2 r_l3 p_F12 p_NP p_SF p_WF hf111 hf iM kM
    exfalso
    omega
  | succ fu ih =>
    intro l1 l2 l3 M r_l1 r_l2 r_l3 p_F12 p_NP p_SF p_WF hf111 hf iM kM
    exact sb_X9_questions_133 hk111 ih r_l1 r_l2 r_l3 p_F12 p_NP p_SF p_WF hf111 (by have e : ((fu + 1 : Nat) : Int) = (fu : Int) + 1 := rfl; rw [e] at hf; exact hf) iM kM
theorem sb_X9_questions_111 {n : Nat} {Me : Mem} {k111 : Int → Int → Int → Mem → Option (Int × Mem)} {fu111 : Nat} (hk111 : ∀ (l1 l2 : Int) (M : Mem), (1 ≤ l1 ∧ l1 ≤ 16) → (0 ≤ l2 ∧ l2 ≤ 5) → (F12 M) → (NP M) → (SF M) → (WF M) → 6 - l2 < (fu111 : Int) → I n M → Keep n W_X9_questions Me M → wp (k111 126 l1 l2 M) (fun q => I n q.2 ∧ Keep n W_X9_questions Me q.2 ∧ ((-1) ≤ q.1 ∧ q.1 ≤ 4) ∧ True)) {l1 l2 : Int} {M : Mem} (r_l1 : 1 ≤ l1 ∧ l1 ≤ 16) (r_l2 : 0 ≤ l2 ∧ l2 ≤ 5) (p_F12 : F12 M) (p_NP : NP M) (p_SF : SF M) (p_WF : WF M) (hf111 : 6 - l2 < (fu111 : Int) + 1) (iM : I n M) (kM : Keep n W_X9_questions Me M) : wp (bX9_questions_111 k111 126 l1 l2 M) (fun q => I n q.2 ∧ Keep n W_X9_questions Me q.2 ∧ ((-1) ≤ q.1 ∧ q.1 ≤ 4) ∧ True) := by
  have hn : (169 : Int) ≤ (n : Int) := by have := iM.2.2.2.2.1; omega
  unfold bX9_questions_111
  refine w_if (fun c1_ => ?_) (fun c1_ => ?_)
  · skip
    exact w_ret ⟨iM, kM, (show (-1) ≤ (-1) ∧ (-1) ≤ 4 from ⟨by omega, by omega⟩), trivial⟩
  · skip
    refine w_gFc (ji := 59) rfl (congrArg Prod.fst (kl_126 iM)) (show mG M 126 59 = 166 from rd_Model_59 iM (a := 126) rfl) ?_
    have w2_ := ishl1_b (k := l1) (B := 16) (by omega) (by omega) (by decide)
    have w3_ := wI_id (x := ((ishl 1 l1) - 1)) (by omega) (by omega)
    refine w_aG (kl_166 iM) (by omega) (by omega) (fun a125 ha125 => ?_)
    have ra125 : 0 ≤ a125 ∧ a125 ≤ 1 := ha125.tr (P := fun z => 0 ≤ z ∧ z ≤ 1) (rd_Mdoes iM rfl)
    refine w_if (fun c4_ => ?_) (fun c4_ => ?_)
    · skip
      exact s_X9_questions_133 hk111 FU _ _ _ _ ⟨by omega, by omega⟩ ⟨by omega, by omega⟩ ⟨by omega, by omega⟩ p_F12 p_NP p_SF p_WF (by omega) (by show _ < (70000 : Int); omega) iM kM
    · skip
      exact w_ret ⟨iM, kM, (show (-1) ≤ l2 ∧ l2 ≤ 4 from ⟨by omega, by omega⟩), trivial⟩
theorem s_X9_questions_111 {n : Nat} {Me : Mem} : ∀ (fu : Nat) (l1 l2 : Int) (M : Mem), (1 ≤ l1 ∧ l1 ≤ 16) → (0 ≤ l2 ∧ l2 ≤ 5) → (F12 M) → (NP M) → (SF M) → (WF M) → 6 - l2 < (fu : Int) → I n M → Keep n W_X9_questions Me M → wp (mX9_questions_111 fu 126 l1 l2 M) (fun q => I n q.2 ∧ Keep n W_X9_questions Me q.2 ∧ ((-1) ≤ q.1 ∧ q.1 ≤ 4) ∧ True) := by
  intro fu
  induction fu with
  | zero =>
    intro l1 l2 M r_l1 r_l2 p_F12 p_NP p_SF p_WF hf iM kM
    exfalso
    omega
  | succ fu ih =>
    intro l1 l2 M r_l1 r_l2 p_F12 p_NP p_SF p_WF hf iM kM
    exact sb_X9_questions_111 ih r_l1 r_l2 p_F12 p_NP p_SF p_WF (by have e : ((fu + 1 : Nat) : Int) = (fu : Int) + 1 := rfl; rw [e] at hf; exact hf) iM kM
theorem s_X9_questions_102 {n : Nat} {Me : Mem} {k77 : Int → Int → Int → Mem → Option (Int × Mem)} {fu77 : Nat} (hk77 : ∀ (l1 l2 : Int) (M : Mem), (1 ≤ l1 ∧ l1 ≤ 16) → (0 ≤ l2 ∧ l2 ≤ 65536) → (F12 M) → (NP M) → (SF M) → (WF M) → 65537 - l2 < (fu77 : Int) → I n M → Keep n W_X9_questions Me M → wp (k77 126 l1 l2 M) (fun q => I n q.2 ∧ Keep n W_X9_questions Me q.2 ∧ ((-1) ≤ q.1 ∧ q.1 ≤ 4) ∧ True)) {l1 l2 s1 s2 : Int} {M : Mem} (r_l1 : 1 ≤ l1 ∧ l1 ≤ 16) (r_l2 : 0 ≤ l2 ∧ l2 ≤ 65535) (r_s1 : 0 ≤ s1 ∧ s1 ≤ 65535) (r_s2 : 0 ≤ s2 ∧ s2 ≤ 1) (p_F12 : F12 M) (p_NP : NP M) (p_SF : SF M) (p_WF : WF M) (hf77 : 65537 - l2 < (fu77 : Int) + 1) (iM : I n M) (kM : Keep n W_X9_questions Me M) : wp (mX9_questions_102 k77 126 l1 l2 166 s1 s2 M) (fun q => I n q.2 ∧ Keep n W_X9_questions Me q.2 ∧ ((-1) ≤ q.1 ∧ q.1 ≤ 4) ∧ True) := by
  have hn : (169 : Int) ≤ (n : Int) := by have := iM.2.2.2.2.1; omega
  unfold mX9_questions_102
  refine w_aSZ (kl_166 iM) (by omega) (by omega) (by omega) (fun M102 hM102 => ?_)
  replace hM102 : M102 = mS M 166 s1 s2 := hM102
  have iM102 : I n M102 := wr_Mdoes iM rfl ⟨by omega, by omega⟩ hM102
  have kM102 : Keep n W_X9_questions Me M102 := kM.st hM102 (Or.inl (Or.inr (Or.inr (Or.inl ⟨by decide, by decide⟩))))
  have w1_ := wI_id (x := (l2 + 1)) (by omega) (by omega)
  have ppF12_M102 : F12 M102 := (F12_of p_F12 (fun j => st_ne hM102 (fun z => ne_fam rfl rfl (by decide) z.1)) (fun j => st_ne hM102 (fun z => ne_fam rfl rfl (by decide) z.1)))
  have ppNP_M102 : NP M102 := (NP_of p_NP (fun j => st_ne hM102 (fun z => ne_fam rfl rfl (by decide) z.1)))
  have ppSF_M102 : SF M102 := (SF_of p_SF (fun j => st_ne hM102 (fun z => ne_fam rfl rfl (by decide) z.1)) (fun j => st_ne hM102 (fun z => ne_fam rfl rfl (by decide) z.1)) (fun j => st_ne hM102 (fun z => ne_fam rfl rfl (by decide) z.1)) (fun j => st_ne hM102 (fun z => ne_fam rfl rfl (by decide) z.1)) (fun j => st_ne hM102 (fun z => ne_fam rfl rfl (by decide) z.1)) (fun j => st_ne hM102 (fun z => ne_fam rfl rfl (by decide) z.1)))
  have ppWF_M102 : WF M102 := (WF_of p_WF (fun j => st_ne hM102 (fun z => ne_fam rfl rfl (by decide) z.1)) (fun j => st_ne hM102 (fun z => ne_fam rfl rfl (by decide) z.1)) (fun j => st_ne hM102 (fun z => ne_fam rfl rfl (by decide) z.1)) (fun j => st_ne hM102 (fun z => ne_fam rfl rfl (by decide) z.1)) (fun j => st_ne hM102 (fun z => ne_fam rfl rfl (by decide) z.1)))
  exact hk77 _ _ _ ⟨by omega, by omega⟩ ⟨by omega, by omega⟩ ppF12_M102 ppNP_M102 ppSF_M102 ppWF_M102 (by omega) iM102 kM102
theorem sb_X9_questions_77 {n : Nat} {Me : Mem} {k77 : Int → Int → Int → Mem → Option (Int × Mem)} {fu77 : Nat} (hk77 : ∀ (l1 l2 : Int) (M : Mem), (1 ≤ l1 ∧ l1 ≤ 16) → (0 ≤ l2 ∧ l2 ≤ 65536) → (F12 M) → (NP M) → (SF M) → (WF M) → 65537 - l2 < (fu77 : Int) → I n M → Keep n W_X9_questions Me M → wp (k77 126 l1 l2 M) (fun q => I n q.2 ∧ Keep n W_X9_questions Me q.2 ∧ ((-1) ≤ q.1 ∧ q.1 ≤ 4) ∧ True)) {l1 l2 : Int} {M : Mem} (r_l1 : 1 ≤ l1 ∧ l1 ≤ 16) (r_l2 : 0 ≤ l2 ∧ l2 ≤ 65536) (p_F12 : F12 M) (p_NP : NP M) (p_SF : SF M) (p_WF : WF M) (hf77 : 65537 - l2 < (fu77 : Int) + 1) (iM : I n M) (kM : Keep n W_X9_questions Me M) : wp (bX9_questions_77 k77 126 l1 l2 M) (fun q => I n q.2 ∧ Keep n W_X9_questions Me q.2 ∧ ((-1) ≤ q.1 ∧ q.1 ≤ 4) ∧ True) := by
  have hn : (169 : Int) ≤ (n : Int) := by have := iM.2.2.2.2.1; omega
  unfold bX9_questions_77
  have w1_ := ishl1_b (k := l1) (B := 16) (by omega) (by omega) (by decide)
  refine w_if (fun c2_ => ?_) (fun c2_ => ?_)
  · skip
    exact s_X9_questions_111 FU _ _ _ ⟨by omega, by omega⟩ ⟨by omega, by omega⟩ p_F12 p_NP p_SF p_WF (by show _ < (70000 : Int); omega) iM kM
  · skip
    refine w_gFc (ji := 59) rfl (congrArg Prod.fst (kl_126 iM)) (show mG M 126 59 = 166 from rd_Model_59 iM (a := 126) rfl) ?_
    have w3_ := wI_id (x := (l2 - 1)) (by omega) (by omega)
    have w4_ := iand_l (x := l2) (y := (wI (l2 - 1))) (by omega) (by omega)
    refine w_if (fun c6_ => ?_) (fun c6_ => ?_)
    · skip
      exact s_X9_questions_102 hk77 ⟨by omega, by omega⟩ ⟨by omega, by omega⟩ ⟨by omega, by omega⟩ ⟨by omega, by omega⟩ p_F12 p_NP p_SF p_WF (by omega) iM kM
    · skip
      exact s_X9_questions_102 hk77 ⟨by omega, by omega⟩ ⟨by omega, by omega⟩ ⟨by omega, by omega⟩ ⟨by omega, by omega⟩ p_F12 p_NP p_SF p_WF (by omega) iM kM
theorem s_X9_questions_77 {n : Nat} {Me : Mem} : ∀ (fu : Nat) (l1 l2 : Int) (M : Mem), (1 ≤ l1 ∧ l1 ≤ 16) → (0 ≤ l2 ∧ l2 ≤ 65536) → (F12 M) → (NP M) → (SF M) → (WF M) → 65537 - l2 < (fu : Int) → I n M → Keep n W_X9_questions Me M → wp (mX9_questions_77 fu 126 l1 l2 M) (fun q => I n q.2 ∧ Keep n W_X9_questions Me q.2 ∧ ((-1) ≤ q.1 ∧ q.1 ≤ 4) ∧ True) := by
  intro fu
  induction fu with
  | zero =>
    intro l1 l2 M r_l1 r_l2 p_F12 p_NP p_SF p_WF hf iM kM
    exfalso
    omega
  | succ fu ih =>
    intro l1 l2 M r_l1 r_l2 p_F12 p_NP p_SF p_WF hf iM kM
    exact sb_X9_questions_77 ih r_l1 r_l2 p_F12 p_NP p_SF p_WF (by have e : ((fu + 1 : Nat) : Int) = (fu : Int) + 1 := rfl; rw [e] at hf; exact hf) iM kM
theorem s_X9_questions_58 {n : Nat} {Me : Mem} {k22 : Int → Int → Int → Mem → Option (Int × Mem)} {fu22 : Nat} (hk22 : ∀ (l1 l2 : Int) (M : Mem), (0 ≤ l1 ∧ l1 ≤ 16) → (0 ≤ l2 ∧ l2 ≤ 4096) → (F12 M) → (NP M) → (SF M) → (WF M) → 4097 - l2 < (fu22 : Int) → I n M → Keep n W_X9_questions Me M → wp (k22 126 l1 l2 M) (fun q => I n q.2 ∧ Keep n W_X9_questions Me q.2 ∧ ((-1) ≤ q.1 ∧ q.1 ≤ 4) ∧ True)) {l1 l2 : Int} {M : Mem} (r_l1 : 0 ≤ l1 ∧ l1 ≤ 16) (r_l2 : 0 ≤ l2 ∧ l2 ≤ 4095) (p_F12 : F12 M) (p_NP : NP M) (p_SF : SF M) (p_WF : WF M) (hf22 : 4097 - l2 < (fu22 : Int) + 1) (iM : I n M) (kM : Keep n W_X9_questions Me M) : wp (mX9_questions_58 k22 126 l1 l2 M) (fun q => I n q.2 ∧ Keep n W_X9_questions Me q.2 ∧ ((-1) ≤ q.1 ∧ q.1 ≤ 4) ∧ True) := by
  have hn : (169 : Int) ≤ (n : Int) := by have := iM.2.2.2.2.1; omega
  unfold mX9_questions_58
  have w1_ := wI_id (x := (l2 + 1)) (by omega) (by omega)
  exact hk22 _ _ _ ⟨by omega, by omega⟩ ⟨by omega, by omega⟩ p_F12 p_NP p_SF p_WF (by omega) iM kM
theorem sb_X9_questions_22 {n : Nat} {Me : Mem} {k22 : Int → Int → Int → Mem → Option (Int × Mem)} {fu22 : Nat} (hk22 : ∀ (l1 l2 : Int) (M : Mem), (0 ≤ l1 ∧ l1 ≤ 16) → (0 ≤ l2 ∧ l2 ≤ 4096) → (F12 M) → (NP M) → (SF M) → (WF M) → 4097 - l2 < (fu22 : Int) → I n M → Keep n W_X9_questions Me M → wp (k22 126 l1 l2 M) (fun q => I n q.2 ∧ Keep n W_X9_questions Me q.2 ∧ ((-1) ≤ q.1 ∧ q.1 ≤ 4) ∧ True)) {l1 l2 : Int} {M : Mem} (r_l1 : 0 ≤ l1 ∧ l1 ≤ 16) (r_l2 : 0 ≤ l2 ∧ l2 ≤ 4096) (p_F12 : F12 M) (p_NP : NP M) (p_SF : SF M) (p_WF : WF M) (hf22 : 4097 - l2 < (fu22 : Int) + 1) (iM : I n M) (kM : Keep n W_X9_questions Me M) : wp (bX9_questions_22 k22 126 l1 l2 M) (fun q => I n q.2 ∧ Keep n W_X9_questions Me q.2 ∧ ((-1) ≤ q.1 ∧ q.1 ≤ 4) ∧ True) := by
  have hn : (169 : Int) ≤ (n : Int) := by have := iM.2.2.2.2.1; omega
  unfold bX9_questions_22
  refine w_gK (congrArg Prod.fst (kl_126 iM)) ?_
  refine w_call (s_X9_manyFacts iM) ?_
  intro v25 m25 pp25
  obtain ⟨im25, kk25, e25_0, e25_1, -⟩ := pp25
  try dsimp only
  replace im25 : I n m25 := im25
  replace kk25 : Keep n W_X9_manyFacts M m25 := kk25
  have km25 : Keep n W_X9_questions Me m25 := kM.tr kk25 (fun b j z => z.elim)
  replace e25_0 : 0 ≤ v25 ∧ v25 ≤ 36 := e25_0
  replace e25_1 : v25 = mG m25 153 (mG m25 134 0) := e25_1
  have ev25 := e25_1
  have ppF12_m25 : F12 m25 := (F12_of p_F12 (fun j => kk25.2.2 153 j (by omega) (fun z => z)) (fun j => kk25.2.2 134 j (by omega) (fun z => z)))
  have fv25 : v25 ≤ 12 := by rw [ev25]; exact ppF12_m25
  have w1_ := ishl1_b (k := v25) (B := 12) (by omega) (by omega) (by decide)
  refine w_if (fun c2_ => ?_) (fun c2_ => ?_)
  · skip
    refine w_if (fun c3_ => ?_) (fun c3_ => ?_)
    · skip
      exact w_ret ⟨im25, km25, (show (-1) ≤ (-1) ∧ (-1) ≤ 4 from ⟨by omega, by omega⟩), trivial⟩
    · skip
      refine w_gK (congrArg Prod.fst (kl_126 im25)) ?_
      refine w_call (s_X9_findYes ⟨by omega, by omega⟩ ppF12_m25 im25) ?_
      intro v72 m72 pp72
      obtain ⟨im72, kk72, -⟩ := pp72
      try dsimp only
      replace im72 : I n m72 := im72
      replace kk72 : Keep n W_X9_findYes m25 m72 := kk72
      have km72 : Keep n W_X9_questions Me m72 := km25.tr kk72 (fun b j z => by unfold W_X9_findYes at z; exact (Or.inr (Or.inr (Or.inl ⟨by omega, by omega⟩))))
      have ppF12_m72 : F12 m72 := (F12_of ppF12_m25 (fun j => kk72.2.2 153 j (by omega) (fun z => by unfold W_X9_findYes at z; (try unfold isWS at z); (try unfold isShape at z); (try unfold isTold at z); (try dsimp only at z); omega)) (fun j => kk72.2.2 134 j (by omega) (fun z => by unfold W_X9_findYes at z; (try unfold isWS at z); (try unfold isShape at z); (try unfold isTold at z); (try dsimp only at z); omega)))
      have ppNP_m72 : NP m72 := (NP_of (NP_of p_NP (fun j => kk25.2.2 152 j (by omega) (fun z => z))) (fun j => kk72.2.2 152 j (by omega) (fun z => by unfold W_X9_findYes at z; (try unfold isWS at z); (try unfold isShape at z); (try unfold isTold at z); (try dsimp only at z); omega)))
      have ppSF_m72 : SF m72 := (SF_of (SF_of p_SF (fun j => kk25.2.2 153 j (by omega) (fun z => z)) (fun j => kk25.2.2 134 j (by omega) (fun z => z)) (fun j => kk25.2.2 133 j (by omega) (fun z => z)) (fun j => kk25.2.2 135 j (by omega) (fun z => z)) (fun j => kk25.2.2 136 j (by omega) (fun z => z)) (fun j => kk25.2.2 152 j (by omega) (fun z => z))) (fun j => kk72.2.2 153 j (by omega) (fun z => by unfold W_X9_findYes at z; (try unfold isWS at z); (try unfold isShape at z); (try unfold isTold at z); (try dsimp only at z); omega)) (fun j => kk72.2.2 134 j (by omega) (fun z => by unfold W_X9_findYes at z; (try unfold isWS at z); (try unfold isShape at z); (try unfold isTold at z); (try dsimp only at z); omega)) (fun j => kk72.2.2 133 j (by omega) (fun z => by unfold W_X9_findYes at z; (try unfold isWS at z); (try unfold isShape at z); (try unfold isTold at z); (try dsimp only at z); omega)) (fun j => kk72.2.2 135 j (by omega) (fun z => by unfold W_X9_findYes at z; (try unfold isWS at z); (try unfold isShape at z); (try unfold isTold at z); (try dsimp only at z); omega)) (fun j => kk72.2.2 136 j (by omega) (fun z => by unfold W_X9_findYes at z; (try unfold isWS at z); (try unfold isShape at z); (try unfold isTold at z); (try dsimp only at z); omega)) (fun j => kk72.2.2 152 j (by omega) (fun z => by unfold W_X9_findYes at z; (try unfold isWS at z); (try unfold isShape at z); (try unfold isTold at z); (try dsimp only at z); omega)))
      have ppWF_m72 : WF m72 := (WF_of (WF_of p_WF (fun j => kk25.2.2 141 j (by omega) (fun z => z)) (fun j => kk25.2.2 142 j (by omega) (fun z => z)) (fun j => kk25.2.2 143 j (by omega) (fun z => z)) (fun j => kk25.2.2 144 j (by omega) (fun z => z)) (fun j => kk25.2.2 138 j (by omega) (fun z => z))) (fun j => kk72.2.2 141 j (by omega) (fun z => by unfold W_X9_findYes at z; (try unfold isWS at z); (try unfold isShape at z); (try unfold isTold at z); (try dsimp only at z); omega)) (fun j => kk72.2.2 142 j (by omega) (fun z => by unfold W_X9_findYes at z; (try unfold isWS at z); (try unfold isShape at z); (try unfold isTold at z); (try dsimp only at z); omega)) (fun j => kk72.2.2 143 j (by omega) (fun z => by unfold W_X9_findYes at z; (try unfold isWS at z); (try unfold isShape at z); (try unfold isTold at z); (try dsimp only at z); omega)) (fun j => kk72.2.2 144 j (by omega) (fun z => by unfold W_X9_findYes at z; (try unfold isWS at z); (try unfold isShape at z); (try unfold isTold at z); (try dsimp only at z); omega)) (fun j => kk72.2.2 138 j (by omega) (fun z => by unfold W_X9_findYes at z; (try unfold isWS at z); (try unfold isShape at z); (try unfold isTold at z); (try dsimp only at z); omega)))
      exact s_X9_questions_77 FU _ _ _ ⟨by omega, by omega⟩ ⟨by omega, by omega⟩ ppF12_m72 ppNP_m72 ppSF_m72 ppWF_m72 (by show _ < (70000 : Int); omega) im72 km72
  · skip
    refine w_gK (congrArg Prod.fst (kl_126 im25)) ?_
    have ppNP_m25 : NP m25 := (NP_of p_NP (fun j => kk25.2.2 152 j (by omega) (fun z => z)))
    have ppWF_m25 : WF m25 := (WF_of p_WF (fun j => kk25.2.2 141 j (by omega) (fun z => z)) (fun j => kk25.2.2 142 j (by omega) (fun z => z)) (fun j => kk25.2.2 143 j (by omega) (fun z => z)) (fun j => kk25.2.2 144 j (by omega) (fun z => z)) (fun j => kk25.2.2 138 j (by omega) (fun z => z)))
    refine w_call (s_X9_isWorld ⟨by omega, by omega⟩ ppF12_m25 ppNP_m25 ppWF_m25 im25) ?_
    intro v34 m34 pp34
    obtain ⟨im34, kk34, e34_0, -⟩ := pp34
    try dsimp only
    replace im34 : I n m34 := im34
    replace kk34 : Keep n W_X9_isWorld m25 m34 := kk34
    have km34 : Keep n W_X9_questions Me m34 := km25.tr kk34 (fun b j z => Or.elim z (fun z => (Or.inl ⟨by omega, by omega⟩)) (fun z => Or.elim z (fun z => (Or.inr (Or.inl z))) (fun z => (Or.inr (Or.inr (Or.inr (Or.inr (Or.inl z))))))))
    replace e34_0 : 0 ≤ v34 ∧ v34 ≤ 1 := e34_0
    refine w_if (fun c4_ => ?_) (fun c4_ => ?_)
    · skip
      have ppF12_m34 : F12 m34 := (F12_of ppF12_m25 (fun j => kk34.2.2 153 j (by omega) (fun z => by unfold W_X9_isWorld at z; (try unfold isWS at z); (try unfold isShape at z); (try unfold isTold at z); (try dsimp only at z); omega)) (fun j => kk34.2.2 134 j (by omega) (fun z => by unfold W_X9_isWorld at z; (try unfold isWS at z); (try unfold isShape at z); (try unfold isTold at z); (try dsimp only at z); omega)))
      have ppNP_m34 : NP m34 := (NP_of ppNP_m25 (fun j => kk34.2.2 152 j (by omega) (fun z => by unfold W_X9_isWorld at z; (try unfold isWS at z); (try unfold isShape at z); (try unfold isTold at z); (try dsimp only at z); omega)))
      have ppSF_m34 : SF m34 := (SF_of (SF_of p_SF (fun j => kk25.2.2 153 j (by omega) (fun z => z)) (fun j => kk25.2.2 134 j (by omega) (fun z => z)) (fun j => kk25.2.2 133 j (by omega) (fun z => z)) (fun j => kk25.2.2 135 j (by omega) (fun z => z)) (fun j => kk25.2.2 136 j (by omega) (fun z => z)) (fun j => kk25.2.2 152 j (by omega) (fun z => z))) (fun j => kk34.2.2 153 j (by omega) (fun z => by unfold W_X9_isWorld at z; (try unfold isWS at z); (try unfold isShape at z); (try unfold isTold at z); (try dsimp only at z); omega)) (fun j => kk34.2.2 134 j (by omega) (fun z => by unfold W_X9_isWorld at z; (try unfold isWS at z); (try unfold isShape at z); (try unfold isTold at z); (try dsimp only at z); omega)) (fun j => kk34.2.2 133 j (by omega) (fun z => by unfold W_X9_isWorld at z; (try unfold isWS at z); (try unfold isShape at z); (try unfold isTold at z); (try dsimp only at z); omega)) (fun j => kk34.2.2 135 j (by omega) (fun z => by unfold W_X9_isWorld at z; (try unfold isWS at z); (try unfold isShape at z); (try unfold isTold at z); (try dsimp only at z); omega)) (fun j => kk34.2.2 136 j (by omega) (fun z => by unfold W_X9_isWorld at z; (try unfold isWS at z); (try unfold isShape at z); (try unfold isTold at z); (try dsimp only at z); omega)) (fun j => kk34.2.2 152 j (by omega) (fun z => by unfold W_X9_isWorld at z; (try unfold isWS at z); (try unfold isShape at z); (try unfold isTold at z); (try dsimp only at z); omega)))
      have ppWF_m34 : WF m34 := (WF_of ppWF_m25 (fun j => kk34.2.2 141 j (by omega) (fun z => by unfold W_X9_isWorld at z; (try unfold isWS at z); (try unfold isShape at z); (try unfold isTold at z); (try dsimp only at z); omega)) (fun j => kk34.2.2 142 j (by omega) (fun z => by unfold W_X9_isWorld at z; (try unfold isWS at z); (try unfold isShape at z); (try unfold isTold at z); (try dsimp only at z); omega)) (fun j => kk34.2.2 143 j (by omega) (fun z => by unfold W_X9_isWorld at z; (try unfold isWS at z); (try unfold isShape at z); (try unfold isTold at z); (try dsimp only at z); omega)) (fun j => kk34.2.2 144 j (by omega) (fun z => by unfold W_X9_isWorld at z; (try unfold isWS at z); (try unfold isShape at z); (try unfold isTold at z); (try dsimp only at z); omega)) (fun j => kk34.2.2 138 j (by omega) (fun z => by unfold W_X9_isWorld at z; (try unfold isWS at z); (try unfold isShape at z); (try unfold isTold at z); (try dsimp only at z); omega)))
      exact s_X9_questions_58 hk22 ⟨by omega, by omega⟩ ⟨by omega, by omega⟩ ppF12_m34 ppNP_m34 ppSF_m34 ppWF_m34 (by omega) im34 km34
    · skip
      refine w_if (fun c5_ => ?_) (fun c5_ => ?_)
      · skip
        exact w_ret ⟨im34, km34, (show (-1) ≤ (-1) ∧ (-1) ≤ 4 from ⟨by omega, by omega⟩), trivial⟩
      · skip
        refine w_gFc (ji := 58) rfl (congrArg Prod.fst (kl_126 im34)) (show mG m34 126 58 = 165 from rd_Model_58 im34 (a := 126) rfl) ?_
        refine w_aS (kl_165 im34) (by omega) (by omega) (fun M54 hM54 => ?_)
        replace hM54 : M54 = mS m34 165 l1 l2 := hM54
        have iM54 : I n M54 := wr_MfewWorlds im34 rfl ⟨by omega, by omega⟩ hM54
        have kM54 : Keep n W_X9_questions Me M54 := km34.st hM54 (Or.inl (Or.inr (Or.inr (Or.inl ⟨by decide, by decide⟩))))
        have w6_ := wI_id (x := (l1 + 1)) (by omega) (by omega)
        have ppF12_M54 : F12 M54 := (F12_of (F12_of ppF12_m25 (fun j => kk34.2.2 153 j (by omega) (fun z => by unfold W_X9_isWorld at z; (try unfold isWS at z); (try unfold isShape at z); (try unfold isTold at z); (try dsimp only at z); omega)) (fun j => kk34.2.2 134 j (by omega) (fun z => by unfold W_X9_isWorld at z; (try unfold isWS at z); (try unfold isShape at z); (try unfold isTold at z); (try dsimp only at z); omega))) (fun j => st_ne hM54 (fun z => ne_fam rfl rfl (by decide) z.1)) (fun j => st_ne hM54 (fun z => ne_fam rfl rfl (by decide) z.1)))
        have ppNP_M54 : NP M54 := (NP_of (NP_of ppNP_m25 (fun j => kk34.2.2 152 j (by omega) (fun z => by unfold W_X9_isWorld at z; (try unfold isWS at z); (try unfold isShape at z); (try unfold isTold at z); (try dsimp only at z); omega))) (fun j => st_ne hM54 (fun z => ne_fam rfl rfl (by decide) z.1)))
        have ppSF_M54 : SF M54 := (SF_of (SF_of (SF_of p_SF (fun j => kk25.2.2 153 j (by omega) (fun z => z)) (fun j => kk25.2.2 134 j (by omega) (fun z => z)) (fun j => kk25.2.2 133 j (by omega) (fun z => z)) (fun j => kk25.2.2 135 j (by omega) (fun z => z)) (fun j => kk25.2.2 136 j (by omega) (fun z => z)) (fun j => kk25.2.2 152 j (by omega) (fun z => z))) (fun j => kk34.2.2 153 j (by omega) (fun z => by unfold W_X9_isWorld at z; (try unfold isWS at z); (try unfold isShape at z); (try unfold isTold at z); (try dsimp only at z); omega)) (fun j => kk34.2.2 134 j (by omega) (fun z => by unfold W_X9_isWorld at z; (try unfold isWS at z); (try unfold isShape at z); (try unfold isTold at z); (try dsimp only at z); omega)) (fun j => kk34.2.2 133 j (by omega) (fun z => by unfold W_X9_isWorld at z; (try unfold isWS at z); (try unfold isShape at z); (try unfold isTold at z); (try dsimp only at z); omega)) (fun j => kk34.2.2 135 j (by omega) (fun z => by unfold W_X9_isWorld at z; (try unfold isWS at z); (try unfold isShape at z); (try unfold isTold at z); (try dsimp only at z); omega)) (fun j => kk34.2.2 136 j (by omega) (fun z => by unfold W_X9_isWorld at z; (try unfold isWS at z); (try unfold isShape at z); (try unfold isTold at z); (try dsimp only at z); omega)) (fun j => kk34.2.2 152 j (by omega) (fun z => by unfold W_X9_isWorld at z; (try unfold isWS at z); (try unfold isShape at z); (try unfold isTold at z); (try dsimp only at z); omega))) (fun j => st_ne hM54 (fun z => ne_fam rfl rfl (by decide) z.1)) (fun j => st_ne hM54 (fun z => ne_fam rfl rfl (by decide) z.1)) (fun j => st_ne hM54 (fun z => ne_fam rfl rfl (by decide) z.1)) (fun j => st_ne hM54 (fun z => ne_fam rfl rfl (by decide) z.1)) (fun j => st_ne hM54 (fun z => ne_fam rfl rfl (by decide) z.1)) (fun j => st_ne hM54 (fun z => ne_fam rfl rfl (by decide) z.1)))
        have ppWF_M54 : WF M54 := (WF_of (WF_of ppWF_m25 (fun j => kk34.2.2 141 j (by omega) (fun z => by unfold W_X9_isWorld at z; (try unfold isWS at z); (try unfold isShape at z); (try unfold isTold at z); (try dsimp only at z); omega)) (fun j => kk34.2.2 142 j (by omega) (fun z => by unfold W_X9_isWorld at z; (try unfold isWS at z); (try unfold isShape at z); (try unfold isTold at z); (try dsimp only at z); omega)) (fun j => kk34.2.2 143 j (by omega) (fun z => by unfold W_X9_isWorld at z; (try unfold isWS at z); (try unfold isShape at z); (try unfold isTold at z); (try dsimp only at z); omega)) (fun j => kk34.2.2 144 j (by omega) (fun z => by unfold W_X9_isWorld at z; (try unfold isWS at z); (try unfold isShape at z); (try unfold isTold at z); (try dsimp only at z); omega)) (fun j => kk34.2.2 138 j (by omega) (fun z => by unfold W_X9_isWorld at z; (try unfold isWS at z); (try unfold isShape at z); (try unfold isTold at z); (try dsimp only at z); omega))) (fun j => st_ne hM54 (fun z => ne_fam rfl rfl (by decide) z.1)) (fun j => st_ne hM54 (fun z => ne_fam rfl rfl (by decide) z.1)) (fun j => st_ne hM54 (fun z => ne_fam rfl rfl (by decide) z.1)) (fun j => st_ne hM54 (fun z => ne_fam rfl rfl (by decide) z.1)) (fun j => st_ne hM54 (fun z => ne_fam rfl rfl (by decide) z.1)))
        exact s_X9_questions_58 hk22 ⟨by omega, by omega⟩ ⟨by omega, by omega⟩ ppF12_M54 ppNP_M54 ppSF_M54 ppWF_M54 (by omega) iM54 kM54
theorem s_X9_questions_22 {n : Nat} {Me : Mem} : ∀ (fu : Nat) (l1 l2 : Int) (M : Mem), (0 ≤ l1 ∧ l1 ≤ 16) → (0 ≤ l2 ∧ l2 ≤ 4096) → (F12 M) → (NP M) → (SF M) → (WF M) → 4097 - l2 < (fu : Int) → I n M → Keep n W_X9_questions Me M → wp (mX9_questions_22 fu 126 l1 l2 M) (fun q => I n q.2 ∧ Keep n W_X9_questions Me q.2 ∧ ((-1) ≤ q.1 ∧ q.1 ≤ 4) ∧ True) := by
  intro fu
  induction fu with
  | zero =>
    intro l1 l2 M r_l1 r_l2 p_F12 p_NP p_SF p_WF hf iM kM
    exfalso
    omega
  | succ fu ih =>
    intro l1 l2 M r_l1 r_l2 p_F12 p_NP p_SF p_WF hf iM kM
    exact sb_X9_questions_22 ih r_l1 r_l2 p_F12 p_NP p_SF p_WF (by have e : ((fu + 1 : Nat) : Int) = (fu : Int) + 1 := rfl; rw [e] at hf; exact hf) iM kM
theorem s_X9_questions {n : Nat} {M : Mem} (p_WF : WF M) (iM : I n M) : wp (mX9_questions 126 M) (fun q => I n q.2 ∧ Keep n W_X9_questions M q.2 ∧ ((-1) ≤ q.1 ∧ q.1 ≤ 4) ∧ True) := by
  have hn : (169 : Int) ≤ (n : Int) := by have := iM.2.2.2.2.1; omega
  have kM : Keep n W_X9_questions M M := Keep.rf
  unfold mX9_questions
  refine w_pF (ji := 0) rfl (congrArg Prod.fst (kl_126 iM)) (fun M2 hM2 => ?_)
  replace hM2 : M2 = mS M 126 0 0 := hM2
  have iM2 : I n M2 := wr_Model_0 iM rfl ⟨by omega, by omega⟩ hM2
  have kM2 : Keep n W_X9_questions M M2 := kM.st hM2 (Or.inl (Or.inr (Or.inr (Or.inr (Or.inl ⟨rfl, rfl⟩)))))
  refine w_gK (congrArg Prod.fst (kl_126 iM2)) ?_
  refine w_call (s_X9_canTell iM2) ?_
  intro v6 m6 pp6
  obtain ⟨im6, kk6, e6_0, e6_1, e6_2, e6_3, -⟩ := pp6
  try dsimp only
  replace im6 : I n m6 := im6
  replace kk6 : Keep n W_X9_canTell M2 m6 := kk6
  have km6 : Keep n W_X9_questions M m6 := kM2.tr kk6 (fun b j z => by unfold W_X9_canTell at z; exact (Or.inl ⟨by omega, by omega⟩))
  replace e6_0 : 0 ≤ v6 ∧ v6 ≤ 1 := e6_0
  replace e6_1 : NP m6 := e6_1
  have gNP_m6 := e6_1
  replace e6_2 : SF m6 := e6_2
  have gSF_m6 := e6_2
  replace e6_3 : v6 = 1 → F12 m6 := e6_3
  have ev6 := e6_3
  refine w_if (fun c1_ => ?_) (fun c1_ => ?_)
  · skip
    exact w_ret ⟨im6, km6, (show (-1) ≤ (-1) ∧ (-1) ≤ 4 from ⟨by omega, by omega⟩), trivial⟩
  · skip
    have pF12_c1__m6 : F12 m6 := ev6 (by omega)
    refine w_gK (congrArg Prod.fst (kl_126 im6)) ?_
    refine w_call (s_X9_prepare pF12_c1__m6 gNP_m6 im6) ?_
    intro v15 m15 pp15
    obtain ⟨im15, kk15, -⟩ := pp15
    try dsimp only
    replace im15 : I n m15 := im15
    replace kk15 : Keep n W_X9_prepare m6 m15 := kk15
    have km15 : Keep n W_X9_questions M m15 := km6.tr kk15 (fun b j z => Or.elim z (fun z => (Or.inr (Or.inr (Or.inr (Or.inr (Or.inr (Or.inl z))))))) (fun z => Or.elim z (fun z => (Or.inr (Or.inr (Or.inr (Or.inr (Or.inr (Or.inr (Or.inl z)))))))) (fun z => (Or.inr (Or.inr (Or.inr (Or.inr (Or.inr (Or.inr (Or.inr z))))))))))
    have ppF12_m15 : F12 m15 := (F12_of pF12_c1__m6 (fun j => kk15.2.2 153 j (by omega) (fun z => by unfold W_X9_prepare at z; (try unfold isWS at z); (try unfold isShape at z); (try unfold isTold at z); (try dsimp only at z); omega)) (fun j => kk15.2.2 134 j (by omega) (fun z => by unfold W_X9_prepare at z; (try unfold isWS at z); (try unfold isShape at z); (try unfold isTold at z); (try dsimp only at z); omega)))
    have ppNP_m15 : NP m15 := (NP_of gNP_m6 (fun j => kk15.2.2 152 j (by omega) (fun z => by unfold W_X9_prepare at z; (try unfold isWS at z); (try unfold isShape at z); (try unfold isTold at z); (try dsimp only at z); omega)))
    have ppSF_m15 : SF m15 := (SF_of gSF_m6 (fun j => kk15.2.2 153 j (by omega) (fun z => by unfold W_X9_prepare at z; (try unfold isWS at z); (try unfold isShape at z); (try unfold isTold at z); (try dsimp only at z); omega)) (fun j => kk15.2.2 134 j (by omega) (fun z => by unfold W_X9_prepare at z; (try unfold isWS at z); (try unfold isShape at z); (try unfold isTold at z); (try dsimp only at z); omega)) (fun j => kk15.2.2 133 j (by omega) (fun z => by unfold W_X9_prepare at z; (try unfold isWS at z); (try unfold isShape at z); (try unfold isTold at z); (try dsimp only at z); omega)) (fun j => kk15.2.2 135 j (by omega) (fun z => by unfold W_X9_prepare at z; (try unfold isWS at z); (try unfold isShape at z); (try unfold isTold at z); (try dsimp only at z); omega)) (fun j => kk15.2.2 136 j (by omega) (fun z => by unfold W_X9_prepare at z; (try unfold isWS at z); (try unfold isShape at z); (try unfold isTold at z); (try dsimp only at z); omega)) (fun j => kk15.2.2 152 j (by omega) (fun z => by unfold W_X9_prepare at z; (try unfold isWS at z); (try unfold isShape at z); (try unfold isTold at z); (try dsimp only at z); omega)))
    have ppWF_m15 : WF m15 := (WF_of (WF_of (WF_of p_WF (fun j => st_ne hM2 (fun z => ne_fam rfl rfl (by decide) z.1)) (fun j => st_ne hM2 (fun z => ne_fam rfl rfl (by decide) z.1)) (fun j => st_ne hM2 (fun z => ne_fam rfl rfl (by decide) z.1)) (fun j => st_ne hM2 (fun z => ne_fam rfl rfl (by decide) z.1)) (fun j => st_ne hM2 (fun z => ne_fam rfl rfl (by decide) z.1))) (fun j => kk6.2.2 141 j (by omega) (fun z => by unfold W_X9_canTell at z; (try unfold isWS at z); (try unfold isShape at z); (try unfold isTold at z); (try dsimp only at z); omega)) (fun j => kk6.2.2 142 j (by omega) (fun z => by unfold W_X9_canTell at z; (try unfold isWS at z); (try unfold isShape at z); (try unfold isTold at z); (try dsimp only at z); omega)) (fun j => kk6.2.2 143 j (by omega) (fun z => by unfold W_X9_canTell at z; (try unfold isWS at z); (try unfold isShape at z); (try unfold isTold at z); (try dsimp only at z); omega)) (fun j => kk6.2.2 144 j (by omega) (fun z => by unfold W_X9_canTell at z; (try unfold isWS at z); (try unfold isShape at z); (try unfold isTold at z); (try dsimp only at z); omega)) (fun j => kk6.2.2 138 j (by omega) (fun z => by unfold W_X9_canTell at z; (try unfold isWS at z); (try unfold isShape at z); (try unfold isTold at z); (try dsimp only at z); omega))) (fun j => kk15.2.2 141 j (by omega) (fun z => by unfold W_X9_prepare at z; (try unfold isWS at z); (try unfold isShape at z); (try unfold isTold at z); (try dsimp only at z); omega)) (fun j => kk15.2.2 142 j (by omega) (fun z => by unfold W_X9_prepare at z; (try unfold isWS at z); (try unfold isShape at z); (try unfold isTold at z); (try dsimp only at z); omega)) (fun j => kk15.2.2 143 j (by omega) (fun z => by unfold W_X9_prepare at z; (try unfold isWS at z); (try unfold isShape at z); (try unfold isTold at z); (try dsimp only at z); omega)) (fun j => kk15.2.2 144 j (by omega) (fun z => by unfold W_X9_prepare at z; (try unfold isWS at z); (try unfold isShape at z); (try unfold isTold at z); (try dsimp only at z); omega)) (fun j => kk15.2.2 138 j (by omega) (fun z => by unfold W_X9_prepare at z; (try unfold isWS at z); (try unfold isShape at z); (try unfold isTold at z); (try dsimp only at z); omega)))
    exact s_X9_questions_22 FU _ _ _ ⟨by omega, by omega⟩ ⟨by omega, by omega⟩ ppF12_m15 ppNP_m15 ppSF_m15 ppWF_m15 (by show _ < (70000 : Int); omega) im15 km15
