def W_X9_against (b j : Int) : Prop := b = 137 ∨ (152 ≤ b ∧ b ≤ 154) ∨ (160 ≤ b ∧ b ≤ 162) ∨ (b = 126 ∧ j = 0) ∨ (b = 126 ∧ j = 46) ∨ (b = 126 ∧ j = 48) ∨ (b = 126 ∧ j = 49) ∨ (b = 126 ∧ j = 50)
theorem s_X9_against_64 {n : Nat} {Me : Mem} {k30 : Int → Int → Mem → Option (Int × Mem)} {fu30 : Nat} (hk30 : ∀ (l1 : Int) (M : Mem), (0 ≤ l1 ∧ l1 ≤ 4096) → (F12 M) → (NP M) → (SF M) → (WF M) → 4097 - l1 < (fu30 : Int) → I n M → Keep n W_X9_against Me M → wp (k30 126 l1 M) (fun q => I n q.2 ∧ Keep n W_X9_against Me q.2 ∧ (0 ≤ q.1 ∧ q.1 ≤ 1) ∧ True)) {l1 : Int} {M : Mem} (r_l1 : 0 ≤ l1 ∧ l1 ≤ 4095) (p_F12 : F12 M) (p_NP : NP M) (p_SF : SF M) (p_WF : WF M) (hf30 : 4097 - l1 < (fu30 : Int) + 1) (iM : I n M) (kM : Keep n W_X9_against Me M) : wp (mX9_against_64 k30 126 l1 M) (fun q => I n q.2 ∧ Keep n W_X9_against Me q.2 ∧ (0 ≤ q.1 ∧ q.1 ≤ 1) ∧ True) := by
  have hn : (169 : Int) ≤ (n : Int) := by have := iM.2.2.2.2.1; omega
  unfold mX9_against_64
  have w1_ := wI_id (x := (l1 + 1)) (by omega) (by omega)
  exact hk30 _ _ ⟨by omega, by omega⟩ p_F12 p_NP p_SF p_WF (by omega) iM kM
theorem sb_X9_against_30 {n : Nat} {Me : Mem} {k30 : Int → Int → Mem → Option (Int × Mem)} {fu30 : Nat} (hk30 : ∀ (l1 : Int) (M : Mem), (0 ≤ l1 ∧ l1 ≤ 4096) → (F12 M) → (NP M) → (SF M) → (WF M) → 4097 - l1 < (fu30 : Int) → I n M → Keep n W_X9_against Me M → wp (k30 126 l1 M) (fun q => I n q.2 ∧ Keep n W_X9_against Me q.2 ∧ (0 ≤ q.1 ∧ q.1 ≤ 1) ∧ True)) {l1 : Int} {M : Mem} (r_l1 : 0 ≤ l1 ∧ l1 ≤ 4096) (p_F12 : F12 M) (p_NP : NP M) (p_SF : SF M) (p_WF : WF M) (hf30 : 4097 - l1 < (fu30 : Int) + 1) (iM : I n M) (kM : Keep n W_X9_against Me M) : wp (bX9_against_30 k30 126 l1 M) (fun q => I n q.2 ∧ Keep n W_X9_against Me q.2 ∧ (0 ≤ q.1 ∧ q.1 ≤ 1) ∧ True) := by
  have hn : (169 : Int) ≤ (n : Int) := by have := iM.2.2.2.2.1; omega
  unfold bX9_against_30
  refine w_gK (congrArg Prod.fst (kl_126 iM)) ?_
  refine w_call (s_X9_manyFacts iM) ?_
  intro v33 m33 pp33
  obtain ⟨im33, kk33, e33_0, e33_1, -⟩ := pp33
  try dsimp only
  replace im33 : I n m33 := im33
  replace kk33 : Keep n W_X9_manyFacts M m33 := kk33
  have km33 : Keep n W_X9_against Me m33 := kM.tr kk33 (fun b j z => z.elim)
  replace e33_0 : 0 ≤ v33 ∧ v33 ≤ 36 := e33_0
  replace e33_1 : v33 = mG m33 153 (mG m33 134 0) := e33_1
  have ev33 := e33_1
  have ppF12_m33 : F12 m33 := (F12_of p_F12 (fun j => kk33.2.2 153 j (by omega) (fun z => z)) (fun j => kk33.2.2 134 j (by omega) (fun z => z)))
  have fv33 : v33 ≤ 12 := by rw [ev33]; exact ppF12_m33
  have w1_ := ishl1_b (k := v33) (B := 12) (by omega) (by omega) (by decide)
  refine w_if (fun c2_ => ?_) (fun c2_ => ?_)
  · skip
    exact w_ret ⟨im33, km33, (show 0 ≤ 0 ∧ 0 ≤ 1 from ⟨by omega, by omega⟩), trivial⟩
  · skip
    refine w_gK (congrArg Prod.fst (kl_126 im33)) ?_
    have ppNP_m33 : NP m33 := (NP_of p_NP (fun j => kk33.2.2 152 j (by omega) (fun z => z)))
    have ppWF_m33 : WF m33 := (WF_of p_WF (fun j => kk33.2.2 141 j (by omega) (fun z => z)) (fun j => kk33.2.2 142 j (by omega) (fun z => z)) (fun j => kk33.2.2 143 j (by omega) (fun z => z)) (fun j => kk33.2.2 144 j (by omega) (fun z => z)) (fun j => kk33.2.2 138 j (by omega) (fun z => z)))
    refine w_call (s_X9_isForm ⟨by omega, by omega⟩ ppF12_m33 ppNP_m33 ppWF_m33 im33) ?_
    intro v42 m42 pp42
    obtain ⟨im42, kk42, e42_0, -⟩ := pp42
    try dsimp only
    replace im42 : I n m42 := im42
    replace kk42 : Keep n W_X9_isForm m33 m42 := kk42
    have km42 : Keep n W_X9_against Me m42 := km33.tr kk42 (fun b j z => Or.elim z (fun z => (Or.inr (Or.inl ⟨by omega, by omega⟩))) (fun z => Or.elim z (fun z => (Or.inr (Or.inr (Or.inl z)))) (fun z => (Or.inr (Or.inr (Or.inr (Or.inr (Or.inl z))))))))
    replace e42_0 : 0 ≤ v42 ∧ v42 ≤ 1 := e42_0
    refine w_if (fun c3_ => ?_) (fun c3_ => ?_)
    · skip
      have ppF12_m42 : F12 m42 := (F12_of ppF12_m33 (fun j => kk42.2.2 153 j (by omega) (fun z => by unfold W_X9_isForm at z; (try unfold isWS at z); (try unfold isShape at z); (try unfold isTold at z); (try dsimp only at z); omega)) (fun j => kk42.2.2 134 j (by omega) (fun z => by unfold W_X9_isForm at z; (try unfold isWS at z); (try unfold isShape at z); (try unfold isTold at z); (try dsimp only at z); omega)))
      have ppNP_m42 : NP m42 := (NP_of ppNP_m33 (fun j => kk42.2.2 152 j (by omega) (fun z => by unfold W_X9_isForm at z; (try unfold isWS at z); (try unfold isShape at z); (try unfold isTold at z); (try dsimp only at z); omega)))
      have ppSF_m42 : SF m42 := (SF_of (SF_of p_SF (fun j => kk33.2.2 153 j (by omega) (fun z => z)) (fun j => kk33.2.2 134 j (by omega) (fun z => z)) (fun j => kk33.2.2 133 j (by omega) (fun z => z)) (fun j => kk33.2.2 135 j (by omega) (fun z => z)) (fun j => kk33.2.2 136 j (by omega) (fun z => z)) (fun j => kk33.2.2 152 j (by omega) (fun z => z))) (fun j => kk42.2.2 153 j (by omega) (fun z => by unfold W_X9_isForm at z; (try unfold isWS at z); (try unfold isShape at z); (try unfold isTold at z); (try dsimp only at z); omega)) (fun j => kk42.2.2 134 j (by omega) (fun z => by unfold W_X9_isForm at z; (try unfold isWS at z); (try unfold isShape at z); (try unfold isTold at z); (try dsimp only at z); omega)) (fun j => kk42.2.2 133 j (by omega) (fun z => by unfold W_X9_isForm at z; (try unfold isWS at z); (try unfold isShape at z); (try unfold isTold at z); (try dsimp only at z); omega)) (fun j => kk42.2.2 135 j (by omega) (fun z => by unfold W_X9_isForm at z; (try unfold isWS at z); (try unfold isShape at z); (try unfold isTold at z); (try dsimp only at z); omega)) (fun j => kk42.2.2 136 j (by omega) (fun z => by unfold W_X9_isForm at z; (try unfold isWS at z); (try unfold isShape at z); (try unfold isTold at z); (try dsimp only at z); omega)) (fun j => kk42.2.2 152 j (by omega) (fun z => by unfold W_X9_isForm at z; (try unfold isWS at z); (try unfold isShape at z); (try unfold isTold at z); (try dsimp only at z); omega)))
      have ppWF_m42 : WF m42 := (WF_of ppWF_m33 (fun j => kk42.2.2 141 j (by omega) (fun z => by unfold W_X9_isForm at z; (try unfold isWS at z); (try unfold isShape at z); (try unfold isTold at z); (try dsimp only at z); omega)) (fun j => kk42.2.2 142 j (by omega) (fun z => by unfold W_X9_isForm at z; (try unfold isWS at z); (try unfold isShape at z); (try unfold isTold at z); (try dsimp only at z); omega)) (fun j => kk42.2.2 143 j (by omega) (fun z => by unfold W_X9_isForm at z; (try unfold isWS at z); (try unfold isShape at z); (try unfold isTold at z); (try dsimp only at z); omega)) (fun j => kk42.2.2 144 j (by omega) (fun z => by unfold W_X9_isForm at z; (try unfold isWS at z); (try unfold isShape at z); (try unfold isTold at z); (try dsimp only at z); omega)) (fun j => kk42.2.2 138 j (by omega) (fun z => by unfold W_X9_isForm at z; (try unfold isWS at z); (try unfold isShape at z); (try unfold isTold at z); (try dsimp only at z); omega)))
      exact s_X9_against_64 hk30 ⟨by omega, by omega⟩ ppF12_m42 ppNP_m42 ppSF_m42 ppWF_m42 (by omega) im42 km42
    · skip
      refine w_gK (congrArg Prod.fst (kl_126 im42)) ?_
      have ppNP_m42 : NP m42 := (NP_of ppNP_m33 (fun j => kk42.2.2 152 j (by omega) (fun z => by unfold W_X9_isForm at z; (try unfold isWS at z); (try unfold isShape at z); (try unfold isTold at z); (try dsimp only at z); omega)))
      have ppWF_m42 : WF m42 := (WF_of ppWF_m33 (fun j => kk42.2.2 141 j (by omega) (fun z => by unfold W_X9_isForm at z; (try unfold isWS at z); (try unfold isShape at z); (try unfold isTold at z); (try dsimp only at z); omega)) (fun j => kk42.2.2 142 j (by omega) (fun z => by unfold W_X9_isForm at z; (try unfold isWS at z); (try unfold isShape at z); (try unfold isTold at z); (try dsimp only at z); omega)) (fun j => kk42.2.2 143 j (by omega) (fun z => by unfold W_X9_isForm at z; (try unfold isWS at z); (try unfold isShape at z); (try unfold isTold at z); (try dsimp only at z); omega)) (fun j => kk42.2.2 144 j (by omega) (fun z => by unfold W_X9_isForm at z; (try unfold isWS at z); (try unfold isShape at z); (try unfold isTold at z); (try dsimp only at z); omega)) (fun j => kk42.2.2 138 j (by omega) (fun z => by unfold W_X9_isForm at z; (try unfold isWS at z); (try unfold isShape at z); (try unfold isTold at z); (try dsimp only at z); omega)))
      refine w_call (s_X9_means ⟨by omega, by omega⟩ ppNP_m42 ppWF_m42 im42) ?_
      intro v51 m51 pp51
      obtain ⟨im51, kk51, e51_0, -⟩ := pp51
      try dsimp only
      replace im51 : I n m51 := im51
      replace kk51 : Keep n W_X9_means m42 m51 := kk51
      have km51 : Keep n W_X9_against Me m51 := km42.tr kk51 (fun b j z => Or.elim z (fun z => (Or.inr (Or.inr (Or.inl ⟨by omega, by omega⟩)))) (fun z => (Or.inr (Or.inr (Or.inr (Or.inr (Or.inl z)))))))
      replace e51_0 : 0 ≤ v51 ∧ v51 ≤ 1 := e51_0
      refine w_if (fun c4_ => ?_) (fun c4_ => ?_)
      · skip
        refine w_gK (congrArg Prod.fst (kl_126 im51)) ?_
        have ppNP_m51 : NP m51 := (NP_of ppNP_m42 (fun j => kk51.2.2 152 j (by omega) (fun z => by unfold W_X9_means at z; (try unfold isWS at z); (try unfold isShape at z); (try unfold isTold at z); (try dsimp only at z); omega)))
        refine w_call (s_X9_takeWorld ⟨by omega, by omega⟩ ppNP_m51 im51) ?_
        intro v59 m59 pp59
        obtain ⟨im59, kk59, -⟩ := pp59
        try dsimp only
        replace im59 : I n m59 := im59
        replace kk59 : Keep n W_X9_takeWorld m51 m59 := kk59
        have km59 : Keep n W_X9_against Me m59 := km51.tr kk59 (fun b j z => by unfold W_X9_takeWorld at z; exact (Or.inl z))
        exact w_ret ⟨im59, km59, (show 0 ≤ 1 ∧ 1 ≤ 1 from ⟨by omega, by omega⟩), trivial⟩
      · skip
        have ppF12_m51 : F12 m51 := (F12_of (F12_of ppF12_m33 (fun j => kk42.2.2 153 j (by omega) (fun z => by unfold W_X9_isForm at z; (try unfold isWS at z); (try unfold isShape at z); (try unfold isTold at z); (try dsimp only at z); omega)) (fun j => kk42.2.2 134 j (by omega) (fun z => by unfold W_X9_isForm at z; (try unfold isWS at z); (try unfold isShape at z); (try unfold isTold at z); (try dsimp only at z); omega))) (fun j => kk51.2.2 153 j (by omega) (fun z => by unfold W_X9_means at z; (try unfold isWS at z); (try unfold isShape at z); (try unfold isTold at z); (try dsimp only at z); omega)) (fun j => kk51.2.2 134 j (by omega) (fun z => by unfold W_X9_means at z; (try unfold isWS at z); (try unfold isShape at z); (try unfold isTold at z); (try dsimp only at z); omega)))
        have ppNP_m51 : NP m51 := (NP_of ppNP_m42 (fun j => kk51.2.2 152 j (by omega) (fun z => by unfold W_X9_means at z; (try unfold isWS at z); (try unfold isShape at z); (try unfold isTold at z); (try dsimp only at z); omega)))
        have ppSF_m51 : SF m51 := (SF_of (SF_of (SF_of p_SF (fun j => kk33.2.2 153 j (by omega) (fun z => z)) (fun j => kk33.2.2 134 j (by omega) (fun z => z)) (fun j => kk33.2.2 133 j (by omega) (fun z => z)) (fun j => kk33.2.2 135 j (by omega) (fun z => z)) (fun j => kk33.2.2 136 j (by omega) (fun z => z)) (fun j => kk33.2.2 152 j (by omega) (fun z => z))) (fun j => kk42.2.2 153 j (by omega) (fun z => by unfold W_X9_isForm at z; (try unfold isWS at z); (try unfold isShape at z); (try unfold isTold at z); (try dsimp only at z); omega)) (fun j => kk42.2.2 134 j (by omega) (fun z => by unfold W_X9_isForm at z; (try unfold isWS at z); (try unfold isShape at z); (try unfold isTold at z); (try dsimp only at z); omega)) (fun j => kk42.2.2 133 j (by omega) (fun z => by unfold W_X9_isForm at z; (try unfold isWS at z); (try unfold isShape at z); (try unfold isTold at z); (try dsimp only at z); omega)) (fun j => kk42.2.2 135 j (by omega) (fun z => by unfold W_X9_isForm at z; (try unfold isWS at z); (try unfold isShape at z); (try unfold isTold at z); (try dsimp only at z); omega)) (fun j => kk42.2.2 136 j (by omega) (fun z => by unfold W_X9_isForm at z; (try unfold isWS at z); (try unfold isShape at z); (try unfold isTold at z); (try dsimp only at z); omega)) (fun j => kk42.2.2 152 j (by omega) (fun z => by unfold W_X9_isForm at z; (try unfold isWS at z); (try unfold isShape at z); (try unfold isTold at z); (try dsimp only at z); omega))) (fun j => kk51.2.2 153 j (by omega) (fun z => by unfold W_X9_means at z; (try unfold isWS at z); (try unfold isShape at z); (try unfold isTold at z); (try dsimp only at z); omega)) (fun j => kk51.2.2 134 j (by omega) (fun z => by unfold W_X9_means at z; (try unfold isWS at z); (try unfold isShape at z); (try unfold isTold at z); (try dsimp only at z); omega)) (fun j => kk51.2.2 133 j (by omega) (fun z => by unfold W_X9_means at z; (try unfold isWS at z); (try unfold isShape at z); (try unfold isTold at z); (try dsimp only at z); omega)) (fun j => kk51.2.2 135 j (by omega) (fun z => by unfold W_X9_means at z; (try unfold isWS at z); (try unfold isShape at z); (try unfold isTold at z); (try dsimp only at z); omega)) (fun j => kk51.2.2 136 j (by omega) (fun z => by unfold W_X9_means at z; (try unfold isWS at z); (try unfold isShape at z); (try unfold isTold at z); (try dsimp only at z); omega)) (fun j => kk51.2.2 152 j (by omega) (fun z => by unfold W_X9_means at z; (try unfold isWS at z); (try unfold isShape at z); (try unfold isTold at z); (try dsimp only at z); omega)))
        have ppWF_m51 : WF m51 := (WF_of ppWF_m42 (fun j => kk51.2.2 141 j (by omega) (fun z => by unfold W_X9_means at z; (try unfold isWS at z); (try unfold isShape at z); (try unfold isTold at z); (try dsimp only at z); omega)) (fun j => kk51.2.2 142 j (by omega) (fun z => by unfold W_X9_means at z; (try unfold isWS at z); (try unfold isShape at z); (try unfold isTold at z); (try dsimp only at z); omega)) (fun j => kk51.2.2 143 j (by omega) (fun z => by unfold W_X9_means at z; (try unfold isWS at z); (try unfold isShape at z); (try unfold isTold at z); (try dsimp only at z); omega)) (fun j => kk51.2.2 144 j (by omega) (fun z => by unfold W_X9_means at z; (try unfold isWS at z); (try unfold isShape at z); (try unfold isTold at z); (try dsimp only at z); omega)) (fun j => kk51.2.2 138 j (by omega) (fun z => by unfold W_X9_means at z; (try unfold isWS at z); (try unfold isShape at z); (try unfold isTold at z); (try dsimp only at z); omega)))
        exact s_X9_against_64 hk30 ⟨by omega, by omega⟩ ppF12_m51 ppNP_m51 ppSF_m51 ppWF_m51 (by omega) im51 km51
theorem s_X9_against_30 {n : Nat} {Me : Mem} : ∀ (fu : Nat) (l1 : Int) (M : Mem), (0 ≤ l1 ∧ l1 ≤ 4096) → (F12 M) → (NP M) → (SF M) → (WF M) → 4097 - l1 < (fu : Int) → I n M → Keep n W_X9_against Me M → wp (mX9_against_30 fu 126 l1 M) (fun q => I n q.2 ∧ Keep n W_X9_against Me q.2 ∧ (0 ≤ q.1 ∧ q.1 ≤ 1) ∧ True) := by
  intro fu
  induction fu with
  | zero =>
    intro l1 M r_l1 p_F12 p_NP p_SF p_WF hf iM kM
    exfalso
    omega
  | succ fu ih =>
    intro l1 M r_l1 p_F12 p_NP p_SF p_WF hf iM kM
    exact sb_X9_against_30 ih r_l1 p_F12 p_NP p_SF p_WF (by have e : ((fu + 1 : Nat) : Int) = (fu : Int) + 1 := rfl; rw [e] at hf; exact hf) iM kM
theorem s_X9_against {n : Nat} {M : Mem} (p_WF : WF M) (iM : I n M) : wp (mX9_against 126 M) (fun q => I n q.2 ∧ Keep n W_X9_against M q.2 ∧ (0 ≤ q.1 ∧ q.1 ≤ 1) ∧ True) := by
  have hn : (169 : Int) ≤ (n : Int) := by have := iM.2.2.2.2.1; omega
  have kM : Keep n W_X9_against M M := Keep.rf
  unfold mX9_against
  refine w_pF (ji := 0) rfl (congrArg Prod.fst (kl_126 iM)) (fun M2 hM2 => ?_)
  replace hM2 : M2 = mS M 126 0 0 := hM2
  have iM2 : I n M2 := wr_Model_0 iM rfl ⟨by omega, by omega⟩ hM2
  have kM2 : Keep n W_X9_against M M2 := kM.st hM2 (Or.inl (Or.inr (Or.inr (Or.inr (Or.inl ⟨rfl, rfl⟩)))))
  refine w_gFc (ji := 15) rfl (congrArg Prod.fst (kl_126 iM2)) (show mG M2 126 15 = 141 from rd_Model_15 iM2 (a := 126) rfl) ?_
  refine w_aG (kl_141 iM2) (by decide) (by decide) (fun a11 ha11 => ?_)
  have ra11 : 0 ≤ a11 ∧ a11 ≤ 40 := ha11.tr (P := fun z => 0 ≤ z ∧ z ≤ 40) (rd_Mparts iM2 rfl)
  refine w_if (fun c1_ => ?_) (fun c1_ => ?_)
  · skip
    exact w_ret ⟨iM2, kM2, (show 0 ≤ 0 ∧ 0 ≤ 1 from ⟨by omega, by omega⟩), trivial⟩
  · skip
    refine w_gK (congrArg Prod.fst (kl_126 iM2)) ?_
    refine w_call (s_X9_canTell iM2) ?_
    intro v16 m16 pp16
    obtain ⟨im16, kk16, e16_0, e16_1, e16_2, e16_3, -⟩ := pp16
    try dsimp only
    replace im16 : I n m16 := im16
    replace kk16 : Keep n W_X9_canTell M2 m16 := kk16
    have km16 : Keep n W_X9_against M m16 := kM2.tr kk16 (fun b j z => by unfold W_X9_canTell at z; exact (Or.inr (Or.inl ⟨by omega, by omega⟩)))
    replace e16_0 : 0 ≤ v16 ∧ v16 ≤ 1 := e16_0
    replace e16_1 : NP m16 := e16_1
    have gNP_m16 := e16_1
    replace e16_2 : SF m16 := e16_2
    have gSF_m16 := e16_2
    replace e16_3 : v16 = 1 → F12 m16 := e16_3
    have ev16 := e16_3
    refine w_if (fun c2_ => ?_) (fun c2_ => ?_)
    · skip
      exact w_ret ⟨im16, km16, (show 0 ≤ 0 ∧ 0 ≤ 1 from ⟨by omega, by omega⟩), trivial⟩
    · skip
      have pF12_c2__m16 : F12 m16 := ev16 (by omega)
      refine w_gK (congrArg Prod.fst (kl_126 im16)) ?_
      refine w_call (s_X9_prepare pF12_c2__m16 gNP_m16 im16) ?_
      intro v25 m25 pp25
      obtain ⟨im25, kk25, -⟩ := pp25
      try dsimp only
      replace im25 : I n m25 := im25
      replace kk25 : Keep n W_X9_prepare m16 m25 := kk25
      have km25 : Keep n W_X9_against M m25 := km16.tr kk25 (fun b j z => Or.elim z (fun z => (Or.inr (Or.inr (Or.inr (Or.inr (Or.inr (Or.inl z))))))) (fun z => Or.elim z (fun z => (Or.inr (Or.inr (Or.inr (Or.inr (Or.inr (Or.inr (Or.inl z)))))))) (fun z => (Or.inr (Or.inr (Or.inr (Or.inr (Or.inr (Or.inr (Or.inr z))))))))))
      have ppF12_m25 : F12 m25 := (F12_of pF12_c2__m16 (fun j => kk25.2.2 153 j (by omega) (fun z => by unfold W_X9_prepare at z; (try unfold isWS at z); (try unfold isShape at z); (try unfold isTold at z); (try dsimp only at z); omega)) (fun j => kk25.2.2 134 j (by omega) (fun z => by unfold W_X9_prepare at z; (try unfold isWS at z); (try unfold isShape at z); (try unfold isTold at z); (try dsimp only at z); omega)))
      have ppNP_m25 : NP m25 := (NP_of gNP_m16 (fun j => kk25.2.2 152 j (by omega) (fun z => by unfold W_X9_prepare at z; (try unfold isWS at z); (try unfold isShape at z); (try unfold isTold at z); (try dsimp only at z); omega)))
      have ppSF_m25 : SF m25 := (SF_of gSF_m16 (fun j => kk25.2.2 153 j (by omega) (fun z => by unfold W_X9_prepare at z; (try unfold isWS at z); (try unfold isShape at z); (try unfold isTold at z); (try dsimp only at z); omega)) (fun j => kk25.2.2 134 j (by omega) (fun z => by unfold W_X9_prepare at z; (try unfold isWS at z); (try unfold isShape at z); (try unfold isTold at z); (try dsimp only at z); omega)) (fun j => kk25.2.2 133 j (by omega) (fun z => by unfold W_X9_prepare at z; (try unfold isWS at z); (try unfold isShape at z); (try unfold isTold at z); (try dsimp only at z); omega)) (fun j => kk25.2.2 135 j (by omega) (fun z => by unfold W_X9_prepare at z; (try unfold isWS at z); (try unfold isShape at z); (try unfold isTold at z); (try dsimp only at z); omega)) (fun j => kk25.2.2 136 j (by omega) (fun z => by unfold W_X9_prepare at z; (try unfold isWS at z); (try unfold isShape at z); (try unfold isTold at z); (try dsimp only at z); omega)) (fun j => kk25.2.2 152 j (by omega) (fun z => by unfold W_X9_prepare at z; (try unfold isWS at z); (try unfold isShape at z); (try unfold isTold at z); (try dsimp only at z); omega)))
      have ppWF_m25 : WF m25 := (WF_of (WF_of (WF_of p_WF (fun j => st_ne hM2 (fun z => ne_fam rfl rfl (by decide) z.1)) (fun j => st_ne hM2 (fun z => ne_fam rfl rfl (by decide) z.1)) (fun j => st_ne hM2 (fun z => ne_fam rfl rfl (by decide) z.1)) (fun j => st_ne hM2 (fun z => ne_fam rfl rfl (by decide) z.1)) (fun j => st_ne hM2 (fun z => ne_fam rfl rfl (by decide) z.1))) (fun j => kk16.2.2 141 j (by omega) (fun z => by unfold W_X9_canTell at z; (try unfold isWS at z); (try unfold isShape at z); (try unfold isTold at z); (try dsimp only at z); omega)) (fun j => kk16.2.2 142 j (by omega) (fun z => by unfold W_X9_canTell at z; (try unfold isWS at z); (try unfold isShape at z); (try unfold isTold at z); (try dsimp only at z); omega)) (fun j => kk16.2.2 143 j (by omega) (fun z => by unfold W_X9_canTell at z; (try unfold isWS at z); (try unfold isShape at z); (try unfold isTold at z); (try dsimp only at z); omega)) (fun j => kk16.2.2 144 j (by omega) (fun z => by unfold W_X9_canTell at z; (try unfold isWS at z); (try unfold isShape at z); (try unfold isTold at z); (try dsimp only at z); omega)) (fun j => kk16.2.2 138 j (by omega) (fun z => by unfold W_X9_canTell at z; (try unfold isWS at z); (try unfold isShape at z); (try unfold isTold at z); (try dsimp only at z); omega))) (fun j => kk25.2.2 141 j (by omega) (fun z => by unfold W_X9_prepare at z; (try unfold isWS at z); (try unfold isShape at z); (try unfold isTold at z); (try dsimp only at z); omega)) (fun j => kk25.2.2 142 j (by omega) (fun z => by unfold W_X9_prepare at z; (try unfold isWS at z); (try unfold isShape at z); (try unfold isTold at z); (try dsimp only at z); omega)) (fun j => kk25.2.2 143 j (by omega) (fun z => by unfold W_X9_prepare at z; (try unfold isWS at z); (try unfold isShape at z); (try unfold isTold at z); (try dsimp only at z); omega)) (fun j => kk25.2.2 144 j (by omega) (fun z => by unfold W_X9_prepare at z; (try unfold isWS at z); (try unfold isShape at z); (try unfold isTold at z); (try dsimp only at z); omega)) (fun j => kk25.2.2 138 j (by omega) (fun z => by unfold W_X9_prepare at z; (try unfold isWS at z); (try unfold isShape at z); (try unfold isTold at z); (try dsimp only at z); omega)))
      exact s_X9_against_30 FU _ _ ⟨by omega, by omega⟩ ppF12_m25 ppNP_m25 ppSF_m25 ppWF_m25 (by show _ < (70000 : Int); omega) im25 km25
def W_X9_many (b j : Int) : Prop := (b = 126 ∧ j = 0)
theorem s_X9_many_131 {n : Nat} {Me : Mem} {k110 : Int → Int → Int → Mem → Option (Int × Mem)} {fu110 : Nat} (hk110 : ∀ (l2 l3 : Int) (M : Mem), ((-2147483648) ≤ l2 ∧ l2 ≤ 2147483647) → (0 ≤ l3 ∧ l3 ≤ 36) → 37 - l3 < (fu110 : Int) → I n M → Keep n W_X9_many Me M → wp (k110 126 l2 l3 M) (fun q => I n q.2 ∧ Keep n W_X9_many Me q.2 ∧ ((-2147483648) ≤ q.1 ∧ q.1 ≤ 2147483647) ∧ True)) {l3 s0 s1 : Int} {M : Mem} (r_l3 : 0 ≤ l3 ∧ l3 ≤ 35) (r_s0 : (-2147483648) ≤ s0 ∧ s0 ≤ 2147483647) (r_s1 : 0 ≤ s1 ∧ s1 ≤ 1) (hf110 : 37 - l3 < (fu110 : Int) + 1) (iM : I n M) (kM : Keep n W_X9_many Me M) : wp (mX9_many_131 k110 126 l3 s0 s1 M) (fun q => I n q.2 ∧ Keep n W_X9_many Me q.2 ∧ ((-2147483648) ≤ q.1 ∧ q.1 ≤ 2147483647) ∧ True) := by
  have hn : (169 : Int) ≤ (n : Int) := by have := iM.2.2.2.2.1; omega
  unfold mX9_many_131
  have w1_ := And.intro (wI_lo (s0 + s1)) (wI_hi (s0 + s1))
  have w2_ := wI_id (x := (l3 + 1)) (by omega) (by omega)
  exact hk110 _ _ _ ⟨by omega, by omega⟩ ⟨by omega, by omega⟩ (by omega) iM kM
theorem sb_X9_many_110 {n : Nat} {Me : Mem} {k110 : Int → Int → Int → Mem → Option (Int × Mem)} {fu110 : Nat} (hk110 : ∀ (l2 l3 : Int) (M : Mem), ((-2147483648) ≤ l2 ∧ l2 ≤ 2147483647) → (0 ≤ l3 ∧ l3 ≤ 36) → 37 - l3 < (fu110 : Int) → I n M → Keep n W_X9_many Me M → wp (k110 126 l2 l3 M) (fun q => I n q.2 ∧ Keep n W_X9_many Me q.2 ∧ ((-2147483648) ≤ q.1 ∧ q.1 ≤ 2147483647) ∧ True)) {l2 l3 : Int} {M : Mem} (r_l2 : (-2147483648) ≤ l2 ∧ l2 ≤ 2147483647) (r_l3 : 0 ≤ l3 ∧ l3 ≤ 36) (hf110 : 37 - l3 < (fu110 : Int) + 1) (iM : I n M) (kM : Keep n W_X9_many Me M) : wp (bX9_many_110 k110 126 l2 l3 M) (fun q => I n q.2 ∧ Keep n W_X9_many Me q.2 ∧ ((-2147483648) ≤ q.1 ∧ q.1 ≤ 2147483647) ∧ True) := by
  have hn : (169 : Int) ≤ (n : Int) := by have := iM.2.2.2.2.1; omega
  unfold bX9_many_110
  refine w_if (fun c1_ => ?_) (fun c1_ => ?_)
  · skip
    exact w_ret ⟨iM, kM, (show (-2147483648) ≤ l2 ∧ l2 ≤ 2147483647 from ⟨by omega, by omega⟩), trivial⟩
  · skip
    refine w_gFc (ji := 11) rfl (congrArg Prod.fst (kl_126 iM)) (show mG M 126 11 = 137 from rd_Model_11 iM (a := 126) rfl) ?_
    refine w_aG (kl_137 iM) (by omega) (by omega) (fun a122 ha122 => ?_)
    have ra122 : 0 ≤ a122 ∧ a122 ≤ 1 := ha122.tr (P := fun z => 0 ≤ z ∧ z ≤ 1) (rd_Mworld iM rfl)
    refine w_if (fun c2_ => ?_) (fun c2_ => ?_)
    · skip
      exact s_X9_many_131 hk110 ⟨by omega, by omega⟩ ⟨by omega, by omega⟩ ⟨by omega, by omega⟩ (by omega) iM kM
    · skip
      exact s_X9_many_131 hk110 ⟨by omega, by omega⟩ ⟨by omega, by omega⟩ ⟨by omega, by omega⟩ (by omega) iM kM
theorem s_X9_many_110 {n : Nat} {Me : Mem} : ∀ (fu : Nat) (l2 l3 : Int) (M : Mem), ((-2147483648) ≤ l2 ∧ l2 ≤ 2147483647) → (0 ≤ l3 ∧ l3 ≤ 36) → 37 - l3 < (fu : Int) → I n M → Keep n W_X9_many Me M → wp (mX9_many_110 fu 126 l2 l3 M) (fun q => I n q.2 ∧ Keep n W_X9_many Me q.2 ∧ ((-2147483648) ≤ q.1 ∧ q.1 ≤ 2147483647) ∧ True) := by
  intro fu
  induction fu with
  | zero =>
    intro l2 l3 M r_l2 r_l3 hf iM kM
    exfalso
    omega
  | succ fu ih =>
    intro l2 l3 M r_l2 r_l3 hf iM kM
    exact sb_X9_many_110 ih r_l2 r_l3 (by have e : ((fu + 1 : Nat) : Int) = (fu : Int) + 1 := rfl; rw [e] at hf; exact hf) iM kM
theorem s_X9_many {n : Nat} {l1 : Int} {M : Mem} (r_l1 : (-2147483648) ≤ l1 ∧ l1 ≤ 2147483647) (iM : I n M) : wp (mX9_many 126 l1 M) (fun q => I n q.2 ∧ Keep n W_X9_many M q.2 ∧ ((-2147483648) ≤ q.1 ∧ q.1 ≤ 2147483647) ∧ True) := by
  have hn : (169 : Int) ≤ (n : Int) := by have := iM.2.2.2.2.1; omega
  have kM : Keep n W_X9_many M M := Keep.rf
  unfold mX9_many
  refine w_pF (ji := 0) rfl (congrArg Prod.fst (kl_126 iM)) (fun M2 hM2 => ?_)
  replace hM2 : M2 = mS M 126 0 0 := hM2
  have iM2 : I n M2 := wr_Model_0 iM rfl ⟨by omega, by omega⟩ hM2
  have kM2 : Keep n W_X9_many M M2 := kM.st hM2 (Or.inl ⟨rfl, rfl⟩)
  refine w_if (fun c1_ => ?_) (fun c1_ => ?_)
  · skip
    refine w_gFc (ji := 7) rfl (congrArg Prod.fst (kl_126 iM2)) (show mG M2 126 7 = 133 from rd_Model_7 iM2 (a := 126) rfl) ?_
    refine w_aG (kl_133 iM2) (by omega) (by omega) (fun a73 ha73 => ?_)
    have ra73 : 0 ≤ a73 ∧ a73 ≤ 3 ∧ (0 ≤ l1 → l1 < 3 → 1 ≤ a73) := ha73.tr (P := fun z => 0 ≤ z ∧ z ≤ 3 ∧ (0 ≤ l1 → l1 < 3 → 1 ≤ z)) (rd_Msizes iM2 rfl)
    exact w_ret ⟨iM2, kM2, (show (-2147483648) ≤ a73 ∧ a73 ≤ 2147483647 from ⟨by omega, by omega⟩), trivial⟩
  · skip
    refine w_if (fun c2_ => ?_) (fun c2_ => ?_)
    · skip
      refine w_gFc (ji := 7) rfl (congrArg Prod.fst (kl_126 iM2)) (show mG M2 126 7 = 133 from rd_Model_7 iM2 (a := 126) rfl) ?_
      refine w_aG (kl_133 iM2) (by omega) (by omega) (fun a73 ha73 => ?_)
      have ra73 : 0 ≤ a73 ∧ a73 ≤ 3 ∧ (0 ≤ l1 → l1 < 3 → 1 ≤ a73) := ha73.tr (P := fun z => 0 ≤ z ∧ z ≤ 3 ∧ (0 ≤ l1 → l1 < 3 → 1 ≤ z)) (rd_Msizes iM2 rfl)
      exact w_ret ⟨iM2, kM2, (show (-2147483648) ≤ a73 ∧ a73 ≤ 2147483647 from ⟨by omega, by omega⟩), trivial⟩
    · skip
      refine w_if (fun c3_ => ?_) (fun c3_ => ?_)
      · skip
        refine w_gFc (ji := 7) rfl (congrArg Prod.fst (kl_126 iM2)) (show mG M2 126 7 = 133 from rd_Model_7 iM2 (a := 126) rfl) ?_
        refine w_aG (kl_133 iM2) (by omega) (by omega) (fun a73 ha73 => ?_)
        have ra73 : 0 ≤ a73 ∧ a73 ≤ 3 ∧ (0 ≤ l1 → l1 < 3 → 1 ≤ a73) := ha73.tr (P := fun z => 0 ≤ z ∧ z ≤ 3 ∧ (0 ≤ l1 → l1 < 3 → 1 ≤ z)) (rd_Msizes iM2 rfl)
        exact w_ret ⟨iM2, kM2, (show (-2147483648) ≤ a73 ∧ a73 ≤ 2147483647 from ⟨by omega, by omega⟩), trivial⟩
      · skip
        refine w_if (fun c4_ => ?_) (fun c4_ => ?_)
        · skip
          refine w_gFc (ji := 8) rfl (congrArg Prod.fst (kl_126 iM2)) (show mG M2 126 8 = 134 from rd_Model_8 iM2 (a := 126) rfl) ?_
          refine w_aG (kl_134 iM2) (by decide) (by decide) (fun a80 ha80 => ?_)
          have ra80 : 0 ≤ a80 ∧ a80 ≤ 4 := ha80.tr (P := fun z => 0 ≤ z ∧ z ≤ 4) (rd_Mrelations iM2 rfl)
          exact w_ret ⟨iM2, kM2, (show (-2147483648) ≤ a80 ∧ a80 ≤ 2147483647 from ⟨by omega, by omega⟩), trivial⟩
        · skip
          refine w_if (fun c5_ => ?_) (fun c5_ => ?_)
          · skip
            refine w_gFc (ji := 12) rfl (congrArg Prod.fst (kl_126 iM2)) (show mG M2 126 12 = 138 from rd_Model_12 iM2 (a := 126) rfl) ?_
            refine w_aG (kl_138 iM2) (by decide) (by decide) (fun a87 ha87 => ?_)
            have ra87 : 0 ≤ a87 ∧ a87 ≤ 8 := ha87.tr (P := fun z => 0 ≤ z ∧ z ≤ 8) (rd_Mstories iM2 rfl)
            exact w_ret ⟨iM2, kM2, (show (-2147483648) ≤ a87 ∧ a87 ≤ 2147483647 from ⟨by omega, by omega⟩), trivial⟩
          · skip
            refine w_if (fun c6_ => ?_) (fun c6_ => ?_)
            · skip
              refine w_gFc (ji := 5) rfl (congrArg Prod.fst (kl_126 iM2)) (show mG M2 126 5 = 131 from rd_Model_5 iM2 (a := 126) rfl) ?_
              refine w_aG (kl_131 iM2) (by decide) (by decide) (fun a94 ha94 => ?_)
              have ra94 : 0 ≤ a94 ∧ a94 ≤ 999 := ha94.tr (P := fun z => 0 ≤ z ∧ z ≤ 999) (rd_Mdays iM2 rfl)
              exact w_ret ⟨iM2, kM2, (show (-2147483648) ≤ a94 ∧ a94 ≤ 2147483647 from ⟨by omega, by omega⟩), trivial⟩
            · skip
              refine w_if (fun c7_ => ?_) (fun c7_ => ?_)
              · skip
                refine w_gFc (ji := 6) rfl (congrArg Prod.fst (kl_126 iM2)) (show mG M2 126 6 = 132 from rd_Model_6 iM2 (a := 126) rfl) ?_
                refine w_aG (kl_132 iM2) (by decide) (by decide) (fun a101 ha101 => ?_)
                have ra101 : (-1) ≤ a101 ∧ a101 ≤ 999 := ha101.tr (P := fun z => (-1) ≤ z ∧ z ≤ 999) (rd_Mviewed iM2 rfl)
                exact w_ret ⟨iM2, kM2, (show (-2147483648) ≤ a101 ∧ a101 ≤ 2147483647 from ⟨by omega, by omega⟩), trivial⟩
              · skip
                refine w_if (fun c8_ => ?_) (fun c8_ => ?_)
                · skip
                  refine w_gK (congrArg Prod.fst (kl_126 iM2)) ?_
                  refine w_call (s_X9_told iM2) ?_
                  intro v104 m104 pp104
                  obtain ⟨im104, kk104, e104_0, -⟩ := pp104
                  try dsimp only
                  replace im104 : I n m104 := im104
                  replace kk104 : Keep n W_X9_told M2 m104 := kk104
                  have km104 : Keep n W_X9_many M m104 := kM2.tr kk104 (fun b j z => z.elim)
                  replace e104_0 : 0 ≤ v104 ∧ v104 ≤ 4095 := e104_0
                  exact w_ret ⟨im104, km104, (show (-2147483648) ≤ v104 ∧ v104 ≤ 2147483647 from ⟨by omega, by omega⟩), trivial⟩
                · skip
                  refine w_if (fun c9_ => ?_) (fun c9_ => ?_)
                  · skip
                    exact s_X9_many_110 FU _ _ _ ⟨by omega, by omega⟩ ⟨by omega, by omega⟩ (by show _ < (70000 : Int); omega) iM2 kM2
                  · skip
                    refine w_if (fun c10_ => ?_) (fun c10_ => ?_)
                    · skip
                      refine w_gFc (ji := 15) rfl (congrArg Prod.fst (kl_126 iM2)) (show mG M2 126 15 = 141 from rd_Model_15 iM2 (a := 126) rfl) ?_
                      refine w_aG (kl_141 iM2) (by decide) (by decide) (fun a147 ha147 => ?_)
                      have ra147 : 0 ≤ a147 ∧ a147 ≤ 40 := ha147.tr (P := fun z => 0 ≤ z ∧ z ≤ 40) (rd_Mparts iM2 rfl)
                      exact w_ret ⟨iM2, kM2, (show (-2147483648) ≤ a147 ∧ a147 ≤ 2147483647 from ⟨by omega, by omega⟩), trivial⟩
                    · skip
                      refine w_if (fun c11_ => ?_) (fun c11_ => ?_)
                      · skip
                        refine w_gFc (ji := 20) rfl (congrArg Prod.fst (kl_126 iM2)) (show mG M2 126 20 = 146 from rd_Model_20 iM2 (a := 126) rfl) ?_
                        refine w_aG (kl_146 iM2) (by decide) (by decide) (fun a154 ha154 => ?_)
                        have ra154 : 0 ≤ a154 ∧ a154 ≤ 40 := ha154.tr (P := fun z => 0 ≤ z ∧ z ≤ 40) (rd_Mknowns iM2 rfl)
                        exact w_ret ⟨iM2, kM2, (show (-2147483648) ≤ a154 ∧ a154 ≤ 2147483647 from ⟨by omega, by omega⟩), trivial⟩
                      · skip
                        exact w_ret ⟨iM2, kM2, (show (-2147483648) ≤ (-2) ∧ (-2) ≤ 2147483647 from ⟨by omega, by omega⟩), trivial⟩
def W_X9_image (b j : Int) : Prop := (127 ≤ b ∧ b ≤ 151) ∨ b = 169 ∨ (b = 126 ∧ j = 0)
def W_X9_again (b j : Int) : Prop := (127 ≤ b ∧ b ≤ 151) ∨ (b = 126 ∧ j = 0)
