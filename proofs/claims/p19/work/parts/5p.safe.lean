def W_X9_readText (b j : Int) : Prop := (128 ≤ b ∧ b ≤ 130) ∨ (155 ≤ b ∧ b ≤ 159) ∨ (b = 126 ∧ j = 29) ∨ (b = 126 ∧ j = 30) ∨ (b = 126 ∧ j = 31) ∨ (b = 126 ∧ j = 32) ∨ (b = 126 ∧ j = 33) ∨ (b = 126 ∧ j = 34) ∨ (b = 126 ∧ j = 35) ∨ (b = 126 ∧ j = 36) ∨ (b = 126 ∧ j = 37) ∨ (b = 126 ∧ j = 38) ∨ (b = 126 ∧ j = 40)
theorem s_X9_readText_182 {n : Nat} {Me : Mem} {s1 s2 : Int} {M : Mem} (r_s1 : 0 ≤ s1 ∧ s1 ≤ 0) (r_s2 : (-1) ≤ s2 ∧ s2 ≤ 400) (iM : I n M) (kM : Keep n W_X9_readText Me M) : wp (mX9_readText_182 126 130 s1 s2 M) (fun q => I n q.2 ∧ Keep n W_X9_readText Me q.2 ∧ (0 ≤ q.1 ∧ q.1 ≤ 1) ∧ True) := by
  have hn : (169 : Int) ≤ (n : Int) := by have := iM.2.2.2.2.1; omega
  unfold mX9_readText_182
  refine w_aS (kl_130 iM) (by omega) (by omega) (fun M182 hM182 => ?_)
  replace hM182 : M182 = mS M 130 s1 s2 := hM182
  have iM182 : I n M182 := wr_MfaultPlace iM rfl ⟨by omega, by omega⟩ hM182
  have kM182 : Keep n W_X9_readText Me M182 := kM.st hM182 (Or.inl (Or.inl ⟨by decide, by decide⟩))
  refine w_gFc (ji := 3) rfl (congrArg Prod.fst (kl_126 iM182)) (show mG M182 126 3 = 129 from rd_Model_3 iM182 (a := 126) rfl) ?_
  refine w_aG (kl_129 iM182) (by decide) (by decide) (fun a188 ha188 => ?_)
  have ra188 : 0 ≤ a188 ∧ a188 ≤ 5 := ha188.tr (P := fun z => 0 ≤ z ∧ z ≤ 5) (rd_Mfault iM182 rfl)
  refine w_if (fun c1_ => ?_) (fun c1_ => ?_)
  · skip
    exact w_ret ⟨iM182, kM182, (show 0 ≤ 1 ∧ 1 ≤ 1 from ⟨by omega, by omega⟩), trivial⟩
  · skip
    exact w_ret ⟨iM182, kM182, (show 0 ≤ 0 ∧ 0 ≤ 1 from ⟨by omega, by omega⟩), trivial⟩
theorem s_X9_readText_150 {n : Nat} {Me : Mem} {l1 s1 s2 : Int} {M : Mem} (r_l1 : 0 ≤ l1 ∧ l1 ≤ 1) (r_s1 : 0 ≤ s1 ∧ s1 ≤ 0) (r_s2 : 0 ≤ s2 ∧ s2 ≤ 5) (iM : I n M) (kM : Keep n W_X9_readText Me M) : wp (mX9_readText_150 126 l1 129 s1 s2 M) (fun q => I n q.2 ∧ Keep n W_X9_readText Me q.2 ∧ (0 ≤ q.1 ∧ q.1 ≤ 1) ∧ True) := by
  have hn : (169 : Int) ≤ (n : Int) := by have := iM.2.2.2.2.1; omega
  unfold mX9_readText_150
  refine w_aS (kl_129 iM) (by omega) (by omega) (fun M150 hM150 => ?_)
  replace hM150 : M150 = mS M 129 s1 s2 := hM150
  have iM150 : I n M150 := wr_Mfault iM rfl ⟨by omega, by omega⟩ hM150
  have kM150 : Keep n W_X9_readText Me M150 := kM.st hM150 (Or.inl (Or.inl ⟨by decide, by decide⟩))
  refine w_gFc (ji := 4) rfl (congrArg Prod.fst (kl_126 iM150)) (show mG M150 126 4 = 130 from rd_Model_4 iM150 (a := 126) rfl) ?_
  refine w_if (fun c1_ => ?_) (fun c1_ => ?_)
  · skip
    refine w_gF (ji := 35) rfl (congrArg Prod.fst (kl_126 iM150)) (fun a161 ha161 => ?_)
    have ra161 : (-1) ≤ a161 ∧ a161 ≤ 400 := ha161.tr (P := fun z => (-1) ≤ z ∧ z ≤ 400) (rd_Model_35 iM150 rfl)
    exact s_X9_readText_182 ⟨by omega, by omega⟩ ⟨by omega, by omega⟩ iM150 kM150
  · skip
    refine w_gF (ji := 36) rfl (congrArg Prod.fst (kl_126 iM150)) (fun a168 ha168 => ?_)
    have ra168 : 0 ≤ a168 ∧ a168 ≤ 5 := ha168.tr (P := fun z => 0 ≤ z ∧ z ≤ 5) (rd_Model_36 iM150 rfl)
    refine w_if (fun c2_ => ?_) (fun c2_ => ?_)
    · skip
      exact s_X9_readText_182 ⟨by omega, by omega⟩ ⟨by omega, by omega⟩ iM150 kM150
    · skip
      refine w_gF (ji := 37) rfl (congrArg Prod.fst (kl_126 iM150)) (fun a175 ha175 => ?_)
      have ra175 : 0 ≤ a175 ∧ a175 ≤ 400 := ha175.tr (P := fun z => 0 ≤ z ∧ z ≤ 400) (rd_Model_37 iM150 rfl)
      exact s_X9_readText_182 ⟨by omega, by omega⟩ ⟨by omega, by omega⟩ iM150 kM150
theorem s_X9_readText_133 {n : Nat} {Me : Mem} {l1 : Int} {M : Mem} (r_l1 : 0 ≤ l1 ∧ l1 ≤ 1) (iM : I n M) (kM : Keep n W_X9_readText Me M) : wp (mX9_readText_133 126 l1 M) (fun q => I n q.2 ∧ Keep n W_X9_readText Me q.2 ∧ (0 ≤ q.1 ∧ q.1 ≤ 1) ∧ True) := by
  have hn : (169 : Int) ≤ (n : Int) := by have := iM.2.2.2.2.1; omega
  unfold mX9_readText_133
  refine w_gFc (ji := 3) rfl (congrArg Prod.fst (kl_126 iM)) (show mG M 126 3 = 129 from rd_Model_3 iM (a := 126) rfl) ?_
  refine w_if (fun c1_ => ?_) (fun c1_ => ?_)
  · skip
    exact s_X9_readText_150 ⟨by omega, by omega⟩ ⟨by omega, by omega⟩ ⟨by omega, by omega⟩ iM kM
  · skip
    refine w_gF (ji := 36) rfl (congrArg Prod.fst (kl_126 iM)) (fun a147 ha147 => ?_)
    have ra147 : 0 ≤ a147 ∧ a147 ≤ 5 := ha147.tr (P := fun z => 0 ≤ z ∧ z ≤ 5) (rd_Model_36 iM rfl)
    exact s_X9_readText_150 ⟨by omega, by omega⟩ ⟨by omega, by omega⟩ ⟨by omega, by omega⟩ iM kM
theorem s_X9_readText_112 {n : Nat} {Me : Mem} {l1 : Int} {M : Mem} (r_l1 : 0 ≤ l1 ∧ l1 ≤ 1) (iM : I n M) (kM : Keep n W_X9_readText Me M) : wp (mX9_readText_112 126 l1 M) (fun q => I n q.2 ∧ Keep n W_X9_readText Me q.2 ∧ (0 ≤ q.1 ∧ q.1 ≤ 1) ∧ True) := by
  have hn : (169 : Int) ≤ (n : Int) := by have := iM.2.2.2.2.1; omega
  unfold mX9_readText_112
  refine w_if (fun c1_ => ?_) (fun c1_ => ?_)
  · skip
    exact s_X9_readText_133 ⟨by omega, by omega⟩ iM kM
  · skip
    refine w_gF (ji := 32) rfl (congrArg Prod.fst (kl_126 iM)) (fun a117 ha117 => ?_)
    have ra117 : 0 ≤ a117 ∧ a117 ≤ 3 := ha117.tr (P := fun z => 0 ≤ z ∧ z ≤ 3) (rd_Model_32 iM rfl)
    refine w_if (fun c2_ => ?_) (fun c2_ => ?_)
    · skip
      exact s_X9_readText_133 ⟨by omega, by omega⟩ iM kM
    · skip
      refine w_gF (ji := 31) rfl (congrArg Prod.fst (kl_126 iM)) (fun a125 ha125 => ?_)
      have ra125 : 0 ≤ a125 ∧ a125 ≤ 400 := ha125.tr (P := fun z => 0 ≤ z ∧ z ≤ 400) (rd_Model_31 iM rfl)
      refine w_pF (ji := 35) rfl (congrArg Prod.fst (kl_126 iM)) (fun M128 hM128 => ?_)
      replace hM128 : M128 = mS M 126 35 a125 := hM128
      have iM128 : I n M128 := wr_Model_35 iM rfl ⟨by omega, by omega⟩ hM128
      have kM128 : Keep n W_X9_readText Me M128 := kM.st hM128 (Or.inl (Or.inr (Or.inr (Or.inr (Or.inr (Or.inr (Or.inr (Or.inr (Or.inr (Or.inl ⟨rfl, rfl⟩))))))))))
      exact s_X9_readText_133 ⟨by omega, by omega⟩ iM128 kM128
theorem sb_X9_readText_74 {n : Nat} {Me : Mem} {k74 : Int → Int → Mem → Option (Int × Mem)} {fu74 : Nat} (hk74 : ∀ (l1 : Int) (M : Mem), (0 ≤ l1 ∧ l1 ≤ 1) → (mG M 126 29 = mG M 126 29) → (mG M 126 31 ≤ mG M 126 29) → (mG M 126 34 = 0 ∨ mG M 126 31 < mG M 126 29) → (mG M 126 38 ≤ 420 ∧ (l1 = 1 → mG M 126 38 ≤ mG M 126 31 + 1)) → (mG M 126 40 ≤ 402 ∧ (l1 = 1 → mG M 126 40 ≤ mG M 126 31)) → 2 * (403 - mG M 126 31) + l1 < (fu74 : Int) → I n M → Keep n W_X9_readText Me M → wp (k74 126 l1 M) (fun q => I n q.2 ∧ Keep n W_X9_readText Me q.2 ∧ (0 ≤ q.1 ∧ q.1 ≤ 1) ∧ True)) {l1 : Int} {M : Mem} (r_l1 : 0 ≤ l1 ∧ l1 ≤ 1) (y0 : mG M 126 29 = mG M 126 29) (y1 : mG M 126 31 ≤ mG M 126 29) (y2 : mG M 126 34 = 0 ∨ mG M 126 31 < mG M 126 29) (y3 : mG M 126 38 ≤ 420 ∧ (l1 = 1 → mG M 126 38 ≤ mG M 126 31 + 1)) (y4 : mG M 126 40 ≤ 402 ∧ (l1 = 1 → mG M 126 40 ≤ mG M 126 31)) (hf74 : 2 * (403 - mG M 126 31) + l1 < (fu74 : Int) + 1) (iM : I n M) (kM : Keep n W_X9_readText Me M) : wp (bX9_readText_74 k74 126 l1 M) (fun q => I n q.2 ∧ Keep n W_X9_readText Me q.2 ∧ (0 ≤ q.1 ∧ q.1 ≤ 1) ∧ True) := by
  have hn : (169 : Int) ≤ (n : Int) := by have := iM.2.2.2.2.1; omega
  obtain ⟨nh0, enh0⟩ : ∃ v, Is (mG M 126 29) v := ⟨_, rfl⟩
  have rnh0 : 0 ≤ nh0 ∧ nh0 ≤ 400 := by rw [← enh0.e]; exact rd_Model_29 iM rfl
  have qnh0 : mG M 126 29 = nh0 := enh0
  (try rw [enh0.e] at y0); (try rw [enh0.e] at y1); (try rw [enh0.e] at y2); (try rw [enh0.e] at y3); (try rw [enh0.e] at y4); (try rw [enh0.e] at hf74)
  obtain ⟨nh1, enh1⟩ : ∃ v, Is (mG M 126 31) v := ⟨_, rfl⟩
  have rnh1 : 0 ≤ nh1 ∧ nh1 ≤ 400 := by rw [← enh1.e]; exact rd_Model_31 iM rfl
  have qnh1 : mG M 126 31 = nh1 := enh1
  (try rw [enh1.e] at y0); (try rw [enh1.e] at y1); (try rw [enh1.e] at y2); (try rw [enh1.e] at y3); (try rw [enh1.e] at y4); (try rw [enh1.e] at hf74)
  obtain ⟨nh2, enh2⟩ : ∃ v, Is (mG M 126 34) v := ⟨_, rfl⟩
  have qnh2 : mG M 126 34 = nh2 := enh2
  (try rw [enh2.e] at y0); (try rw [enh2.e] at y1); (try rw [enh2.e] at y2); (try rw [enh2.e] at y3); (try rw [enh2.e] at y4); (try rw [enh2.e] at hf74)
  obtain ⟨nh3, enh3⟩ : ∃ v, Is (mG M 126 38) v := ⟨_, rfl⟩
  have rnh3 : 0 ≤ nh3 ∧ nh3 ≤ 420 := by rw [← enh3.e]; exact rd_Model_38 iM rfl
  have qnh3 : mG M 126 38 = nh3 := enh3
  (try rw [enh3.e] at y0); (try rw [enh3.e] at y1); (try rw [enh3.e] at y2); (try rw [enh3.e] at y3); (try rw [enh3.e] at y4); (try rw [enh3.e] at hf74)
  obtain ⟨nh4, enh4⟩ : ∃ v, Is (mG M 126 40) v := ⟨_, rfl⟩
  have rnh4 : 0 ≤ nh4 ∧ nh4 ≤ 402 := by rw [← enh4.e]; exact rd_Model_40 iM rfl
  have qnh4 : mG M 126 40 = nh4 := enh4
  (try rw [enh4.e] at y0); (try rw [enh4.e] at y1); (try rw [enh4.e] at y2); (try rw [enh4.e] at y3); (try rw [enh4.e] at y4); (try rw [enh4.e] at hf74)
  unfold bX9_readText_74
  refine w_if (fun c1_ => ?_) (fun c1_ => ?_)
  · skip
    exact s_X9_readText_112 ⟨by omega, by omega⟩ iM kM
  · skip
    refine w_gFc (ji := 38) rfl (congrArg Prod.fst (kl_126 iM)) (show mG M 126 38 = nh3 from (show mG M 126 38 = nh3 from enh3)) ?_
    refine w_if (fun c2_ => ?_) (fun c2_ => ?_)
    · skip
      exact s_X9_readText_112 ⟨by omega, by omega⟩ iM kM
    · skip
      refine w_gFc (ji := 38) rfl (congrArg Prod.fst (kl_126 iM)) (show mG M 126 38 = nh3 from (show mG M 126 38 = nh3 from enh3)) ?_
      have w3_ := wI_id (x := (nh3 - 1)) (by omega) (by omega)
      refine w_pF (ji := 38) rfl (congrArg Prod.fst (kl_126 iM)) (fun M92 hM92 => ?_)
      replace hM92 : M92 = mS M 126 38 (wI (nh3 - 1)) := hM92
      have iM92 : I n M92 := wr_Model_38 iM rfl ⟨by omega, by omega⟩ hM92
      have kM92 : Keep n W_X9_readText Me M92 := kM.st hM92 (Or.inl (Or.inr (Or.inr (Or.inr (Or.inr (Or.inr (Or.inr (Or.inr (Or.inr (Or.inr (Or.inr (Or.inr (Or.inl ⟨rfl, rfl⟩)))))))))))))
      obtain ⟨svM92, esvM92⟩ : ∃ z, z = (wI (nh3 - 1)) := ⟨_, rfl⟩
      refine w_gFc (ji := 39) rfl (congrArg Prod.fst (kl_126 iM92)) (show mG M92 126 39 = 155 from rd_Model_39 iM92 (a := 126) rfl) ?_
      refine w_gFc (ji := 38) rfl (congrArg Prod.fst (kl_126 iM92)) (show mG M92 126 38 = svM92 from (show mG M92 126 38 = svM92 from ((st_eq hM92).trans esvM92.symm))) ?_
      refine w_aG (kl_155 iM92) (by omega) (by omega) (fun a104 ha104 => ?_)
      have ra104 : (-2147483648) ≤ a104 ∧ a104 ≤ 2147483647 := ha104.tr (P := fun z => (-2147483648) ≤ z ∧ z ≤ 2147483647) (rd_Maround iM92 rfl)
      refine w_gK (congrArg Prod.fst (kl_126 iM92)) ?_
      have lbm105_29 : mG M92 126 29 = nh0 := (show mG M92 126 29 = nh0 from ((st_ne hM92 (fun z => absurd z.2 (by decide))).trans (show mG M 126 29 = nh0 from enh0)))
      have lbm105_31 : mG M92 126 31 = nh1 := (show mG M92 126 31 = nh1 from ((st_ne hM92 (fun z => absurd z.2 (by decide))).trans (show mG M 126 31 = nh1 from enh1)))
      have lbm105_34 : mG M92 126 34 = nh2 := (show mG M92 126 34 = nh2 from ((st_ne hM92 (fun z => absurd z.2 (by decide))).trans (show mG M 126 34 = nh2 from enh2)))
      have lbm105_38 : mG M92 126 38 = svM92 := (show mG M92 126 38 = svM92 from (show mG M92 126 38 = svM92 from ((st_eq hM92).trans esvM92.symm)))
      have lbm105_40 : mG M92 126 40 = nh4 := (show mG M92 126 40 = nh4 from ((st_ne hM92 (fun z => absurd z.2 (by decide))).trans (show mG M 126 40 = nh4 from enh4)))
      refine w_call (s_X9_readPart ⟨by omega, by omega⟩ (by (try rw [(show mG M92 126 29 = nh0 from ((st_ne hM92 (fun z => absurd z.2 (by decide))).trans (show mG M 126 29 = nh0 from enh0)))]); (try rw [(show mG M92 126 31 = nh1 from ((st_ne hM92 (fun z => absurd z.2 (by decide))).trans (show mG M 126 31 = nh1 from enh1)))]); (try rw [(show mG M92 126 34 = nh2 from ((st_ne hM92 (fun z => absurd z.2 (by decide))).trans (show mG M 126 34 = nh2 from enh2)))]); (try rw [(show mG M92 126 38 = svM92 from (show mG M92 126 38 = svM92 from ((st_eq hM92).trans esvM92.symm)))]); (try rw [(show mG M92 126 40 = nh4 from ((st_ne hM92 (fun z => absurd z.2 (by decide))).trans (show mG M 126 40 = nh4 from enh4)))]); all_goals omega) (by (try rw [(show mG M92 126 29 = nh0 from ((st_ne hM92 (fun z => absurd z.2 (by decide))).trans (show mG M 126 29 = nh0 from enh0)))]); (try rw [(show mG M92 126 31 = nh1 from ((st_ne hM92 (fun z => absurd z.2 (by decide))).trans (show mG M 126 31 = nh1 from enh1)))]); (try rw [(show mG M92 126 34 = nh2 from ((st_ne hM92 (fun z => absurd z.2 (by decide))).trans (show mG M 126 34 = nh2 from enh2)))]); (try rw [(show mG M92 126 38 = svM92 from (show mG M92 126 38 = svM92 from ((st_eq hM92).trans esvM92.symm)))]); (try rw [(show mG M92 126 40 = nh4 from ((st_ne hM92 (fun z => absurd z.2 (by decide))).trans (show mG M 126 40 = nh4 from enh4)))]); all_goals omega) (by (try rw [(show mG M92 126 29 = nh0 from ((st_ne hM92 (fun z => absurd z.2 (by decide))).trans (show mG M 126 29 = nh0 from enh0)))]); (try rw [(show mG M92 126 31 = nh1 from ((st_ne hM92 (fun z => absurd z.2 (by decide))).trans (show mG M 126 31 = nh1 from enh1)))]); (try rw [(show mG M92 126 34 = nh2 from ((st_ne hM92 (fun z => absurd z.2 (by decide))).trans (show mG M 126 34 = nh2 from enh2)))]); (try rw [(show mG M92 126 38 = svM92 from (show mG M92 126 38 = svM92 from ((st_eq hM92).trans esvM92.symm)))]); (try rw [(show mG M92 126 40 = nh4 from ((st_ne hM92 (fun z => absurd z.2 (by decide))).trans (show mG M 126 40 = nh4 from enh4)))]); all_goals omega) (by (try rw [(show mG M92 126 29 = nh0 from ((st_ne hM92 (fun z => absurd z.2 (by decide))).trans (show mG M 126 29 = nh0 from enh0)))]); (try rw [(show mG M92 126 31 = nh1 from ((st_ne hM92 (fun z => absurd z.2 (by decide))).trans (show mG M 126 31 = nh1 from enh1)))]); (try rw [(show mG M92 126 34 = nh2 from ((st_ne hM92 (fun z => absurd z.2 (by decide))).trans (show mG M 126 34 = nh2 from enh2)))]); (try rw [(show mG M92 126 38 = svM92 from (show mG M92 126 38 = svM92 from ((st_eq hM92).trans esvM92.symm)))]); (try rw [(show mG M92 126 40 = nh4 from ((st_ne hM92 (fun z => absurd z.2 (by decide))).trans (show mG M 126 40 = nh4 from enh4)))]); all_goals omega) (by (try rw [(show mG M92 126 29 = nh0 from ((st_ne hM92 (fun z => absurd z.2 (by decide))).trans (show mG M 126 29 = nh0 from enh0)))]); (try rw [(show mG M92 126 31 = nh1 from ((st_ne hM92 (fun z => absurd z.2 (by decide))).trans (show mG M 126 31 = nh1 from enh1)))]); (try rw [(show mG M92 126 34 = nh2 from ((st_ne hM92 (fun z => absurd z.2 (by decide))).trans (show mG M 126 34 = nh2 from enh2)))]); (try rw [(show mG M92 126 38 = svM92 from (show mG M92 126 38 = svM92 from ((st_eq hM92).trans esvM92.symm)))]); (try rw [(show mG M92 126 40 = nh4 from ((st_ne hM92 (fun z => absurd z.2 (by decide))).trans (show mG M 126 40 = nh4 from enh4)))]); all_goals omega) iM92) ?_
      intro v105 m105 pp105
      obtain ⟨im105, kk105, e105_0, e105_1, e105_2, e105_3, e105_4, -⟩ := pp105
      try dsimp only
      replace im105 : I n m105 := im105
      replace kk105 : Keep n W_X9_readPart M92 m105 := kk105
      have km105 : Keep n W_X9_readText Me m105 := kM92.tr kk105 (fun b j z => Or.elim z (fun z => (Or.inr (Or.inl z))) (fun z => Or.elim z (fun z => (Or.inr (Or.inr (Or.inl z)))) (fun z => Or.elim z (fun z => (Or.inr (Or.inr (Or.inr (Or.inr (Or.inl z)))))) (fun z => Or.elim z (fun z => (Or.inr (Or.inr (Or.inr (Or.inr (Or.inr (Or.inl z))))))) (fun z => Or.elim z (fun z => (Or.inr (Or.inr (Or.inr (Or.inr (Or.inr (Or.inr (Or.inl z)))))))) (fun z => Or.elim z (fun z => (Or.inr (Or.inr (Or.inr (Or.inr (Or.inr (Or.inr (Or.inr (Or.inl z))))))))) (fun z => Or.elim z (fun z => (Or.inr (Or.inr (Or.inr (Or.inr (Or.inr (Or.inr (Or.inr (Or.inr (Or.inl z)))))))))) (fun z => Or.elim z (fun z => (Or.inr (Or.inr (Or.inr (Or.inr (Or.inr (Or.inr (Or.inr (Or.inr (Or.inr (Or.inl z))))))))))) (fun z => Or.elim z (fun z => (Or.inr (Or.inr (Or.inr (Or.inr (Or.inr (Or.inr (Or.inr (Or.inr (Or.inr (Or.inr (Or.inl z)))))))))))) (fun z => Or.elim z (fun z => (Or.inr (Or.inr (Or.inr (Or.inr (Or.inr (Or.inr (Or.inr (Or.inr (Or.inr (Or.inr (Or.inr (Or.inl z))))))))))))) (fun z => (Or.inr (Or.inr (Or.inr (Or.inr (Or.inr (Or.inr (Or.inr (Or.inr (Or.inr (Or.inr (Or.inr (Or.inr z)))))))))))))))))))))))
      replace e105_0 : 0 ≤ v105 ∧ v105 ≤ 1 := e105_0
      replace e105_1 : mG M92 126 31 ≤ mG m105 126 31 ∧ mG m105 126 31 ≤ mG m105 126 29 ∧ (mG m105 126 34 = 0 ∨ mG m105 126 31 < mG m105 126 29) := e105_1
      replace e105_2 : v105 = 1 → mG M92 126 31 < mG m105 126 31 := e105_2
      replace e105_3 : mG m105 126 38 ≤ mG M92 126 38 + 2 := e105_3
      replace e105_4 : mG m105 126 40 = mG M92 126 40 + 1 := e105_4
      obtain ⟨hv105_29, ehv105_29⟩ : ∃ v, Is (mG m105 126 29) v := ⟨_, rfl⟩
      have lhv105_29 : mG m105 126 29 = hv105_29 := ehv105_29
      have rhv105_29 : 0 ≤ hv105_29 ∧ hv105_29 ≤ 400 := by rw [← ehv105_29.e]; exact rd_Model_29 im105 rfl
      obtain ⟨hv105_31, ehv105_31⟩ : ∃ v, Is (mG m105 126 31) v := ⟨_, rfl⟩
      have lhv105_31 : mG m105 126 31 = hv105_31 := ehv105_31
      have rhv105_31 : 0 ≤ hv105_31 ∧ hv105_31 ≤ 400 := by rw [← ehv105_31.e]; exact rd_Model_31 im105 rfl
      obtain ⟨hv105_34, ehv105_34⟩ : ∃ v, Is (mG m105 126 34) v := ⟨_, rfl⟩
      have lhv105_34 : mG m105 126 34 = hv105_34 := ehv105_34
      skip
      obtain ⟨hv105_38, ehv105_38⟩ : ∃ v, Is (mG m105 126 38) v := ⟨_, rfl⟩
      have lhv105_38 : mG m105 126 38 = hv105_38 := ehv105_38
      have rhv105_38 : 0 ≤ hv105_38 ∧ hv105_38 ≤ 420 := by rw [← ehv105_38.e]; exact rd_Model_38 im105 rfl
      obtain ⟨hv105_40, ehv105_40⟩ : ∃ v, Is (mG m105 126 40) v := ⟨_, rfl⟩
      have lhv105_40 : mG m105 126 40 = hv105_40 := ehv105_40
      have rhv105_40 : 0 ≤ hv105_40 ∧ hv105_40 ≤ 402 := by rw [← ehv105_40.e]; exact rd_Model_40 im105 rfl
      exact hk74 _ _ ⟨by omega, by omega⟩ (by (try rw [(show mG m105 126 29 = hv105_29 from (show mG m105 126 29 = hv105_29 from ehv105_29))]); (try rw [(show mG m105 126 31 = hv105_31 from (show mG m105 126 31 = hv105_31 from ehv105_31))]); (try rw [(show mG m105 126 34 = hv105_34 from (show mG m105 126 34 = hv105_34 from ehv105_34))]); (try rw [(show mG m105 126 38 = hv105_38 from (show mG m105 126 38 = hv105_38 from ehv105_38))]); (try rw [(show mG m105 126 40 = hv105_40 from (show mG m105 126 40 = hv105_40 from ehv105_40))]); all_goals omega) (by (try rw [(show mG m105 126 29 = hv105_29 from (show mG m105 126 29 = hv105_29 from ehv105_29))]); (try rw [(show mG m105 126 31 = hv105_31 from (show mG m105 126 31 = hv105_31 from ehv105_31))]); (try rw [(show mG m105 126 34 = hv105_34 from (show mG m105 126 34 = hv105_34 from ehv105_34))]); (try rw [(show mG m105 126 38 = hv105_38 from (show mG m105 126 38 = hv105_38 from ehv105_38))]); (try rw [(show mG m105 126 40 = hv105_40 from (show mG m105 126 40 = hv105_40 from ehv105_40))]); all_goals omega) (by (try rw [(show mG m105 126 29 = hv105_29 from (show mG m105 126 29 = hv105_29 from ehv105_29))]); (try rw [(show mG m105 126 31 = hv105_31 from (show mG m105 126 31 = hv105_31 from ehv105_31))]); (try rw [(show mG m105 126 34 = hv105_34 from (show mG m105 126 34 = hv105_34 from ehv105_34))]); (try rw [(show mG m105 126 38 = hv105_38 from (show mG m105 126 38 = hv105_38 from ehv105_38))]); (try rw [(show mG m105 126 40 = hv105_40 from (show mG m105 126 40 = hv105_40 from ehv105_40))]); all_goals omega) (by (try rw [(show mG m105 126 29 = hv105_29 from (show mG m105 126 29 = hv105_29 from ehv105_29))]); (try rw [(show mG m105 126 31 = hv105_31 from (show mG m105 126 31 = hv105_31 from ehv105_31))]); (try rw [(show mG m105 126 34 = hv105_34 from (show mG m105 126 34 = hv105_34 from ehv105_34))]); (try rw [(show mG m105 126 38 = hv105_38 from (show mG m105 126 38 = hv105_38 from ehv105_38))]); (try rw [(show mG m105 126 40 = hv105_40 from (show mG m105 126 40 = hv105_40 from ehv105_40))]); all_goals omega) (by (try rw [(show mG m105 126 29 = hv105_29 from (show mG m105 126 29 = hv105_29 from ehv105_29))]); (try rw [(show mG m105 126 31 = hv105_31 from (show mG m105 126 31 = hv105_31 from ehv105_31))]); (try rw [(show mG m105 126 34 = hv105_34 from (show mG m105 126 34 = hv105_34 from ehv105_34))]); (try rw [(show mG m105 126 38 = hv105_38 from (show mG m105 126 38 = hv105_38 from ehv105_38))]); (try rw [(show mG m105 126 40 = hv105_40 from (show mG m105 126 40 = hv105_40 from ehv105_40))]); all_goals omega) (by rw [(show mG m105 126 31 = hv105_31 from (show mG m105 126 31 = hv105_31 from ehv105_31))]; omega) im105 km105
theorem s_X9_readText_74 {n : Nat} {Me : Mem} : ∀ (fu : Nat) (l1 : Int) (M : Mem), (0 ≤ l1 ∧ l1 ≤ 1) → (mG M 126 29 = mG M 126 29) → (mG M 126 31 ≤ mG M 126 29) → (mG M 126 34 = 0 ∨ mG M 126 31 < mG M 126 29) → (mG M 126 38 ≤ 420 ∧ (l1 = 1 → mG M 126 38 ≤ mG M 126 31 + 1)) → (mG M 126 40 ≤ 402 ∧ (l1 = 1 → mG M 126 40 ≤ mG M 126 31)) → 2 * (403 - mG M 126 31) + l1 < (fu : Int) → I n M → Keep n W_X9_readText Me M → wp (mX9_readText_74 fu 126 l1 M) (fun q => I n q.2 ∧ Keep n W_X9_readText Me q.2 ∧ (0 ≤ q.1 ∧ q.1 ≤ 1) ∧ True) := by
  intro fu
  induction fu with
  | zero =>
    intro l1 M r_l1 y0 y1 y2 y3 y4 hf iM kM
    exfalso
    have z := rdf iM (a := 126) (j := 29) (f := 42) rfl
    have z : 0 ≤ mG M 126 29 ∧ mG M 126 29 ≤ 400 := z
    have z := rdf iM (a := 126) (j := 31) (f := 42) rfl
    have z : 0 ≤ mG M 126 31 ∧ mG M 126 31 ≤ 400 := z
    have z := rdf iM (a := 126) (j := 38) (f := 42) rfl
    have z : 0 ≤ mG M 126 38 ∧ mG M 126 38 ≤ 420 := z
    have z := rdf iM (a := 126) (j := 40) (f := 42) rfl
    have z : 0 ≤ mG M 126 40 ∧ mG M 126 40 ≤ 402 := z
    omega
  | succ fu ih =>
    intro l1 M r_l1 y0 y1 y2 y3 y4 hf iM kM
    exact sb_X9_readText_74 ih r_l1 y0 y1 y2 y3 y4 (by have e : ((fu + 1 : Nat) : Int) = (fu : Int) + 1 := rfl; rw [e] at hf; exact hf) iM kM
theorem s_X9_readText {n : Nat} {M : Mem} (iM : I n M) : wp (mX9_readText 126 M) (fun q => I n q.2 ∧ Keep n W_X9_readText M q.2 ∧ (0 ≤ q.1 ∧ q.1 ≤ 1) ∧ True) := by
  have hn : (169 : Int) ≤ (n : Int) := by have := iM.2.2.2.2.1; omega
  have kM : Keep n W_X9_readText M M := Keep.rf
  unfold mX9_readText
  refine w_gFc (ji := 2) rfl (congrArg Prod.fst (kl_126 iM)) (show mG M 126 2 = 128 from rd_Model_2 iM (a := 126) rfl) ?_
  refine w_aG (kl_128 iM) (by decide) (by decide) (fun a6 ha6 => ?_)
  have ra6 : 0 ≤ a6 ∧ a6 ≤ 400 := ha6.tr (P := fun z => 0 ≤ z ∧ z ≤ 400) (rd_Msize iM rfl)
  refine w_pF (ji := 30) rfl (congrArg Prod.fst (kl_126 iM)) (fun M7 hM7 => ?_)
  replace hM7 : M7 = mS M 126 30 a6 := hM7
  have iM7 : I n M7 := wr_Model_30 iM rfl ⟨by omega, by omega⟩ hM7
  have kM7 : Keep n W_X9_readText M M7 := kM.st hM7 (Or.inl (Or.inr (Or.inr (Or.inr (Or.inl ⟨rfl, rfl⟩)))))
  refine w_gFc (ji := 2) rfl (congrArg Prod.fst (kl_126 iM7)) (show mG M7 126 2 = 128 from rd_Model_2 iM7 (a := 126) rfl) ?_
  refine w_aS (kl_128 iM7) (by omega) (by omega) (fun M16 hM16 => ?_)
  replace hM16 : M16 = mS M7 128 0 0 := hM16
  have iM16 : I n M16 := wr_Msize iM7 rfl ⟨by omega, by omega⟩ hM16
  have kM16 : Keep n W_X9_readText M M16 := kM7.st hM16 (Or.inl (Or.inl ⟨by decide, by decide⟩))
  refine w_gFc (ji := 3) rfl (congrArg Prod.fst (kl_126 iM16)) (show mG M16 126 3 = 129 from rd_Model_3 iM16 (a := 126) rfl) ?_
  refine w_aS (kl_129 iM16) (by omega) (by omega) (fun M23 hM23 => ?_)
  replace hM23 : M23 = mS M16 129 0 0 := hM23
  have iM23 : I n M23 := wr_Mfault iM16 rfl ⟨by omega, by omega⟩ hM23
  have kM23 : Keep n W_X9_readText M M23 := kM16.st hM23 (Or.inl (Or.inl ⟨by decide, by decide⟩))
  refine w_gFc (ji := 4) rfl (congrArg Prod.fst (kl_126 iM23)) (show mG M23 126 4 = 130 from rd_Model_4 iM23 (a := 126) rfl) ?_
  refine w_aS (kl_130 iM23) (by omega) (by omega) (fun M30 hM30 => ?_)
  replace hM30 : M30 = mS M23 130 0 (-1) := hM30
  have iM30 : I n M30 := wr_MfaultPlace iM23 rfl ⟨by omega, by omega⟩ hM30
  have kM30 : Keep n W_X9_readText M M30 := kM23.st hM30 (Or.inl (Or.inl ⟨by decide, by decide⟩))
  refine w_pF (ji := 29) rfl (congrArg Prod.fst (kl_126 iM30)) (fun M33 hM33 => ?_)
  replace hM33 : M33 = mS M30 126 29 0 := hM33
  have iM33 : I n M33 := wr_Model_29 iM30 rfl ⟨by omega, by omega⟩ hM33
  have kM33 : Keep n W_X9_readText M M33 := kM30.st hM33 (Or.inl (Or.inr (Or.inr (Or.inl ⟨rfl, rfl⟩))))
  refine w_pF (ji := 35) rfl (congrArg Prod.fst (kl_126 iM33)) (fun M38 hM38 => ?_)
  replace hM38 : M38 = mS M33 126 35 (-1) := hM38
  have iM38 : I n M38 := wr_Model_35 iM33 rfl ⟨by omega, by omega⟩ hM38
  have kM38 : Keep n W_X9_readText M M38 := kM33.st hM38 (Or.inl (Or.inr (Or.inr (Or.inr (Or.inr (Or.inr (Or.inr (Or.inr (Or.inr (Or.inl ⟨rfl, rfl⟩))))))))))
  refine w_pF (ji := 36) rfl (congrArg Prod.fst (kl_126 iM38)) (fun M43 hM43 => ?_)
  replace hM43 : M43 = mS M38 126 36 0 := hM43
  have iM43 : I n M43 := wr_Model_36 iM38 rfl ⟨by omega, by omega⟩ hM43
  have kM43 : Keep n W_X9_readText M M43 := kM38.st hM43 (Or.inl (Or.inr (Or.inr (Or.inr (Or.inr (Or.inr (Or.inr (Or.inr (Or.inr (Or.inr (Or.inl ⟨rfl, rfl⟩)))))))))))
  refine w_pF (ji := 37) rfl (congrArg Prod.fst (kl_126 iM43)) (fun M48 hM48 => ?_)
  replace hM48 : M48 = mS M43 126 37 0 := hM48
  have iM48 : I n M48 := wr_Model_37 iM43 rfl ⟨by omega, by omega⟩ hM48
  have kM48 : Keep n W_X9_readText M M48 := kM43.st hM48 (Or.inl (Or.inr (Or.inr (Or.inr (Or.inr (Or.inr (Or.inr (Or.inr (Or.inr (Or.inr (Or.inr (Or.inl ⟨rfl, rfl⟩))))))))))))
  refine w_pF (ji := 38) rfl (congrArg Prod.fst (kl_126 iM48)) (fun M53 hM53 => ?_)
  replace hM53 : M53 = mS M48 126 38 0 := hM53
  have iM53 : I n M53 := wr_Model_38 iM48 rfl ⟨by omega, by omega⟩ hM53
  have kM53 : Keep n W_X9_readText M M53 := kM48.st hM53 (Or.inl (Or.inr (Or.inr (Or.inr (Or.inr (Or.inr (Or.inr (Or.inr (Or.inr (Or.inr (Or.inr (Or.inr (Or.inl ⟨rfl, rfl⟩)))))))))))))
  refine w_pF (ji := 40) rfl (congrArg Prod.fst (kl_126 iM53)) (fun M58 hM58 => ?_)
  replace hM58 : M58 = mS M53 126 40 0 := hM58
  have iM58 : I n M58 := wr_Model_40 iM53 rfl ⟨by omega, by omega⟩ hM58
  have kM58 : Keep n W_X9_readText M M58 := kM53.st hM58 (Or.inl (Or.inr (Or.inr (Or.inr (Or.inr (Or.inr (Or.inr (Or.inr (Or.inr (Or.inr (Or.inr (Or.inr (Or.inr ⟨rfl, rfl⟩)))))))))))))
  refine w_gK (congrArg Prod.fst (kl_126 iM58)) ?_
  have lbm65_38 : mG M58 126 38 = 0 := (show mG M58 126 38 = 0 from ((st_ne hM58 (fun z => absurd z.2 (by decide))).trans (show mG M53 126 38 = 0 from (st_eq hM53))))
  refine w_call (s_X9_wait ⟨by omega, by omega⟩ (by (try rw [(show mG M58 126 38 = 0 from ((st_ne hM58 (fun z => absurd z.2 (by decide))).trans (show mG M53 126 38 = 0 from (st_eq hM53))))]); all_goals omega) iM58) ?_
  intro v65 m65 pp65
  obtain ⟨im65, kk65, e65_0, -⟩ := pp65
  try dsimp only
  replace im65 : I n m65 := im65
  replace kk65 : Keep n W_X9_wait M58 m65 := kk65
  have km65 : Keep n W_X9_readText M m65 := kM58.tr kk65 (fun b j z => Or.elim z (fun z => (Or.inr (Or.inl ⟨by omega, by omega⟩))) (fun z => (Or.inr (Or.inr (Or.inr (Or.inr (Or.inr (Or.inr (Or.inr (Or.inr (Or.inr (Or.inr (Or.inr (Or.inl z))))))))))))))
  replace e65_0 : mG m65 126 38 = mG M58 126 38 + 1 := e65_0
  obtain ⟨hv65_38, ehv65_38⟩ : ∃ v, Is (mG m65 126 38) v := ⟨_, rfl⟩
  have lhv65_38 : mG m65 126 38 = hv65_38 := ehv65_38
  have rhv65_38 : 0 ≤ hv65_38 ∧ hv65_38 ≤ 420 := by rw [← ehv65_38.e]; exact rd_Model_38 im65 rfl
  refine w_gK (congrArg Prod.fst (kl_126 im65)) ?_
  have lbm69_29 : mG m65 126 29 = 0 := (show mG m65 126 29 = 0 from ((kk65.2.2 126 29 (by omega) (fun z => by unfold W_X9_wait at z; (try unfold isWS at z); (try unfold isShape at z); (try unfold isTold at z); (try dsimp only at z); omega)).trans ((st_ne hM58 (fun z => absurd z.2 (by decide))).trans ((st_ne hM53 (fun z => absurd z.2 (by decide))).trans ((st_ne hM48 (fun z => absurd z.2 (by decide))).trans ((st_ne hM43 (fun z => absurd z.2 (by decide))).trans ((st_ne hM38 (fun z => absurd z.2 (by decide))).trans (show mG M33 126 29 = 0 from (st_eq hM33)))))))))
  obtain ⟨hp1_, ehp1_⟩ : ∃ v, Is (mG m65 126 31) v := ⟨_, rfl⟩
  have rhp1_ : 0 ≤ hp1_ ∧ hp1_ ≤ 400 := by rw [← ehp1_.e]; exact rd_Model_31 im65 rfl
  have qhp1_ : mG m65 126 31 = hp1_ := ehp1_
  have lbm69_31 : mG m65 126 31 = hp1_ := (show mG m65 126 31 = hp1_ from (show mG m65 126 31 = hp1_ from ehp1_))
  obtain ⟨hp2_, ehp2_⟩ : ∃ v, Is (mG m65 126 34) v := ⟨_, rfl⟩
  have qhp2_ : mG m65 126 34 = hp2_ := ehp2_
  have lbm69_34 : mG m65 126 34 = hp2_ := (show mG m65 126 34 = hp2_ from (show mG m65 126 34 = hp2_ from ehp2_))
  refine w_call (s_X9_token im65) ?_
  intro v69 m69 pp69
  obtain ⟨im69, kk69, e69_0, -⟩ := pp69
  try dsimp only
  replace im69 : I n m69 := im69
  replace kk69 : Keep n W_X9_token m65 m69 := kk69
  have km69 : Keep n W_X9_readText M m69 := km65.tr kk69 (fun b j z => Or.elim z (fun z => (Or.inr (Or.inr (Or.inl z)))) (fun z => Or.elim z (fun z => (Or.inr (Or.inr (Or.inr (Or.inr (Or.inl z)))))) (fun z => Or.elim z (fun z => (Or.inr (Or.inr (Or.inr (Or.inr (Or.inr (Or.inl z))))))) (fun z => Or.elim z (fun z => (Or.inr (Or.inr (Or.inr (Or.inr (Or.inr (Or.inr (Or.inl z)))))))) (fun z => (Or.inr (Or.inr (Or.inr (Or.inr (Or.inr (Or.inr (Or.inr (Or.inl z)))))))))))))
  replace e69_0 : mG m65 126 29 ≤ mG m69 126 31 ∧ mG m69 126 31 ≤ mG m69 126 29 ∧ (mG m69 126 34 = 0 ∨ mG m69 126 31 < mG m69 126 29) := e69_0
  obtain ⟨hv69_29, ehv69_29⟩ : ∃ v, Is (mG m69 126 29) v := ⟨_, rfl⟩
  have lhv69_29 : mG m69 126 29 = hv69_29 := ehv69_29
  have rhv69_29 : 0 ≤ hv69_29 ∧ hv69_29 ≤ 400 := by rw [← ehv69_29.e]; exact rd_Model_29 im69 rfl
  obtain ⟨hv69_31, ehv69_31⟩ : ∃ v, Is (mG m69 126 31) v := ⟨_, rfl⟩
  have lhv69_31 : mG m69 126 31 = hv69_31 := ehv69_31
  have rhv69_31 : 0 ≤ hv69_31 ∧ hv69_31 ≤ 400 := by rw [← ehv69_31.e]; exact rd_Model_31 im69 rfl
  obtain ⟨hv69_34, ehv69_34⟩ : ∃ v, Is (mG m69 126 34) v := ⟨_, rfl⟩
  have lhv69_34 : mG m69 126 34 = hv69_34 := ehv69_34
  skip
  exact s_X9_readText_74 FU _ _ ⟨by omega, by omega⟩ (by (try rw [(show mG m69 126 29 = hv69_29 from (show mG m69 126 29 = hv69_29 from ehv69_29))]); (try rw [(show mG m69 126 31 = hv69_31 from (show mG m69 126 31 = hv69_31 from ehv69_31))]); (try rw [(show mG m69 126 34 = hv69_34 from (show mG m69 126 34 = hv69_34 from ehv69_34))]); (try rw [(show mG m69 126 38 = hv65_38 from ((kk69.2.2 126 38 (by omega) (fun z => by unfold W_X9_token at z; (try unfold isWS at z); (try unfold isShape at z); (try unfold isTold at z); (try dsimp only at z); omega)).trans (show mG m65 126 38 = hv65_38 from ehv65_38)))]); (try rw [(show mG m69 126 40 = 0 from ((kk69.2.2 126 40 (by omega) (fun z => by unfold W_X9_token at z; (try unfold isWS at z); (try unfold isShape at z); (try unfold isTold at z); (try dsimp only at z); omega)).trans ((kk65.2.2 126 40 (by omega) (fun z => by unfold W_X9_wait at z; (try unfold isWS at z); (try unfold isShape at z); (try unfold isTold at z); (try dsimp only at z); omega)).trans (show mG M58 126 40 = 0 from (st_eq hM58)))))]); all_goals omega) (by (try rw [(show mG m69 126 29 = hv69_29 from (show mG m69 126 29 = hv69_29 from ehv69_29))]); (try rw [(show mG m69 126 31 = hv69_31 from (show mG m69 126 31 = hv69_31 from ehv69_31))]); (try rw [(show mG m69 126 34 = hv69_34 from (show mG m69 126 34 = hv69_34 from ehv69_34))]); (try rw [(show mG m69 126 38 = hv65_38 from ((kk69.2.2 126 38 (by omega) (fun z => by unfold W_X9_token at z; (try unfold isWS at z); (try unfold isShape at z); (try unfold isTold at z); (try dsimp only at z); omega)).trans (show mG m65 126 38 = hv65_38 from ehv65_38)))]); (try rw [(show mG m69 126 40 = 0 from ((kk69.2.2 126 40 (by omega) (fun z => by unfold W_X9_token at z; (try unfold isWS at z); (try unfold isShape at z); (try unfold isTold at z); (try dsimp only at z); omega)).trans ((kk65.2.2 126 40 (by omega) (fun z => by unfold W_X9_wait at z; (try unfold isWS at z); (try unfold isShape at z); (try unfold isTold at z); (try dsimp only at z); omega)).trans (show mG M58 126 40 = 0 from (st_eq hM58)))))]); all_goals omega) (by (try rw [(show mG m69 126 29 = hv69_29 from (show mG m69 126 29 = hv69_29 from ehv69_29))]); (try rw [(show mG m69 126 31 = hv69_31 from (show mG m69 126 31 = hv69_31 from ehv69_31))]); (try rw [(show mG m69 126 34 = hv69_34 from (show mG m69 126 34 = hv69_34 from ehv69_34))]); (try rw [(show mG m69 126 38 = hv65_38 from ((kk69.2.2 126 38 (by omega) (fun z => by unfold W_X9_token at z; (try unfold isWS at z); (try unfold isShape at z); (try unfold isTold at z); (try dsimp only at z); omega)).trans (show mG m65 126 38 = hv65_38 from ehv65_38)))]); (try rw [(show mG m69 126 40 = 0 from ((kk69.2.2 126 40 (by omega) (fun z => by unfold W_X9_token at z; (try unfold isWS at z); (try unfold isShape at z); (try unfold isTold at z); (try dsimp only at z); omega)).trans ((kk65.2.2 126 40 (by omega) (fun z => by unfold W_X9_wait at z; (try unfold isWS at z); (try unfold isShape at z); (try unfold isTold at z); (try dsimp only at z); omega)).trans (show mG M58 126 40 = 0 from (st_eq hM58)))))]); all_goals omega) (by (try rw [(show mG m69 126 29 = hv69_29 from (show mG m69 126 29 = hv69_29 from ehv69_29))]); (try rw [(show mG m69 126 31 = hv69_31 from (show mG m69 126 31 = hv69_31 from ehv69_31))]); (try rw [(show mG m69 126 34 = hv69_34 from (show mG m69 126 34 = hv69_34 from ehv69_34))]); (try rw [(show mG m69 126 38 = hv65_38 from ((kk69.2.2 126 38 (by omega) (fun z => by unfold W_X9_token at z; (try unfold isWS at z); (try unfold isShape at z); (try unfold isTold at z); (try dsimp only at z); omega)).trans (show mG m65 126 38 = hv65_38 from ehv65_38)))]); (try rw [(show mG m69 126 40 = 0 from ((kk69.2.2 126 40 (by omega) (fun z => by unfold W_X9_token at z; (try unfold isWS at z); (try unfold isShape at z); (try unfold isTold at z); (try dsimp only at z); omega)).trans ((kk65.2.2 126 40 (by omega) (fun z => by unfold W_X9_wait at z; (try unfold isWS at z); (try unfold isShape at z); (try unfold isTold at z); (try dsimp only at z); omega)).trans (show mG M58 126 40 = 0 from (st_eq hM58)))))]); all_goals omega) (by (try rw [(show mG m69 126 29 = hv69_29 from (show mG m69 126 29 = hv69_29 from ehv69_29))]); (try rw [(show mG m69 126 31 = hv69_31 from (show mG m69 126 31 = hv69_31 from ehv69_31))]); (try rw [(show mG m69 126 34 = hv69_34 from (show mG m69 126 34 = hv69_34 from ehv69_34))]); (try rw [(show mG m69 126 38 = hv65_38 from ((kk69.2.2 126 38 (by omega) (fun z => by unfold W_X9_token at z; (try unfold isWS at z); (try unfold isShape at z); (try unfold isTold at z); (try dsimp only at z); omega)).trans (show mG m65 126 38 = hv65_38 from ehv65_38)))]); (try rw [(show mG m69 126 40 = 0 from ((kk69.2.2 126 40 (by omega) (fun z => by unfold W_X9_token at z; (try unfold isWS at z); (try unfold isShape at z); (try unfold isTold at z); (try dsimp only at z); omega)).trans ((kk65.2.2 126 40 (by omega) (fun z => by unfold W_X9_wait at z; (try unfold isWS at z); (try unfold isShape at z); (try unfold isTold at z); (try dsimp only at z); omega)).trans (show mG M58 126 40 = 0 from (st_eq hM58)))))]); all_goals omega) (by rw [(show mG m69 126 31 = hv69_31 from (show mG m69 126 31 = hv69_31 from ehv69_31))]; show _ < (70000 : Int); omega) im69 km69
def W_X9_keepText (b j : Int) : Prop := (141 ≤ b ∧ b ≤ 145)
def W_X9_story (b j : Int) : Prop := (128 ≤ b ∧ b ≤ 130) ∨ (138 ≤ b ∧ b ≤ 145) ∨ (155 ≤ b ∧ b ≤ 159) ∨ (b = 126 ∧ j = 0) ∨ (b = 126 ∧ j = 29) ∨ (b = 126 ∧ j = 30) ∨ (b = 126 ∧ j = 31) ∨ (b = 126 ∧ j = 32) ∨ (b = 126 ∧ j = 33) ∨ (b = 126 ∧ j = 34) ∨ (b = 126 ∧ j = 35) ∨ (b = 126 ∧ j = 36) ∨ (b = 126 ∧ j = 37) ∨ (b = 126 ∧ j = 38) ∨ (b = 126 ∧ j = 40)
def W_X9_guess (b j : Int) : Prop := (128 ≤ b ∧ b ≤ 130) ∨ (141 ≤ b ∧ b ≤ 145) ∨ (155 ≤ b ∧ b ≤ 159) ∨ (b = 126 ∧ j = 0) ∨ (b = 126 ∧ j = 29) ∨ (b = 126 ∧ j = 30) ∨ (b = 126 ∧ j = 31) ∨ (b = 126 ∧ j = 32) ∨ (b = 126 ∧ j = 33) ∨ (b = 126 ∧ j = 34) ∨ (b = 126 ∧ j = 35) ∨ (b = 126 ∧ j = 36) ∨ (b = 126 ∧ j = 37) ∨ (b = 126 ∧ j = 38) ∨ (b = 126 ∧ j = 40)
def W_X9_fault (b j : Int) : Prop := (b = 126 ∧ j = 0)
theorem s_X9_fault {n : Nat} {l1 : Int} {M : Mem} (r_l1 : (-2147483648) ≤ l1 ∧ l1 ≤ 2147483647) (iM : I n M) : wp (mX9_fault 126 l1 M) (fun q => I n q.2 ∧ Keep n W_X9_fault M q.2 ∧ ((-1) ≤ q.1 ∧ q.1 ≤ 400) ∧ True) := by
  have hn : (169 : Int) ≤ (n : Int) := by have := iM.2.2.2.2.1; omega
  have kM : Keep n W_X9_fault M M := Keep.rf
  unfold mX9_fault
  refine w_pF (ji := 0) rfl (congrArg Prod.fst (kl_126 iM)) (fun M2 hM2 => ?_)
  replace hM2 : M2 = mS M 126 0 0 := hM2
  have iM2 : I n M2 := wr_Model_0 iM rfl ⟨by omega, by omega⟩ hM2
  have kM2 : Keep n W_X9_fault M M2 := kM.st hM2 (Or.inl ⟨rfl, rfl⟩)
  refine w_if (fun c1_ => ?_) (fun c1_ => ?_)
  · skip
    refine w_gFc (ji := 3) rfl (congrArg Prod.fst (kl_126 iM2)) (show mG M2 126 3 = 129 from rd_Model_3 iM2 (a := 126) rfl) ?_
    refine w_aG (kl_129 iM2) (by decide) (by decide) (fun a14 ha14 => ?_)
    have ra14 : 0 ≤ a14 ∧ a14 ≤ 5 := ha14.tr (P := fun z => 0 ≤ z ∧ z ≤ 5) (rd_Mfault iM2 rfl)
    exact w_ret ⟨iM2, kM2, (show (-1) ≤ a14 ∧ a14 ≤ 400 from ⟨by omega, by omega⟩), trivial⟩
  · skip
    refine w_if (fun c2_ => ?_) (fun c2_ => ?_)
    · skip
      refine w_gFc (ji := 4) rfl (congrArg Prod.fst (kl_126 iM2)) (show mG M2 126 4 = 130 from rd_Model_4 iM2 (a := 126) rfl) ?_
      refine w_aG (kl_130 iM2) (by decide) (by decide) (fun a28 ha28 => ?_)
      have ra28 : (-1) ≤ a28 ∧ a28 ≤ 400 := ha28.tr (P := fun z => (-1) ≤ z ∧ z ≤ 400) (rd_MfaultPlace iM2 rfl)
      exact w_ret ⟨iM2, kM2, (show (-1) ≤ a28 ∧ a28 ≤ 400 from ⟨by omega, by omega⟩), trivial⟩
    · skip
      exact w_ret ⟨iM2, kM2, (show (-1) ≤ (-1) ∧ (-1) ≤ 400 from ⟨by omega, by omega⟩), trivial⟩
def W_X9_strike (b j : Int) : Prop := b = 140 ∨ (b = 126 ∧ j = 0)
theorem s_X9_strike {n : Nat} {l1 : Int} {M : Mem} (r_l1 : (-2147483648) ≤ l1 ∧ l1 ≤ 2147483647) (iM : I n M) : wp (mX9_strike 126 l1 M) (fun q => I n q.2 ∧ Keep n W_X9_strike M q.2 ∧ (0 ≤ q.1 ∧ q.1 ≤ 1) ∧ True) := by
  have hn : (169 : Int) ≤ (n : Int) := by have := iM.2.2.2.2.1; omega
  have kM : Keep n W_X9_strike M M := Keep.rf
  unfold mX9_strike
  refine w_pF (ji := 0) rfl (congrArg Prod.fst (kl_126 iM)) (fun M2 hM2 => ?_)
  replace hM2 : M2 = mS M 126 0 0 := hM2
  have iM2 : I n M2 := wr_Model_0 iM rfl ⟨by omega, by omega⟩ hM2
  have kM2 : Keep n W_X9_strike M M2 := kM.st hM2 (Or.inl (Or.inr ⟨rfl, rfl⟩))
  refine w_gFc (ji := 12) rfl (congrArg Prod.fst (kl_126 iM2)) (show mG M2 126 12 = 138 from rd_Model_12 iM2 (a := 126) rfl) ?_
  refine w_aG (kl_138 iM2) (by decide) (by decide) (fun a12 ha12 => ?_)
  have ra12 : 0 ≤ a12 ∧ a12 ≤ 8 := ha12.tr (P := fun z => 0 ≤ z ∧ z ≤ 8) (rd_Mstories iM2 rfl)
  have w1_ := wI_id (x := (a12 - 1)) (by omega) (by omega)
  refine w_call (s_X9_in ⟨by omega, by omega⟩ ⟨by omega, by omega⟩ ⟨by omega, by omega⟩ iM2) ?_
  intro v15 m15 pp15
  obtain ⟨im15, kk15, e15_0, e15_1, -⟩ := pp15
  try dsimp only
  replace im15 : I n m15 := im15
  replace kk15 : Keep n W_X9_in M2 m15 := kk15
  have km15 : Keep n W_X9_strike M m15 := kM2.tr kk15 (fun b j z => z.elim)
  replace e15_0 : 0 ≤ v15 ∧ v15 ≤ 1 := e15_0
  replace e15_1 : v15 = 1 → 0 ≤ l1 ∧ l1 ≤ (wI (a12 - 1)) := e15_1
  refine w_if (fun c2_ => ?_) (fun c2_ => ?_)
  · skip
    exact w_ret ⟨im15, km15, (show 0 ≤ 0 ∧ 0 ≤ 1 from ⟨by omega, by omega⟩), trivial⟩
  · skip
    refine w_gFc (ji := 14) rfl (congrArg Prod.fst (kl_126 im15)) (show mG m15 126 14 = 140 from rd_Model_14 im15 (a := 126) rfl) ?_
    refine w_aG (kl_140 im15) (by omega) (by omega) (fun a26 ha26 => ?_)
    have ra26 : (-1) ≤ a26 ∧ a26 ≤ 999 := ha26.tr (P := fun z => (-1) ≤ z ∧ z ≤ 999) (rd_MstruckDay im15 rfl)
    refine w_if (fun c3_ => ?_) (fun c3_ => ?_)
    · skip
      refine w_gFc (ji := 14) rfl (congrArg Prod.fst (kl_126 im15)) (show mG m15 126 14 = 140 from rd_Model_14 im15 (a := 126) rfl) ?_
      refine w_gFc (ji := 5) rfl (congrArg Prod.fst (kl_126 im15)) (show mG m15 126 5 = 131 from rd_Model_5 im15 (a := 126) rfl) ?_
      refine w_aG (kl_131 im15) (by decide) (by decide) (fun a43 ha43 => ?_)
      have ra43 : 0 ≤ a43 ∧ a43 ≤ 999 := ha43.tr (P := fun z => 0 ≤ z ∧ z ≤ 999) (rd_Mdays im15 rfl)
      refine w_aS (kl_140 im15) (by omega) (by omega) (fun M44 hM44 => ?_)
      replace hM44 : M44 = mS m15 140 l1 a43 := hM44
      have iM44 : I n M44 := wr_MstruckDay im15 rfl ⟨by omega, by omega⟩ hM44
      have kM44 : Keep n W_X9_strike M M44 := km15.st hM44 (Or.inl (Or.inl rfl))
      exact w_ret ⟨iM44, kM44, (show 0 ≤ 1 ∧ 1 ≤ 1 from ⟨by omega, by omega⟩), trivial⟩
    · skip
      exact w_ret ⟨im15, km15, (show 0 ≤ 0 ∧ 0 ≤ 1 from ⟨by omega, by omega⟩), trivial⟩
def W_X9_day (b j : Int) : Prop := b = 131 ∨ (b = 126 ∧ j = 0)
theorem s_X9_day {n : Nat} {l1 : Int} {M : Mem} (r_l1 : (-2147483648) ≤ l1 ∧ l1 ≤ 2147483647) (iM : I n M) : wp (mX9_day 126 l1 M) (fun q => I n q.2 ∧ Keep n W_X9_day M q.2 ∧ (0 ≤ q.1 ∧ q.1 ≤ 1) ∧ True) := by
  have hn : (169 : Int) ≤ (n : Int) := by have := iM.2.2.2.2.1; omega
  have kM : Keep n W_X9_day M M := Keep.rf
  unfold mX9_day
  refine w_pF (ji := 0) rfl (congrArg Prod.fst (kl_126 iM)) (fun M2 hM2 => ?_)
  replace hM2 : M2 = mS M 126 0 0 := hM2
  have iM2 : I n M2 := wr_Model_0 iM rfl ⟨by omega, by omega⟩ hM2
  have kM2 : Keep n W_X9_day M M2 := kM.st hM2 (Or.inl (Or.inr ⟨rfl, rfl⟩))
  refine w_gFc (ji := 5) rfl (congrArg Prod.fst (kl_126 iM2)) (show mG M2 126 5 = 131 from rd_Model_5 iM2 (a := 126) rfl) ?_
  refine w_aG (kl_131 iM2) (by decide) (by decide) (fun a11 ha11 => ?_)
  have ra11 : 0 ≤ a11 ∧ a11 ≤ 999 := ha11.tr (P := fun z => 0 ≤ z ∧ z ≤ 999) (rd_Mdays iM2 rfl)
  refine w_call (s_X9_in ⟨by omega, by omega⟩ ⟨by omega, by omega⟩ ⟨by omega, by omega⟩ iM2) ?_
  intro v15 m15 pp15
  obtain ⟨im15, kk15, e15_0, e15_1, -⟩ := pp15
  try dsimp only
  replace im15 : I n m15 := im15
  replace kk15 : Keep n W_X9_in M2 m15 := kk15
  have km15 : Keep n W_X9_day M m15 := kM2.tr kk15 (fun b j z => z.elim)
  replace e15_0 : 0 ≤ v15 ∧ v15 ≤ 1 := e15_0
  replace e15_1 : v15 = 1 → a11 ≤ l1 ∧ l1 ≤ 999 := e15_1
  refine w_if (fun c1_ => ?_) (fun c1_ => ?_)
  · skip
    exact w_ret ⟨im15, km15, (show 0 ≤ 0 ∧ 0 ≤ 1 from ⟨by omega, by omega⟩), trivial⟩
  · skip
    refine w_gFc (ji := 5) rfl (congrArg Prod.fst (kl_126 im15)) (show mG m15 126 5 = 131 from rd_Model_5 im15 (a := 126) rfl) ?_
    refine w_aS (kl_131 im15) (by omega) (by omega) (fun M29 hM29 => ?_)
    replace hM29 : M29 = mS m15 131 0 l1 := hM29
    have iM29 : I n M29 := wr_Mdays im15 rfl ⟨by omega, by omega⟩ hM29
    have kM29 : Keep n W_X9_day M M29 := km15.st hM29 (Or.inl (Or.inl rfl))
    exact w_ret ⟨iM29, kM29, (show 0 ≤ 1 ∧ 1 ≤ 1 from ⟨by omega, by omega⟩), trivial⟩
def W_X9_view (b j : Int) : Prop := b = 132 ∨ (b = 126 ∧ j = 0)
theorem s_X9_view {n : Nat} {l1 : Int} {M : Mem} (r_l1 : (-2147483648) ≤ l1 ∧ l1 ≤ 2147483647) (iM : I n M) : wp (mX9_view 126 l1 M) (fun q => I n q.2 ∧ Keep n W_X9_view M q.2 ∧ (0 ≤ q.1 ∧ q.1 ≤ 1) ∧ True) := by
  have hn : (169 : Int) ≤ (n : Int) := by have := iM.2.2.2.2.1; omega
  have kM : Keep n W_X9_view M M := Keep.rf
  unfold mX9_view
  refine w_pF (ji := 0) rfl (congrArg Prod.fst (kl_126 iM)) (fun M2 hM2 => ?_)
  replace hM2 : M2 = mS M 126 0 0 := hM2
  have iM2 : I n M2 := wr_Model_0 iM rfl ⟨by omega, by omega⟩ hM2
  have kM2 : Keep n W_X9_view M M2 := kM.st hM2 (Or.inl (Or.inr ⟨rfl, rfl⟩))
  refine w_gFc (ji := 5) rfl (congrArg Prod.fst (kl_126 iM2)) (show mG M2 126 5 = 131 from rd_Model_5 iM2 (a := 126) rfl) ?_
  refine w_aG (kl_131 iM2) (by decide) (by decide) (fun a12 ha12 => ?_)
  have ra12 : 0 ≤ a12 ∧ a12 ≤ 999 := ha12.tr (P := fun z => 0 ≤ z ∧ z ≤ 999) (rd_Mdays iM2 rfl)
  refine w_call (s_X9_in ⟨by omega, by omega⟩ ⟨by omega, by omega⟩ ⟨by omega, by omega⟩ iM2) ?_
  intro v13 m13 pp13
  obtain ⟨im13, kk13, e13_0, e13_1, -⟩ := pp13
  try dsimp only
  replace im13 : I n m13 := im13
  replace kk13 : Keep n W_X9_in M2 m13 := kk13
  have km13 : Keep n W_X9_view M m13 := kM2.tr kk13 (fun b j z => z.elim)
  replace e13_0 : 0 ≤ v13 ∧ v13 ≤ 1 := e13_0
  replace e13_1 : v13 = 1 → (-1) ≤ l1 ∧ l1 ≤ a12 := e13_1
  refine w_if (fun c1_ => ?_) (fun c1_ => ?_)
  · skip
    exact w_ret ⟨im13, km13, (show 0 ≤ 0 ∧ 0 ≤ 1 from ⟨by omega, by omega⟩), trivial⟩
  · skip
    refine w_gFc (ji := 6) rfl (congrArg Prod.fst (kl_126 im13)) (show mG m13 126 6 = 132 from rd_Model_6 im13 (a := 126) rfl) ?_
    refine w_aS (kl_132 im13) (by omega) (by omega) (fun M27 hM27 => ?_)
    replace hM27 : M27 = mS m13 132 0 l1 := hM27
    have iM27 : I n M27 := wr_Mviewed im13 rfl ⟨by omega, by omega⟩ hM27
    have kM27 : Keep n W_X9_view M M27 := km13.st hM27 (Or.inl (Or.inl rfl))
    exact w_ret ⟨iM27, kM27, (show 0 ≤ 1 ∧ 1 ≤ 1 from ⟨by omega, by omega⟩), trivial⟩
def W_X9_bringWorld (b j : Int) : Prop := (152 ≤ b ∧ b ≤ 154)
theorem sb_X9_bringWorld_6 {n : Nat} {Me : Mem} {k6 : Int → Int → Mem → Option (Int × Mem)} {fu6 : Nat} (hk6 : ∀ (l1 : Int) (M : Mem), (0 ≤ l1 ∧ l1 ≤ 36) → (NP M) → (SF M) → 37 - l1 < (fu6 : Int) → I n M → Keep n W_X9_bringWorld Me M → wp (k6 126 l1 M) (fun q => I n q.2 ∧ Keep n W_X9_bringWorld Me q.2 ∧ (NP q.2) ∧ (SF q.2) ∧ True)) {l1 : Int} {M : Mem} (r_l1 : 0 ≤ l1 ∧ l1 ≤ 36) (p_NP : NP M) (p_SF : SF M) (hf6 : 37 - l1 < (fu6 : Int) + 1) (iM : I n M) (kM : Keep n W_X9_bringWorld Me M) : wp (bX9_bringWorld_6 k6 126 l1 M) (fun q => I n q.2 ∧ Keep n W_X9_bringWorld Me q.2 ∧ (NP q.2) ∧ (SF q.2) ∧ True) := by
  have hn : (169 : Int) ≤ (n : Int) := by have := iM.2.2.2.2.1; omega
  unfold bX9_bringWorld_6
  refine w_if (fun c1_ => ?_) (fun c1_ => ?_)
  · skip
    exact w_ret ⟨iM, kM, p_NP, p_SF, trivial⟩
  · skip
    refine w_gFc (ji := 28) rfl (congrArg Prod.fst (kl_126 iM)) (show mG M 126 28 = 154 from rd_Model_28 iM (a := 126) rfl) ?_
    refine w_gFc (ji := 11) rfl (congrArg Prod.fst (kl_126 iM)) (show mG M 126 11 = 137 from rd_Model_11 iM (a := 126) rfl) ?_
    refine w_aG (kl_137 iM) (by omega) (by omega) (fun a22 ha22 => ?_)
    have ra22 : 0 ≤ a22 ∧ a22 ≤ 1 := ha22.tr (P := fun z => 0 ≤ z ∧ z ≤ 1) (rd_Mworld iM rfl)
    refine w_aSZ (kl_154 iM) (by omega) (by omega) (by omega) (fun M23 hM23 => ?_)
    replace hM23 : M23 = mS M 154 l1 a22 := hM23
    have iM23 : I n M23 := wr_Mis iM rfl ⟨by omega, by omega⟩ hM23
    have kM23 : Keep n W_X9_bringWorld Me M23 := kM.st hM23 (Or.inl ⟨by decide, by decide⟩)
    have w2_ := wI_id (x := (l1 + 1)) (by omega) (by omega)
    have ppNP_M23 : NP M23 := (NP_of p_NP (fun j => st_ne hM23 (fun z => ne_fam rfl rfl (by decide) z.1)))
    have ppSF_M23 : SF M23 := (SF_of p_SF (fun j => st_ne hM23 (fun z => ne_fam rfl rfl (by decide) z.1)) (fun j => st_ne hM23 (fun z => ne_fam rfl rfl (by decide) z.1)) (fun j => st_ne hM23 (fun z => ne_fam rfl rfl (by decide) z.1)) (fun j => st_ne hM23 (fun z => ne_fam rfl rfl (by decide) z.1)) (fun j => st_ne hM23 (fun z => ne_fam rfl rfl (by decide) z.1)) (fun j => st_ne hM23 (fun z => ne_fam rfl rfl (by decide) z.1)))
    exact hk6 _ _ ⟨by omega, by omega⟩ ppNP_M23 ppSF_M23 (by omega) iM23 kM23
theorem s_X9_bringWorld_6 {n : Nat} {Me : Mem} : ∀ (fu : Nat) (l1 : Int) (M : Mem), (0 ≤ l1 ∧ l1 ≤ 36) → (NP M) → (SF M) → 37 - l1 < (fu : Int) → I n M → Keep n W_X9_bringWorld Me M → wp (mX9_bringWorld_6 fu 126 l1 M) (fun q => I n q.2 ∧ Keep n W_X9_bringWorld Me q.2 ∧ (NP q.2) ∧ (SF q.2) ∧ True) := by
  intro fu
  induction fu with
  | zero =>
    intro l1 M r_l1 p_NP p_SF hf iM kM
    exfalso
    omega
  | succ fu ih =>
    intro l1 M r_l1 p_NP p_SF hf iM kM
    exact sb_X9_bringWorld_6 ih r_l1 p_NP p_SF (by have e : ((fu + 1 : Nat) : Int) = (fu : Int) + 1 := rfl; rw [e] at hf; exact hf) iM kM
theorem s_X9_bringWorld {n : Nat} {M : Mem} (iM : I n M) : wp (mX9_bringWorld 126 M) (fun q => I n q.2 ∧ Keep n W_X9_bringWorld M q.2 ∧ (NP q.2) ∧ (SF q.2) ∧ True) := by
  have hn : (169 : Int) ≤ (n : Int) := by have := iM.2.2.2.2.1; omega
  have kM : Keep n W_X9_bringWorld M M := Keep.rf
  unfold mX9_bringWorld
  refine w_gK (congrArg Prod.fst (kl_126 iM)) ?_
  refine w_call (s_X9_bringSizes iM) ?_
  intro v1 m1 pp1
  obtain ⟨im1, kk1, e1_0, e1_1, -⟩ := pp1
  try dsimp only
  replace im1 : I n m1 := im1
  replace kk1 : Keep n W_X9_bringSizes M m1 := kk1
  have km1 : Keep n W_X9_bringWorld M m1 := kM.tr kk1 (fun b j z => by unfold W_X9_bringSizes at z; exact ⟨by omega, by omega⟩)
  replace e1_0 : NP m1 := e1_0
  have gNP_m1 := e1_0
  replace e1_1 : SF m1 := e1_1
  have gSF_m1 := e1_1
  exact s_X9_bringWorld_6 FU _ _ ⟨by omega, by omega⟩ gNP_m1 gSF_m1 (by show _ < (70000 : Int); omega) im1 km1
def W_X9_join (b j : Int) : Prop := b = 160 ∨ (b = 126 ∧ j = 46)
theorem s_X9_join_183 {n : Nat} {Me : Mem} {l1 : Int} {k78 : Int → Int → Int → Int → Mem → Option (Int × Mem)} {fu78 : Nat} (hk78 : ∀ (l2 l3 l4 : Int) (M : Mem), (0 ≤ l2 ∧ l2 ≤ 12) → (81 ≤ l3 ∧ l3 ≤ 3159) → (0 ≤ l4 ∧ l4 ≤ 81) → (mG M 126 46 = mG Me 126 46 - 1 ∧ ¬ mG Me 142 l1 = 4) → (NP M) → 82 - l4 < (fu78 : Int) → I n M → Keep n W_X9_join Me M → wp (k78 126 l2 l3 l4 M) (fun q => I n q.2 ∧ Keep n W_X9_join Me q.2 ∧ ((mG Me 142 l1 = 4 ∧ mG q.2 126 46 = mG Me 126 46) ∨ (¬ mG Me 142 l1 = 4 ∧ mG q.2 126 46 = mG Me 126 46 - 1)) ∧ True)) {l2 l3 l4 s1 s2 : Int} {M : Mem} (r_l2 : 0 ≤ l2 ∧ l2 ≤ 12) (r_l3 : 81 ≤ l3 ∧ l3 ≤ 3159) (r_l4 : 0 ≤ l4 ∧ l4 ≤ 80) (r_s1 : 0 ≤ s1 ∧ s1 ≤ 3158) (r_s2 : 0 ≤ s2 ∧ s2 ≤ 1) (y0 : mG M 126 46 = mG Me 126 46 - 1 ∧ ¬ mG Me 142 l1 = 4) (p_NP : NP M) (hf78 : 82 - l4 < (fu78 : Int) + 1) (iM : I n M) (kM : Keep n W_X9_join Me M) : wp (mX9_join_183 k78 126 l2 l3 l4 160 s1 s2 M) (fun q => I n q.2 ∧ Keep n W_X9_join Me q.2 ∧ ((mG Me 142 l1 = 4 ∧ mG q.2 126 46 = mG Me 126 46) ∨ (¬ mG Me 142 l1 = 4 ∧ mG q.2 126 46 = mG Me 126 46 - 1)) ∧ True) := by
  have hn : (169 : Int) ≤ (n : Int) := by have := iM.2.2.2.2.1; omega
  obtain ⟨nh0, enh0⟩ : ∃ v, Is (mG M 126 46) v := ⟨_, rfl⟩
  have rnh0 : 0 ≤ nh0 ∧ nh0 ≤ 41 := by rw [← enh0.e]; exact rd_Model_46 iM rfl
  have qnh0 : mG M 126 46 = nh0 := enh0
  (try rw [enh0.e] at y0); (try rw [enh0.e] at hf78)
  unfold mX9_join_183
  refine w_aSZ (kl_160 iM) (by omega) (by omega) (by omega) (fun M183 hM183 => ?_)
  replace hM183 : M183 = mS M 160 s1 s2 := hM183
  have iM183 : I n M183 := wr_Mready iM rfl ⟨by omega, by omega⟩ hM183
  have kM183 : Keep n W_X9_join Me M183 := kM.st hM183 (Or.inl (Or.inl rfl))
  have w1_ := wI_id (x := (l4 + 1)) (by omega) (by omega)
  have ppNP_M183 : NP M183 := (NP_of p_NP (fun j => st_ne hM183 (fun z => ne_fam rfl rfl (by decide) z.1)))
  exact hk78 _ _ _ _ ⟨by omega, by omega⟩ ⟨by omega, by omega⟩ ⟨by omega, by omega⟩ (by (try rw [(show mG M183 126 46 = nh0 from ((st_ne hM183 (fun z => ne_fam rfl rfl (by decide) z.1)).trans (show mG M 126 46 = nh0 from enh0)))]); all_goals omega) ppNP_M183 (by omega) iM183 kM183
theorem s_X9_join_178 {n : Nat} {Me : Mem} {l1 : Int} {k78 : Int → Int → Int → Int → Mem → Option (Int × Mem)} {fu78 : Nat} (hk78 : ∀ (l2 l3 l4 : Int) (M : Mem), (0 ≤ l2 ∧ l2 ≤ 12) → (81 ≤ l3 ∧ l3 ≤ 3159) → (0 ≤ l4 ∧ l4 ≤ 81) → (mG M 126 46 = mG Me 126 46 - 1 ∧ ¬ mG Me 142 l1 = 4) → (NP M) → 82 - l4 < (fu78 : Int) → I n M → Keep n W_X9_join Me M → wp (k78 126 l2 l3 l4 M) (fun q => I n q.2 ∧ Keep n W_X9_join Me q.2 ∧ ((mG Me 142 l1 = 4 ∧ mG q.2 126 46 = mG Me 126 46) ∨ (¬ mG Me 142 l1 = 4 ∧ mG q.2 126 46 = mG Me 126 46 - 1)) ∧ True)) {l2 l3 l4 s1 : Int} {M : Mem} (r_l2 : 0 ≤ l2 ∧ l2 ≤ 12) (r_l3 : 81 ≤ l3 ∧ l3 ≤ 3159) (r_l4 : 0 ≤ l4 ∧ l4 ≤ 80) (r_s1 : 0 ≤ s1 ∧ s1 ≤ 3158) (y0 : mG M 126 46 = mG Me 126 46 - 1 ∧ ¬ mG Me 142 l1 = 4) (p_NP : NP M) (hf78 : 82 - l4 < (fu78 : Int) + 1) (iM : I n M) (kM : Keep n W_X9_join Me M) : wp (mX9_join_178 k78 126 l2 l3 l4 160 s1 M) (fun q => I n q.2 ∧ Keep n W_X9_join Me q.2 ∧ ((mG Me 142 l1 = 4 ∧ mG q.2 126 46 = mG Me 126 46) ∨ (¬ mG Me 142 l1 = 4 ∧ mG q.2 126 46 = mG Me 126 46 - 1)) ∧ True) := by
  have hn : (169 : Int) ≤ (n : Int) := by have := iM.2.2.2.2.1; omega
  obtain ⟨nh0, enh0⟩ : ∃ v, Is (mG M 126 46) v := ⟨_, rfl⟩
  have rnh0 : 0 ≤ nh0 ∧ nh0 ≤ 41 := by rw [← enh0.e]; exact rd_Model_46 iM rfl
  have qnh0 : mG M 126 46 = nh0 := enh0
  (try rw [enh0.e] at y0); (try rw [enh0.e] at hf78)
  unfold mX9_join_178
  exact s_X9_join_183 hk78 ⟨by omega, by omega⟩ ⟨by omega, by omega⟩ ⟨by omega, by omega⟩ ⟨by omega, by omega⟩ ⟨by omega, by omega⟩ (by (try rw [(show mG M 126 46 = nh0 from (show mG M 126 46 = nh0 from enh0))]); all_goals omega) p_NP (by omega) iM kM
theorem s_X9_join_160 {n : Nat} {Me : Mem} {l1 : Int} {k78 : Int → Int → Int → Int → Mem → Option (Int × Mem)} {fu78 : Nat} (hk78 : ∀ (l2 l3 l4 : Int) (M : Mem), (0 ≤ l2 ∧ l2 ≤ 12) → (81 ≤ l3 ∧ l3 ≤ 3159) → (0 ≤ l4 ∧ l4 ≤ 81) → (mG M 126 46 = mG Me 126 46 - 1 ∧ ¬ mG Me 142 l1 = 4) → (NP M) → 82 - l4 < (fu78 : Int) → I n M → Keep n W_X9_join Me M → wp (k78 126 l2 l3 l4 M) (fun q => I n q.2 ∧ Keep n W_X9_join Me q.2 ∧ ((mG Me 142 l1 = 4 ∧ mG q.2 126 46 = mG Me 126 46) ∨ (¬ mG Me 142 l1 = 4 ∧ mG q.2 126 46 = mG Me 126 46 - 1)) ∧ True)) {l2 l3 l4 s1 : Int} {M : Mem} (r_l2 : 6 ≤ l2 ∧ l2 ≤ 6) (r_l3 : 81 ≤ l3 ∧ l3 ≤ 3159) (r_l4 : 0 ≤ l4 ∧ l4 ≤ 80) (r_s1 : 0 ≤ s1 ∧ s1 ≤ 3158) (y0 : mG M 126 46 = mG Me 126 46 - 1 ∧ ¬ mG Me 142 l1 = 4) (p_NP : NP M) (hf78 : 82 - l4 < (fu78 : Int) + 1) (iM : I n M) (kM : Keep n W_X9_join Me M) : wp (mX9_join_160 k78 126 l2 l3 l4 160 s1 M) (fun q => I n q.2 ∧ Keep n W_X9_join Me q.2 ∧ ((mG Me 142 l1 = 4 ∧ mG q.2 126 46 = mG Me 126 46) ∨ (¬ mG Me 142 l1 = 4 ∧ mG q.2 126 46 = mG Me 126 46 - 1)) ∧ True) := by
  have hn : (169 : Int) ≤ (n : Int) := by have := iM.2.2.2.2.1; omega
  obtain ⟨nh0, enh0⟩ : ∃ v, Is (mG M 126 46) v := ⟨_, rfl⟩
  have rnh0 : 0 ≤ nh0 ∧ nh0 ≤ 41 := by rw [← enh0.e]; exact rd_Model_46 iM rfl
  have qnh0 : mG M 126 46 = nh0 := enh0
  (try rw [enh0.e] at y0); (try rw [enh0.e] at hf78)
  unfold mX9_join_160
  exact s_X9_join_183 hk78 ⟨by omega, by omega⟩ ⟨by omega, by omega⟩ ⟨by omega, by omega⟩ ⟨by omega, by omega⟩ ⟨by omega, by omega⟩ (by (try rw [(show mG M 126 46 = nh0 from (show mG M 126 46 = nh0 from enh0))]); all_goals omega) p_NP (by omega) iM kM
theorem s_X9_join_140 {n : Nat} {Me : Mem} {l1 : Int} {k78 : Int → Int → Int → Int → Mem → Option (Int × Mem)} {fu78 : Nat} (hk78 : ∀ (l2 l3 l4 : Int) (M : Mem), (0 ≤ l2 ∧ l2 ≤ 12) → (81 ≤ l3 ∧ l3 ≤ 3159) → (0 ≤ l4 ∧ l4 ≤ 81) → (mG M 126 46 = mG Me 126 46 - 1 ∧ ¬ mG Me 142 l1 = 4) → (NP M) → 82 - l4 < (fu78 : Int) → I n M → Keep n W_X9_join Me M → wp (k78 126 l2 l3 l4 M) (fun q => I n q.2 ∧ Keep n W_X9_join Me q.2 ∧ ((mG Me 142 l1 = 4 ∧ mG q.2 126 46 = mG Me 126 46) ∨ (¬ mG Me 142 l1 = 4 ∧ mG q.2 126 46 = mG Me 126 46 - 1)) ∧ True)) {l2 l3 l4 s1 : Int} {M : Mem} (r_l2 : 5 ≤ l2 ∧ l2 ≤ 5) (r_l3 : 81 ≤ l3 ∧ l3 ≤ 3159) (r_l4 : 0 ≤ l4 ∧ l4 ≤ 80) (r_s1 : 0 ≤ s1 ∧ s1 ≤ 3158) (y0 : mG M 126 46 = mG Me 126 46 - 1 ∧ ¬ mG Me 142 l1 = 4) (p_NP : NP M) (hf78 : 82 - l4 < (fu78 : Int) + 1) (iM : I n M) (kM : Keep n W_X9_join Me M) : wp (mX9_join_140 k78 126 l2 l3 l4 160 s1 M) (fun q => I n q.2 ∧ Keep n W_X9_join Me q.2 ∧ ((mG Me 142 l1 = 4 ∧ mG q.2 126 46 = mG Me 126 46) ∨ (¬ mG Me 142 l1 = 4 ∧ mG q.2 126 46 = mG Me 126 46 - 1)) ∧ True) := by
  have hn : (169 : Int) ≤ (n : Int) := by have := iM.2.2.2.2.1; omega
  obtain ⟨nh0, enh0⟩ : ∃ v, Is (mG M 126 46) v := ⟨_, rfl⟩
  have rnh0 : 0 ≤ nh0 ∧ nh0 ≤ 41 := by rw [← enh0.e]; exact rd_Model_46 iM rfl
  have qnh0 : mG M 126 46 = nh0 := enh0
  (try rw [enh0.e] at y0); (try rw [enh0.e] at hf78)
  unfold mX9_join_140
  exact s_X9_join_183 hk78 ⟨by omega, by omega⟩ ⟨by omega, by omega⟩ ⟨by omega, by omega⟩ ⟨by omega, by omega⟩ ⟨by omega, by omega⟩ (by (try rw [(show mG M 126 46 = nh0 from (show mG M 126 46 = nh0 from enh0))]); all_goals omega) p_NP (by omega) iM kM
theorem sb_X9_join_78 {n : Nat} {Me : Mem} {l1 : Int} {k78 : Int → Int → Int → Int → Mem → Option (Int × Mem)} {fu78 : Nat} (hk78 : ∀ (l2 l3 l4 : Int) (M : Mem), (0 ≤ l2 ∧ l2 ≤ 12) → (81 ≤ l3 ∧ l3 ≤ 3159) → (0 ≤ l4 ∧ l4 ≤ 81) → (mG M 126 46 = mG Me 126 46 - 1 ∧ ¬ mG Me 142 l1 = 4) → (NP M) → 82 - l4 < (fu78 : Int) → I n M → Keep n W_X9_join Me M → wp (k78 126 l2 l3 l4 M) (fun q => I n q.2 ∧ Keep n W_X9_join Me q.2 ∧ ((mG Me 142 l1 = 4 ∧ mG q.2 126 46 = mG Me 126 46) ∨ (¬ mG Me 142 l1 = 4 ∧ mG q.2 126 46 = mG Me 126 46 - 1)) ∧ True)) {l2 l3 l4 : Int} {M : Mem} (r_l2 : 0 ≤ l2 ∧ l2 ≤ 12) (r_l3 : 81 ≤ l3 ∧ l3 ≤ 3159) (r_l4 : 0 ≤ l4 ∧ l4 ≤ 81) (y0 : mG M 126 46 = mG Me 126 46 - 1 ∧ ¬ mG Me 142 l1 = 4) (p_NP : NP M) (hf78 : 82 - l4 < (fu78 : Int) + 1) (iM : I n M) (kM : Keep n W_X9_join Me M) : wp (bX9_join_78 k78 126 l2 l3 l4 M) (fun q => I n q.2 ∧ Keep n W_X9_join Me q.2 ∧ ((mG Me 142 l1 = 4 ∧ mG q.2 126 46 = mG Me 126 46) ∨ (¬ mG Me 142 l1 = 4 ∧ mG q.2 126 46 = mG Me 126 46 - 1)) ∧ True) := by
  have hn : (169 : Int) ≤ (n : Int) := by have := iM.2.2.2.2.1; omega
  obtain ⟨nh0, enh0⟩ : ∃ v, Is (mG M 126 46) v := ⟨_, rfl⟩
  have rnh0 : 0 ≤ nh0 ∧ nh0 ≤ 41 := by rw [← enh0.e]; exact rd_Model_46 iM rfl
  have qnh0 : mG M 126 46 = nh0 := enh0
  (try rw [enh0.e] at y0); (try rw [enh0.e] at hf78)
  unfold bX9_join_78
  refine w_if (fun c1_ => ?_) (fun c1_ => ?_)
  · skip
    exact w_ret ⟨iM, kM, (show (mG Me 142 l1 = 4 ∧ mG M 126 46 = mG Me 126 46) ∨ (¬ mG Me 142 l1 = 4 ∧ mG M 126 46 = mG Me 126 46 - 1) from (by (try rw [(show mG M 126 46 = nh0 from (show mG M 126 46 = nh0 from enh0))]); all_goals omega)), trivial⟩
  · skip
    refine w_gFc (ji := 45) rfl (congrArg Prod.fst (kl_126 iM)) (show mG M 126 45 = 160 from rd_Model_45 iM (a := 126) rfl) ?_
    have w2_ := wI_id (x := (l3 + l4)) (by omega) (by omega)
    refine w_aG (kl_160 iM) (by omega) (by omega) (fun a93 ha93 => ?_)
    have ra93 : 0 ≤ a93 ∧ a93 ≤ 1 := ha93.tr (P := fun z => 0 ≤ z ∧ z ≤ 1) (rd_Mready iM rfl)
    refine w_gFc (ji := 45) rfl (congrArg Prod.fst (kl_126 iM)) (show mG M 126 45 = 160 from rd_Model_45 iM (a := 126) rfl) ?_
    have w3_ := wI_id (x := (l3 - 81)) (by omega) (by omega)
    have w4_ := wI_id (x := ((wI (l3 - 81)) + l4)) (by omega) (by omega)
    refine w_aG (kl_160 iM) (by omega) (by omega) (fun a107 ha107 => ?_)
    have ra107 : 0 ≤ a107 ∧ a107 ≤ 1 := ha107.tr (P := fun z => 0 ≤ z ∧ z ≤ 1) (rd_Mready iM rfl)
    refine w_gFc (ji := 45) rfl (congrArg Prod.fst (kl_126 iM)) (show mG M 126 45 = 160 from rd_Model_45 iM (a := 126) rfl) ?_
    refine w_if (fun c5_ => ?_) (fun c5_ => ?_)
    · skip
      refine w_if (fun c6_ => ?_) (fun c6_ => ?_)
      · skip
        exact s_X9_join_140 hk78 ⟨by omega, by omega⟩ ⟨by omega, by omega⟩ ⟨by omega, by omega⟩ ⟨by omega, by omega⟩ (by (try rw [(show mG M 126 46 = nh0 from (show mG M 126 46 = nh0 from enh0))]); all_goals omega) p_NP (by omega) iM kM
      · skip
        refine w_if (fun c7_ => ?_) (fun c7_ => ?_)
        · skip
          exact s_X9_join_140 hk78 ⟨by omega, by omega⟩ ⟨by omega, by omega⟩ ⟨by omega, by omega⟩ ⟨by omega, by omega⟩ (by (try rw [(show mG M 126 46 = nh0 from (show mG M 126 46 = nh0 from enh0))]); all_goals omega) p_NP (by omega) iM kM
        · skip
          exact s_X9_join_183 hk78 ⟨by omega, by omega⟩ ⟨by omega, by omega⟩ ⟨by omega, by omega⟩ ⟨by omega, by omega⟩ ⟨by omega, by omega⟩ (by (try rw [(show mG M 126 46 = nh0 from (show mG M 126 46 = nh0 from enh0))]); all_goals omega) p_NP (by omega) iM kM
    · skip
      refine w_if (fun c8_ => ?_) (fun c8_ => ?_)
      · skip
        refine w_if (fun c9_ => ?_) (fun c9_ => ?_)
        · skip
          refine w_if (fun c10_ => ?_) (fun c10_ => ?_)
          · skip
            exact s_X9_join_183 hk78 ⟨by omega, by omega⟩ ⟨by omega, by omega⟩ ⟨by omega, by omega⟩ ⟨by omega, by omega⟩ ⟨by omega, by omega⟩ (by (try rw [(show mG M 126 46 = nh0 from (show mG M 126 46 = nh0 from enh0))]); all_goals omega) p_NP (by omega) iM kM
          · skip
            exact s_X9_join_160 hk78 ⟨by omega, by omega⟩ ⟨by omega, by omega⟩ ⟨by omega, by omega⟩ ⟨by omega, by omega⟩ (by (try rw [(show mG M 126 46 = nh0 from (show mG M 126 46 = nh0 from enh0))]); all_goals omega) p_NP (by omega) iM kM
        · skip
          exact s_X9_join_160 hk78 ⟨by omega, by omega⟩ ⟨by omega, by omega⟩ ⟨by omega, by omega⟩ ⟨by omega, by omega⟩ (by (try rw [(show mG M 126 46 = nh0 from (show mG M 126 46 = nh0 from enh0))]); all_goals omega) p_NP (by omega) iM kM
      · skip
        refine w_if (fun c11_ => ?_) (fun c11_ => ?_)
        · skip
          exact s_X9_join_178 hk78 ⟨by omega, by omega⟩ ⟨by omega, by omega⟩ ⟨by omega, by omega⟩ ⟨by omega, by omega⟩ (by (try rw [(show mG M 126 46 = nh0 from (show mG M 126 46 = nh0 from enh0))]); all_goals omega) p_NP (by omega) iM kM
        · skip
          refine w_if (fun c12_ => ?_) (fun c12_ => ?_)
          · skip
            exact s_X9_join_183 hk78 ⟨by omega, by omega⟩ ⟨by omega, by omega⟩ ⟨by omega, by omega⟩ ⟨by omega, by omega⟩ ⟨by omega, by omega⟩ (by (try rw [(show mG M 126 46 = nh0 from (show mG M 126 46 = nh0 from enh0))]); all_goals omega) p_NP (by omega) iM kM
          · skip
            exact s_X9_join_178 hk78 ⟨by omega, by omega⟩ ⟨by omega, by omega⟩ ⟨by omega, by omega⟩ ⟨by omega, by omega⟩ (by (try rw [(show mG M 126 46 = nh0 from (show mG M 126 46 = nh0 from enh0))]); all_goals omega) p_NP (by omega) iM kM
theorem s_X9_join_78 {n : Nat} {Me : Mem} {l1 : Int} : ∀ (fu : Nat) (l2 l3 l4 : Int) (M : Mem), (0 ≤ l2 ∧ l2 ≤ 12) → (81 ≤ l3 ∧ l3 ≤ 3159) → (0 ≤ l4 ∧ l4 ≤ 81) → (mG M 126 46 = mG Me 126 46 - 1 ∧ ¬ mG Me 142 l1 = 4) → (NP M) → 82 - l4 < (fu : Int) → I n M → Keep n W_X9_join Me M → wp (mX9_join_78 fu 126 l2 l3 l4 M) (fun q => I n q.2 ∧ Keep n W_X9_join Me q.2 ∧ ((mG Me 142 l1 = 4 ∧ mG q.2 126 46 = mG Me 126 46) ∨ (¬ mG Me 142 l1 = 4 ∧ mG q.2 126 46 = mG Me 126 46 - 1)) ∧ True) := by
  intro fu
  induction fu with
  | zero =>
    intro l2 l3 l4 M r_l2 r_l3 r_l4 y0 p_NP hf iM kM
    exfalso
    omega
  | succ fu ih =>
    intro l2 l3 l4 M r_l2 r_l3 r_l4 y0 p_NP hf iM kM
    exact sb_X9_join_78 ih r_l2 r_l3 r_l4 y0 p_NP (by have e : ((fu + 1 : Nat) : Int) = (fu : Int) + 1 := rfl; rw [e] at hf; exact hf) iM kM
theorem s_X9_join_57 {n : Nat} {Me : Mem} {l1 : Int} {k25 : Int → Int → Int → Mem → Option (Int × Mem)} {fu25 : Nat} (hk25 : ∀ (l3 l4 : Int) (M : Mem), (0 ≤ l3 ∧ l3 ≤ 3159) → (0 ≤ l4 ∧ l4 ≤ 81) → (mG M 126 46 = mG Me 126 46 ∧ mG Me 142 l1 = 4) → (NP M) → 82 - l4 < (fu25 : Int) → I n M → Keep n W_X9_join Me M → wp (k25 126 l3 l4 M) (fun q => I n q.2 ∧ Keep n W_X9_join Me q.2 ∧ ((mG Me 142 l1 = 4 ∧ mG q.2 126 46 = mG Me 126 46) ∨ (¬ mG Me 142 l1 = 4 ∧ mG q.2 126 46 = mG Me 126 46 - 1)) ∧ True)) {l3 l4 s1 s2 : Int} {M : Mem} (r_l3 : 0 ≤ l3 ∧ l3 ≤ 3159) (r_l4 : 0 ≤ l4 ∧ l4 ≤ 80) (r_s1 : 0 ≤ s1 ∧ s1 ≤ 3239) (r_s2 : 0 ≤ s2 ∧ s2 ≤ 1) (y0 : mG M 126 46 = mG Me 126 46 ∧ mG Me 142 l1 = 4) (p_NP : NP M) (hf25 : 82 - l4 < (fu25 : Int) + 1) (iM : I n M) (kM : Keep n W_X9_join Me M) : wp (mX9_join_57 k25 126 l3 l4 160 s1 s2 M) (fun q => I n q.2 ∧ Keep n W_X9_join Me q.2 ∧ ((mG Me 142 l1 = 4 ∧ mG q.2 126 46 = mG Me 126 46) ∨ (¬ mG Me 142 l1 = 4 ∧ mG q.2 126 46 = mG Me 126 46 - 1)) ∧ True) := by
  have hn : (169 : Int) ≤ (n : Int) := by have := iM.2.2.2.2.1; omega
  obtain ⟨nh0, enh0⟩ : ∃ v, Is (mG M 126 46) v := ⟨_, rfl⟩
  have rnh0 : 0 ≤ nh0 ∧ nh0 ≤ 41 := by rw [← enh0.e]; exact rd_Model_46 iM rfl
  have qnh0 : mG M 126 46 = nh0 := enh0
  (try rw [enh0.e] at y0); (try rw [enh0.e] at hf25)
  unfold mX9_join_57
  refine w_aSZ (kl_160 iM) (by omega) (by omega) (by omega) (fun M57 hM57 => ?_)
  replace hM57 : M57 = mS M 160 s1 s2 := hM57
  have iM57 : I n M57 := wr_Mready iM rfl ⟨by omega, by omega⟩ hM57
  have kM57 : Keep n W_X9_join Me M57 := kM.st hM57 (Or.inl (Or.inl rfl))
  have w1_ := wI_id (x := (l4 + 1)) (by omega) (by omega)
  have ppNP_M57 : NP M57 := (NP_of p_NP (fun j => st_ne hM57 (fun z => ne_fam rfl rfl (by decide) z.1)))
  exact hk25 _ _ _ ⟨by omega, by omega⟩ ⟨by omega, by omega⟩ (by (try rw [(show mG M57 126 46 = nh0 from ((st_ne hM57 (fun z => ne_fam rfl rfl (by decide) z.1)).trans (show mG M 126 46 = nh0 from enh0)))]); all_goals omega) ppNP_M57 (by omega) iM57 kM57
theorem sb_X9_join_25 {n : Nat} {Me : Mem} {l1 : Int} {k25 : Int → Int → Int → Mem → Option (Int × Mem)} {fu25 : Nat} (hk25 : ∀ (l3 l4 : Int) (M : Mem), (0 ≤ l3 ∧ l3 ≤ 3159) → (0 ≤ l4 ∧ l4 ≤ 81) → (mG M 126 46 = mG Me 126 46 ∧ mG Me 142 l1 = 4) → (NP M) → 82 - l4 < (fu25 : Int) → I n M → Keep n W_X9_join Me M → wp (k25 126 l3 l4 M) (fun q => I n q.2 ∧ Keep n W_X9_join Me q.2 ∧ ((mG Me 142 l1 = 4 ∧ mG q.2 126 46 = mG Me 126 46) ∨ (¬ mG Me 142 l1 = 4 ∧ mG q.2 126 46 = mG Me 126 46 - 1)) ∧ True)) {l3 l4 : Int} {M : Mem} (r_l3 : 0 ≤ l3 ∧ l3 ≤ 3159) (r_l4 : 0 ≤ l4 ∧ l4 ≤ 81) (y0 : mG M 126 46 = mG Me 126 46 ∧ mG Me 142 l1 = 4) (p_NP : NP M) (hf25 : 82 - l4 < (fu25 : Int) + 1) (iM : I n M) (kM : Keep n W_X9_join Me M) : wp (bX9_join_25 k25 126 l3 l4 M) (fun q => I n q.2 ∧ Keep n W_X9_join Me q.2 ∧ ((mG Me 142 l1 = 4 ∧ mG q.2 126 46 = mG Me 126 46) ∨ (¬ mG Me 142 l1 = 4 ∧ mG q.2 126 46 = mG Me 126 46 - 1)) ∧ True) := by
  have hn : (169 : Int) ≤ (n : Int) := by have := iM.2.2.2.2.1; omega
  obtain ⟨nh0, enh0⟩ : ∃ v, Is (mG M 126 46) v := ⟨_, rfl⟩
  have rnh0 : 0 ≤ nh0 ∧ nh0 ≤ 41 := by rw [← enh0.e]; exact rd_Model_46 iM rfl
  have qnh0 : mG M 126 46 = nh0 := enh0
  (try rw [enh0.e] at y0); (try rw [enh0.e] at hf25)
  unfold bX9_join_25
  refine w_if (fun c1_ => ?_) (fun c1_ => ?_)
  · skip
    exact w_ret ⟨iM, kM, (show (mG Me 142 l1 = 4 ∧ mG M 126 46 = mG Me 126 46) ∨ (¬ mG Me 142 l1 = 4 ∧ mG M 126 46 = mG Me 126 46 - 1) from (by (try rw [(show mG M 126 46 = nh0 from (show mG M 126 46 = nh0 from enh0))]); all_goals omega)), trivial⟩
  · skip
    refine w_gFc (ji := 45) rfl (congrArg Prod.fst (kl_126 iM)) (show mG M 126 45 = 160 from rd_Model_45 iM (a := 126) rfl) ?_
    refine w_gFc (ji := 45) rfl (congrArg Prod.fst (kl_126 iM)) (show mG M 126 45 = 160 from rd_Model_45 iM (a := 126) rfl) ?_
    have w2_ := wI_id (x := (l3 + l4)) (by omega) (by omega)
    refine w_aG (kl_160 iM) (by omega) (by omega) (fun a48 ha48 => ?_)
    have ra48 : 0 ≤ a48 ∧ a48 ≤ 1 := ha48.tr (P := fun z => 0 ≤ z ∧ z ≤ 1) (rd_Mready iM rfl)
    refine w_if (fun c3_ => ?_) (fun c3_ => ?_)
    · skip
      exact s_X9_join_57 hk25 ⟨by omega, by omega⟩ ⟨by omega, by omega⟩ ⟨by omega, by omega⟩ ⟨by omega, by omega⟩ (by (try rw [(show mG M 126 46 = nh0 from (show mG M 126 46 = nh0 from enh0))]); all_goals omega) p_NP (by omega) iM kM
    · skip
      exact s_X9_join_57 hk25 ⟨by omega, by omega⟩ ⟨by omega, by omega⟩ ⟨by omega, by omega⟩ ⟨by omega, by omega⟩ (by (try rw [(show mG M 126 46 = nh0 from (show mG M 126 46 = nh0 from enh0))]); all_goals omega) p_NP (by omega) iM kM
theorem s_X9_join_25 {n : Nat} {Me : Mem} {l1 : Int} : ∀ (fu : Nat) (l3 l4 : Int) (M : Mem), (0 ≤ l3 ∧ l3 ≤ 3159) → (0 ≤ l4 ∧ l4 ≤ 81) → (mG M 126 46 = mG Me 126 46 ∧ mG Me 142 l1 = 4) → (NP M) → 82 - l4 < (fu : Int) → I n M → Keep n W_X9_join Me M → wp (mX9_join_25 fu 126 l3 l4 M) (fun q => I n q.2 ∧ Keep n W_X9_join Me q.2 ∧ ((mG Me 142 l1 = 4 ∧ mG q.2 126 46 = mG Me 126 46) ∨ (¬ mG Me 142 l1 = 4 ∧ mG q.2 126 46 = mG Me 126 46 - 1)) ∧ True) := by
  intro fu
  induction fu with
  | zero =>
    intro l3 l4 M r_l3 r_l4 y0 p_NP hf iM kM
    exfalso
    omega
  | succ fu ih =>
    intro l3 l4 M r_l3 r_l4 y0 p_NP hf iM kM
    exact sb_X9_join_25 ih r_l3 r_l4 y0 p_NP (by have e : ((fu + 1 : Nat) : Int) = (fu : Int) + 1 := rfl; rw [e] at hf; exact hf) iM kM
theorem s_X9_join {n : Nat} {l1 : Int} {M : Mem} (r_l1 : 0 ≤ l1 ∧ l1 ≤ 359) (y0 : 4 ≤ mG M 142 l1 ∧ mG M 142 l1 ≤ 7) (y1 : mG M 126 46 ≤ 40 ∧ 1 ≤ mG M 126 46 ∧ (mG M 142 l1 = 4 ∨ 2 ≤ mG M 126 46)) (p_NP : NP M) (iM : I n M) : wp (mX9_join 126 l1 M) (fun q => I n q.2 ∧ Keep n W_X9_join M q.2 ∧ ((mG M 142 l1 = 4 ∧ mG q.2 126 46 = mG M 126 46) ∨ (¬ mG M 142 l1 = 4 ∧ mG q.2 126 46 = mG M 126 46 - 1)) ∧ True) := by
  have hn : (169 : Int) ≤ (n : Int) := by have := iM.2.2.2.2.1; omega
  have kM : Keep n W_X9_join M M := Keep.rf
  obtain ⟨nh0, enh0⟩ : ∃ v, Is (mG M 142 l1) v := ⟨_, rfl⟩
  have rnh0 : 0 ≤ nh0 ∧ nh0 ≤ 12 := by rw [← enh0.e]; exact rd_Mact iM rfl
  have qnh0 : mG M 142 l1 = nh0 := enh0
  (try rw [enh0.e] at y0); (try rw [enh0.e] at y1)
  obtain ⟨nh1, enh1⟩ : ∃ v, Is (mG M 126 46) v := ⟨_, rfl⟩
  have rnh1 : 0 ≤ nh1 ∧ nh1 ≤ 41 := by rw [← enh1.e]; exact rd_Model_46 iM rfl
  have qnh1 : mG M 126 46 = nh1 := enh1
  (try rw [enh1.e] at y0); (try rw [enh1.e] at y1)
  unfold mX9_join
  refine w_gFc (ji := 16) rfl (congrArg Prod.fst (kl_126 iM)) (show mG M 126 16 = 142 from rd_Model_16 iM (a := 126) rfl) ?_
  refine w_aGc (kl_142 iM) (by omega) (by omega) (show mG M 142 l1 = nh0 from (show mG M 142 l1 = nh0 from enh0)) ?_
  refine w_gFc (ji := 46) rfl (congrArg Prod.fst (kl_126 iM)) (show mG M 126 46 = nh1 from (show mG M 126 46 = nh1 from enh1)) ?_
  have w1_ := wI_id (x := (nh1 - 1)) (by omega) (by omega)
  have w2_ := wI_id (x := (81 * (wI (nh1 - 1)))) (by omega) (by omega)
  refine w_some (fun b16 hb16 => ?_)
  replace hb16 : b16 = (wI (81 * (wI (nh1 - 1)))) := hb16
  refine w_if (fun c3_ => ?_) (fun c3_ => ?_)
  · skip
    exact s_X9_join_25 FU _ _ _ ⟨by omega, by omega⟩ ⟨by omega, by omega⟩ (by (try rw [(show mG M 126 46 = nh1 from (show mG M 126 46 = nh1 from enh1))]); all_goals omega) p_NP (by show _ < (70000 : Int); omega) iM kM
  · skip
    refine w_gFc (ji := 46) rfl (congrArg Prod.fst (kl_126 iM)) (show mG M 126 46 = nh1 from (show mG M 126 46 = nh1 from enh1)) ?_
    refine w_pF (ji := 46) rfl (congrArg Prod.fst (kl_126 iM)) (fun M72 hM72 => ?_)
    replace hM72 : M72 = mS M 126 46 (wI (nh1 - 1)) := hM72
    have iM72 : I n M72 := wr_Model_46 iM rfl ⟨by omega, by omega⟩ hM72
    have kM72 : Keep n W_X9_join M M72 := kM.st hM72 (Or.inl (Or.inr ⟨rfl, rfl⟩))
    obtain ⟨svM72, esvM72⟩ : ∃ z, z = (wI (nh1 - 1)) := ⟨_, rfl⟩
    have ppNP_M72 : NP M72 := (NP_of p_NP (fun j => st_ne hM72 (fun z => ne_fam rfl rfl (by decide) z.1)))
    exact s_X9_join_78 FU _ _ _ _ ⟨by omega, by omega⟩ ⟨by omega, by omega⟩ ⟨by omega, by omega⟩ (by (try rw [(show mG M72 126 46 = svM72 from (show mG M72 126 46 = svM72 from ((st_eq hM72).trans esvM72.symm)))]); all_goals omega) ppNP_M72 (by show _ < (70000 : Int); omega) iM72 kM72
def W_X9_unit (b j : Int) : Prop := False
theorem s_X9_unit {n : Nat} {l0 : Int} {M : Mem} (r_l0 : (-2147483648) ≤ l0 ∧ l0 ≤ 2147483647) (iM : I n M) : wp (mX9_unit l0 M) (fun q => I n q.2 ∧ Keep n W_X9_unit M q.2 ∧ (1 ≤ q.1 ∧ q.1 ≤ 27) ∧ True) := by
  have hn : (169 : Int) ≤ (n : Int) := by have := iM.2.2.2.2.1; omega
  have kM : Keep n W_X9_unit M M := Keep.rf
  unfold mX9_unit
  refine w_if (fun c1_ => ?_) (fun c1_ => ?_)
  · skip
    exact w_ret ⟨iM, kM, (show 1 ≤ 1 ∧ 1 ≤ 27 from ⟨by omega, by omega⟩), trivial⟩
  · skip
    refine w_if (fun c2_ => ?_) (fun c2_ => ?_)
    · skip
      exact w_ret ⟨iM, kM, (show 1 ≤ 3 ∧ 3 ≤ 27 from ⟨by omega, by omega⟩), trivial⟩
    · skip
      refine w_if (fun c3_ => ?_) (fun c3_ => ?_)
      · skip
        exact w_ret ⟨iM, kM, (show 1 ≤ 9 ∧ 9 ≤ 27 from ⟨by omega, by omega⟩), trivial⟩
      · skip
        exact w_ret ⟨iM, kM, (show 1 ≤ 27 ∧ 27 ≤ 27 from ⟨by omega, by omega⟩), trivial⟩
def W_X9_bind (b j : Int) : Prop := b = 160
theorem s_X9_bind_226 {n : Nat} {Me : Mem} {k36 : Int → Int → Int → Int → Int → Int → Mem → Option (Int × Mem)} {fu36 : Nat} (hk36 : ∀ (l1 l2 l3 l4 l5 : Int) (M : Mem), (0 ≤ l1 ∧ l1 ≤ 359) → (1 ≤ l2 ∧ l2 ≤ 27) → (1 ≤ l3 ∧ l3 ≤ 3) → (0 ≤ l4 ∧ l4 ≤ 3159) → (0 ≤ l5 ∧ l5 ≤ 81) → (NP M) → 82 - l5 < (fu36 : Int) → I n M → Keep n W_X9_bind Me M → wp (k36 126 l1 l2 l3 l4 l5 M) (fun q => I n q.2 ∧ Keep n W_X9_bind Me q.2 ∧ True)) {l1 l2 l3 l4 l5 : Int} {M : Mem} (r_l1 : 0 ≤ l1 ∧ l1 ≤ 359) (r_l2 : 1 ≤ l2 ∧ l2 ≤ 27) (r_l3 : 1 ≤ l3 ∧ l3 ≤ 3) (r_l4 : 0 ≤ l4 ∧ l4 ≤ 3159) (r_l5 : 0 ≤ l5 ∧ l5 ≤ 80) (p_NP : NP M) (hf36 : 82 - l5 < (fu36 : Int) + 1) (iM : I n M) (kM : Keep n W_X9_bind Me M) : wp (mX9_bind_226 k36 126 l1 l2 l3 l4 l5 M) (fun q => I n q.2 ∧ Keep n W_X9_bind Me q.2 ∧ True) := by
  have hn : (169 : Int) ≤ (n : Int) := by have := iM.2.2.2.2.1; omega
  unfold mX9_bind_226
  have w1_ := wI_id (x := (l5 + 1)) (by omega) (by omega)
  exact hk36 _ _ _ _ _ _ ⟨by omega, by omega⟩ ⟨by omega, by omega⟩ ⟨by omega, by omega⟩ ⟨by omega, by omega⟩ ⟨by omega, by omega⟩ p_NP (by omega) iM kM
theorem sb_X9_bind_197 {n : Nat} {Me : Mem} {k36 : Int → Int → Int → Int → Int → Int → Mem → Option (Int × Mem)} {fu36 : Nat} (hk36 : ∀ (l1 l2 l3 l4 l5 : Int) (M : Mem), (0 ≤ l1 ∧ l1 ≤ 359) → (1 ≤ l2 ∧ l2 ≤ 27) → (1 ≤ l3 ∧ l3 ≤ 3) → (0 ≤ l4 ∧ l4 ≤ 3159) → (0 ≤ l5 ∧ l5 ≤ 81) → (NP M) → 82 - l5 < (fu36 : Int) → I n M → Keep n W_X9_bind Me M → wp (k36 126 l1 l2 l3 l4 l5 M) (fun q => I n q.2 ∧ Keep n W_X9_bind Me q.2 ∧ True)) {k197 : Int → Int → Int → Int → Int → Int → Int → Int → Mem → Option (Int × Mem)} {fu197 : Nat} (hk197 : ∀ (l1 l2 l3 l4 l5 l7 l8 : Int) (M : Mem), (0 ≤ l1 ∧ l1 ≤ 359) → (1 ≤ l2 ∧ l2 ≤ 27) → (1 ≤ l3 ∧ l3 ≤ 3) → (0 ≤ l4 ∧ l4 ≤ 3159) → (0 ≤ l5 ∧ l5 ≤ 80) → (0 ≤ l7 ∧ l7 ≤ 1) → (0 ≤ l8 ∧ l8 ≤ 3) → (NP M) → 82 - l5 < (fu36 : Int) + 1 → 4 - l8 < (fu197 : Int) → I n M → Keep n W_X9_bind Me M → wp (k197 126 l1 l2 l3 l4 l5 l7 l8 M) (fun q => I n q.2 ∧ Keep n W_X9_bind Me q.2 ∧ True)) {l1 l2 l3 l4 l5 l7 l8 : Int} {M : Mem} (r_l1 : 0 ≤ l1 ∧ l1 ≤ 359) (r_l2 : 1 ≤ l2 ∧ l2 ≤ 27) (r_l3 : 1 ≤ l3 ∧ l3 ≤ 3) (r_l4 : 0 ≤ l4 ∧ l4 ≤ 3159) (r_l5 : 0 ≤ l5 ∧ l5 ≤ 80) (r_l7 : 0 ≤ l7 ∧ l7 ≤ 1) (r_l8 : 0 ≤ l8 ∧ l8 ≤ 3) (p_NP : NP M) (hf36 : 82 - l5 < (fu36 : Int) + 1) (hf197 : 4 - l8 < (fu197 : Int) + 1) (iM : I n M) (kM : Keep n W_X9_bind Me M) : wp (bX9_bind_197 k36 k197 126 l1 l2 l3 l4 l5 l7 l8 M) (fun q => I n q.2 ∧ Keep n W_X9_bind Me q.2 ∧ True) := by
  have hn : (169 : Int) ≤ (n : Int) := by have := iM.2.2.2.2.1; omega
  unfold bX9_bind_197
  refine w_if (fun c1_ => ?_) (fun c1_ => ?_)
  · skip
    exact s_X9_bind_226 hk36 ⟨by omega, by omega⟩ ⟨by omega, by omega⟩ ⟨by omega, by omega⟩ ⟨by omega, by omega⟩ ⟨by omega, by omega⟩ p_NP (by omega) iM kM
  · skip
    refine w_gFc (ji := 45) rfl (congrArg Prod.fst (kl_126 iM)) (show mG M 126 45 = 160 from rd_Model_45 iM (a := 126) rfl) ?_
    have w2_ := wI_id (x := (l4 + l5)) (by omega) (by omega)
    have w3_ := mul_b (x := l8) (y := l2) (a := 2) (b := 27) (by omega) (by omega) (by omega) (by omega)
    have w4_ := wI_id (x := (l8 * l2)) (by omega) (by omega)
    have w5_ := wI_id (x := ((wI (l4 + l5)) + (wI (l8 * l2)))) (by omega) (by omega)
    refine w_aSZ (kl_160 iM) (by omega) (by omega) (by omega) (fun M219 hM219 => ?_)
    replace hM219 : M219 = mS M 160 (wI ((wI (l4 + l5)) + (wI (l8 * l2)))) l7 := hM219
    have iM219 : I n M219 := wr_Mready iM rfl ⟨by omega, by omega⟩ hM219
    have kM219 : Keep n W_X9_bind Me M219 := kM.st hM219 (Or.inl rfl)
    have w6_ := wI_id (x := (l8 + 1)) (by omega) (by omega)
    have ppNP_M219 : NP M219 := (NP_of p_NP (fun j => st_ne hM219 (fun z => ne_fam rfl rfl (by decide) z.1)))
    exact hk197 _ _ _ _ _ _ _ _ ⟨by omega, by omega⟩ ⟨by omega, by omega⟩ ⟨by omega, by omega⟩ ⟨by omega, by omega⟩ ⟨by omega, by omega⟩ ⟨by omega, by omega⟩ ⟨by omega, by omega⟩ ppNP_M219 (by omega) (by omega) iM219 kM219
theorem s_X9_bind_197 {n : Nat} {Me : Mem} {k36 : Int → Int → Int → Int → Int → Int → Mem → Option (Int × Mem)} {fu36 : Nat} (hk36 : ∀ (l1 l2 l3 l4 l5 : Int) (M : Mem), (0 ≤ l1 ∧ l1 ≤ 359) → (1 ≤ l2 ∧ l2 ≤ 27) → (1 ≤ l3 ∧ l3 ≤ 3) → (0 ≤ l4 ∧ l4 ≤ 3159) → (0 ≤ l5 ∧ l5 ≤ 81) → (NP M) → 82 - l5 < (fu36 : Int) → I n M → Keep n W_X9_bind Me M → wp (k36 126 l1 l2 l3 l4 l5 M) (fun q => I n q.2 ∧ Keep n W_X9_bind Me q.2 ∧ True)) : ∀ (fu : Nat) (l1 l2 l3 l4 l5 l7 l8 : Int) (M : Mem), (0 ≤ l1 ∧ l1 ≤ 359) → (1 ≤ l2 ∧ l2 ≤ 27) → (1 ≤ l3 ∧ l3 ≤ 3) → (0 ≤ l4 ∧ l4 ≤ 3159) → (0 ≤ l5 ∧ l5 ≤ 80) → (0 ≤ l7 ∧ l7 ≤ 1) → (0 ≤ l8 ∧ l8 ≤ 3) → (NP M) → 82 - l5 < (fu36 : Int) + 1 → 4 - l8 < (fu : Int) → I n M → Keep n W_X9_bind Me M → wp (mX9_bind_197 k36 fu 126 l1 l2 l3 l4 l5 l7 l8 M) (fun q => I n q.2 ∧ Keep n W_X9_bind Me q.2 ∧ True) := by
  intro fu
  induction fu with
  | zero =>
    intro l1 l2 l3 l4 l5 l7 l8 M r_l1 r_l2 r_l3 r_l4 r_l5 r_l7 r_l8 p_NP hf36 hf iM kM
    exfalso
    omega
  | succ fu ih =>
    intro l1 l2 l3 l4 l5 l7 l8 M r_l1 r_l2 r_l3 r_l4 r_l5 r_l7 r_l8 p_NP hf36 hf iM kM
    exact sb_X9_bind_197 hk36 ih r_l1 r_l2 r_l3 r_l4 r_l5 r_l7 r_l8 p_NP hf36 (by have e : ((fu + 1 : Nat) : Int) = (fu : Int) + 1 := rfl; rw [e] at hf; exact hf) iM kM
theorem s_X9_bind_192 {n : Nat} {Me : Mem} {k36 : Int → Int → Int → Int → Int → Int → Mem → Option (Int × Mem)} {fu36 : Nat} (hk36 : ∀ (l1 l2 l3 l4 l5 : Int) (M : Mem), (0 ≤ l1 ∧ l1 ≤ 359) → (1 ≤ l2 ∧ l2 ≤ 27) → (1 ≤ l3 ∧ l3 ≤ 3) → (0 ≤ l4 ∧ l4 ≤ 3159) → (0 ≤ l5 ∧ l5 ≤ 81) → (NP M) → 82 - l5 < (fu36 : Int) → I n M → Keep n W_X9_bind Me M → wp (k36 126 l1 l2 l3 l4 l5 M) (fun q => I n q.2 ∧ Keep n W_X9_bind Me q.2 ∧ True)) {l1 l2 l3 l4 l5 s0 : Int} {M : Mem} (r_l1 : 0 ≤ l1 ∧ l1 ≤ 359) (r_l2 : 1 ≤ l2 ∧ l2 ≤ 27) (r_l3 : 1 ≤ l3 ∧ l3 ≤ 3) (r_l4 : 0 ≤ l4 ∧ l4 ≤ 3159) (r_l5 : 0 ≤ l5 ∧ l5 ≤ 80) (r_s0 : 0 ≤ s0 ∧ s0 ≤ 1) (p_NP : NP M) (hf36 : 82 - l5 < (fu36 : Int) + 1) (iM : I n M) (kM : Keep n W_X9_bind Me M) : wp (mX9_bind_192 k36 126 l1 l2 l3 l4 l5 s0 M) (fun q => I n q.2 ∧ Keep n W_X9_bind Me q.2 ∧ True) := by
  have hn : (169 : Int) ≤ (n : Int) := by have := iM.2.2.2.2.1; omega
  unfold mX9_bind_192
  exact s_X9_bind_197 hk36 FU _ _ _ _ _ _ _ _ ⟨by omega, by omega⟩ ⟨by omega, by omega⟩ ⟨by omega, by omega⟩ ⟨by omega, by omega⟩ ⟨by omega, by omega⟩ ⟨by omega, by omega⟩ ⟨by omega, by omega⟩ p_NP (by omega) (by show _ < (70000 : Int); omega) iM kM
theorem s_X9_bind_92 {n : Nat} {Me : Mem} {k36 : Int → Int → Int → Int → Int → Int → Mem → Option (Int × Mem)} {fu36 : Nat} (hk36 : ∀ (l1 l2 l3 l4 l5 : Int) (M : Mem), (0 ≤ l1 ∧ l1 ≤ 359) → (1 ≤ l2 ∧ l2 ≤ 27) → (1 ≤ l3 ∧ l3 ≤ 3) → (0 ≤ l4 ∧ l4 ≤ 3159) → (0 ≤ l5 ∧ l5 ≤ 81) → (NP M) → 82 - l5 < (fu36 : Int) → I n M → Keep n W_X9_bind Me M → wp (k36 126 l1 l2 l3 l4 l5 M) (fun q => I n q.2 ∧ Keep n W_X9_bind Me q.2 ∧ True)) {k61 : Int → Int → Int → Int → Int → Int → Int → Int → Mem → Option (Int × Mem)} {fu61 : Nat} (hk61 : ∀ (l1 l2 l3 l4 l5 l6 l7 : Int) (M : Mem), (0 ≤ l1 ∧ l1 ≤ 359) → (1 ≤ l2 ∧ l2 ≤ 27) → (1 ≤ l3 ∧ l3 ≤ 3) → (0 ≤ l4 ∧ l4 ≤ 3159) → (0 ≤ l5 ∧ l5 ≤ 80) → ((-2147483648) ≤ l6 ∧ l6 ≤ 2147483647) → (0 ≤ l7 ∧ l7 ≤ 3) → (NP M) → 82 - l5 < (fu36 : Int) + 1 → 4 - l7 < (fu61 : Int) → I n M → Keep n W_X9_bind Me M → wp (k61 126 l1 l2 l3 l4 l5 l6 l7 M) (fun q => I n q.2 ∧ Keep n W_X9_bind Me q.2 ∧ True)) {l1 l2 l3 l4 l5 l7 s0 s1 : Int} {M : Mem} (r_l1 : 0 ≤ l1 ∧ l1 ≤ 359) (r_l2 : 1 ≤ l2 ∧ l2 ≤ 27) (r_l3 : 1 ≤ l3 ∧ l3 ≤ 3) (r_l4 : 0 ≤ l4 ∧ l4 ≤ 3159) (r_l5 : 0 ≤ l5 ∧ l5 ≤ 80) (r_l7 : 0 ≤ l7 ∧ l7 ≤ 2) (r_s0 : (-2147483648) ≤ s0 ∧ s0 ≤ 2147483647) (r_s1 : 0 ≤ s1 ∧ s1 ≤ 1) (p_NP : NP M) (hf36 : 82 - l5 < (fu36 : Int) + 1) (hf61 : 4 - l7 < (fu61 : Int) + 1) (iM : I n M) (kM : Keep n W_X9_bind Me M) : wp (mX9_bind_92 k36 k61 126 l1 l2 l3 l4 l5 l7 s0 s1 M) (fun q => I n q.2 ∧ Keep n W_X9_bind Me q.2 ∧ True) := by
  have hn : (169 : Int) ≤ (n : Int) := by have := iM.2.2.2.2.1; omega
  unfold mX9_bind_92
  have w1_ := And.intro (wI_lo (s0 + s1)) (wI_hi (s0 + s1))
  have w2_ := wI_id (x := (l7 + 1)) (by omega) (by omega)
  exact hk61 _ _ _ _ _ _ _ _ ⟨by omega, by omega⟩ ⟨by omega, by omega⟩ ⟨by omega, by omega⟩ ⟨by omega, by omega⟩ ⟨by omega, by omega⟩ ⟨by omega, by omega⟩ ⟨by omega, by omega⟩ p_NP (by omega) (by omega) iM kM
theorem sb_X9_bind_61 {n : Nat} {Me : Mem} {k36 : Int → Int → Int → Int → Int → Int → Mem → Option (Int × Mem)} {fu36 : Nat} (hk36 : ∀ (l1 l2 l3 l4 l5 : Int) (M : Mem), (0 ≤ l1 ∧ l1 ≤ 359) → (1 ≤ l2 ∧ l2 ≤ 27) → (1 ≤ l3 ∧ l3 ≤ 3) → (0 ≤ l4 ∧ l4 ≤ 3159) → (0 ≤ l5 ∧ l5 ≤ 81) → (NP M) → 82 - l5 < (fu36 : Int) → I n M → Keep n W_X9_bind Me M → wp (k36 126 l1 l2 l3 l4 l5 M) (fun q => I n q.2 ∧ Keep n W_X9_bind Me q.2 ∧ True)) {k61 : Int → Int → Int → Int → Int → Int → Int → Int → Mem → Option (Int × Mem)} {fu61 : Nat} (hk61 : ∀ (l1 l2 l3 l4 l5 l6 l7 : Int) (M : Mem), (0 ≤ l1 ∧ l1 ≤ 359) → (1 ≤ l2 ∧ l2 ≤ 27) → (1 ≤ l3 ∧ l3 ≤ 3) → (0 ≤ l4 ∧ l4 ≤ 3159) → (0 ≤ l5 ∧ l5 ≤ 80) → ((-2147483648) ≤ l6 ∧ l6 ≤ 2147483647) → (0 ≤ l7 ∧ l7 ≤ 3) → (NP M) → 82 - l5 < (fu36 : Int) + 1 → 4 - l7 < (fu61 : Int) → I n M → Keep n W_X9_bind Me M → wp (k61 126 l1 l2 l3 l4 l5 l6 l7 M) (fun q => I n q.2 ∧ Keep n W_X9_bind Me q.2 ∧ True)) {l1 l2 l3 l4 l5 l6 l7 : Int} {M : Mem} (r_l1 : 0 ≤ l1 ∧ l1 ≤ 359) (r_l2 : 1 ≤ l2 ∧ l2 ≤ 27) (r_l3 : 1 ≤ l3 ∧ l3 ≤ 3) (r_l4 : 0 ≤ l4 ∧ l4 ≤ 3159) (r_l5 : 0 ≤ l5 ∧ l5 ≤ 80) (r_l6 : (-2147483648) ≤ l6 ∧ l6 ≤ 2147483647) (r_l7 : 0 ≤ l7 ∧ l7 ≤ 3) (p_NP : NP M) (hf36 : 82 - l5 < (fu36 : Int) + 1) (hf61 : 4 - l7 < (fu61 : Int) + 1) (iM : I n M) (kM : Keep n W_X9_bind Me M) : wp (bX9_bind_61 k36 k61 126 l1 l2 l3 l4 l5 l6 l7 M) (fun q => I n q.2 ∧ Keep n W_X9_bind Me q.2 ∧ True) := by
  have hn : (169 : Int) ≤ (n : Int) := by have := iM.2.2.2.2.1; omega
  unfold bX9_bind_61
  refine w_if (fun c1_ => ?_) (fun c1_ => ?_)
  · skip
    refine w_gFc (ji := 16) rfl (congrArg Prod.fst (kl_126 iM)) (show mG M 126 16 = 142 from rd_Model_16 iM (a := 126) rfl) ?_
    refine w_aG (kl_142 iM) (by omega) (by omega) (fun a106 ha106 => ?_)
    have ra106 : 0 ≤ a106 ∧ a106 ≤ 12 := ha106.tr (P := fun z => 0 ≤ z ∧ z ≤ 12) (rd_Mact iM rfl)
    refine w_if (fun c2_ => ?_) (fun c2_ => ?_)
    · skip
      refine w_if (fun c3_ => ?_) (fun c3_ => ?_)
      · skip
        exact s_X9_bind_192 hk36 ⟨by omega, by omega⟩ ⟨by omega, by omega⟩ ⟨by omega, by omega⟩ ⟨by omega, by omega⟩ ⟨by omega, by omega⟩ ⟨by omega, by omega⟩ p_NP (by omega) iM kM
      · skip
        exact s_X9_bind_192 hk36 ⟨by omega, by omega⟩ ⟨by omega, by omega⟩ ⟨by omega, by omega⟩ ⟨by omega, by omega⟩ ⟨by omega, by omega⟩ ⟨by omega, by omega⟩ p_NP (by omega) iM kM
    · skip
      refine w_gFc (ji := 16) rfl (congrArg Prod.fst (kl_126 iM)) (show mG M 126 16 = 142 from rd_Model_16 iM (a := 126) rfl) ?_
      refine w_aGc (kl_142 iM) (by omega) (by omega) (show mG M 142 l1 = a106 from (show mG M 142 l1 = a106 from ha106)) ?_
      refine w_if (fun c4_ => ?_) (fun c4_ => ?_)
      · skip
        refine w_if (fun c5_ => ?_) (fun c5_ => ?_)
        · skip
          exact s_X9_bind_192 hk36 ⟨by omega, by omega⟩ ⟨by omega, by omega⟩ ⟨by omega, by omega⟩ ⟨by omega, by omega⟩ ⟨by omega, by omega⟩ ⟨by omega, by omega⟩ p_NP (by omega) iM kM
        · skip
          exact s_X9_bind_192 hk36 ⟨by omega, by omega⟩ ⟨by omega, by omega⟩ ⟨by omega, by omega⟩ ⟨by omega, by omega⟩ ⟨by omega, by omega⟩ ⟨by omega, by omega⟩ p_NP (by omega) iM kM
      · skip
        refine w_gFc (ji := 16) rfl (congrArg Prod.fst (kl_126 iM)) (show mG M 126 16 = 142 from rd_Model_16 iM (a := 126) rfl) ?_
        refine w_aGc (kl_142 iM) (by omega) (by omega) (show mG M 142 l1 = a106 from (show mG M 142 l1 = a106 from ha106)) ?_
        refine w_if (fun c6_ => ?_) (fun c6_ => ?_)
        · skip
          refine w_gFc (ji := 19) rfl (congrArg Prod.fst (kl_126 iM)) (show mG M 126 19 = 145 from rd_Model_19 iM (a := 126) rfl) ?_
          refine w_aG (kl_145 iM) (by omega) (by omega) (fun a164 ha164 => ?_)
          have ra164 : (-2147483648) ≤ a164 ∧ a164 ≤ 2147483647 := ha164.tr (P := fun z => (-2147483648) ≤ z ∧ z ≤ 2147483647) (rd_Mthree iM rfl)
          refine w_if (fun c7_ => ?_) (fun c7_ => ?_)
          · skip
            exact s_X9_bind_192 hk36 ⟨by omega, by omega⟩ ⟨by omega, by omega⟩ ⟨by omega, by omega⟩ ⟨by omega, by omega⟩ ⟨by omega, by omega⟩ ⟨by omega, by omega⟩ p_NP (by omega) iM kM
          · skip
            exact s_X9_bind_192 hk36 ⟨by omega, by omega⟩ ⟨by omega, by omega⟩ ⟨by omega, by omega⟩ ⟨by omega, by omega⟩ ⟨by omega, by omega⟩ ⟨by omega, by omega⟩ p_NP (by omega) iM kM
        · skip
          refine w_gFc (ji := 19) rfl (congrArg Prod.fst (kl_126 iM)) (show mG M 126 19 = 145 from rd_Model_19 iM (a := 126) rfl) ?_
          refine w_aG (kl_145 iM) (by omega) (by omega) (fun a183 ha183 => ?_)
          have ra183 : (-2147483648) ≤ a183 ∧ a183 ≤ 2147483647 := ha183.tr (P := fun z => (-2147483648) ≤ z ∧ z ≤ 2147483647) (rd_Mthree iM rfl)
          refine w_if (fun c8_ => ?_) (fun c8_ => ?_)
          · skip
            exact s_X9_bind_192 hk36 ⟨by omega, by omega⟩ ⟨by omega, by omega⟩ ⟨by omega, by omega⟩ ⟨by omega, by omega⟩ ⟨by omega, by omega⟩ ⟨by omega, by omega⟩ p_NP (by omega) iM kM
          · skip
            exact s_X9_bind_192 hk36 ⟨by omega, by omega⟩ ⟨by omega, by omega⟩ ⟨by omega, by omega⟩ ⟨by omega, by omega⟩ ⟨by omega, by omega⟩ ⟨by omega, by omega⟩ p_NP (by omega) iM kM
  · skip
    refine w_gFc (ji := 45) rfl (congrArg Prod.fst (kl_126 iM)) (show mG M 126 45 = 160 from rd_Model_45 iM (a := 126) rfl) ?_
    have w9_ := wI_id (x := (l4 + l5)) (by omega) (by omega)
    have w10_ := mul_b (x := l7) (y := l2) (a := 2) (b := 27) (by omega) (by omega) (by omega) (by omega)
    have w11_ := wI_id (x := (l7 * l2)) (by omega) (by omega)
    have w12_ := wI_id (x := ((wI (l4 + l5)) + (wI (l7 * l2)))) (by omega) (by omega)
    refine w_aG (kl_160 iM) (by omega) (by omega) (fun a83 ha83 => ?_)
    have ra83 : 0 ≤ a83 ∧ a83 ≤ 1 := ha83.tr (P := fun z => 0 ≤ z ∧ z ≤ 1) (rd_Mready iM rfl)
    refine w_if (fun c13_ => ?_) (fun c13_ => ?_)
    · skip
      exact s_X9_bind_92 hk36 hk61 ⟨by omega, by omega⟩ ⟨by omega, by omega⟩ ⟨by omega, by omega⟩ ⟨by omega, by omega⟩ ⟨by omega, by omega⟩ ⟨by omega, by omega⟩ ⟨by omega, by omega⟩ ⟨by omega, by omega⟩ p_NP (by omega) (by omega) iM kM
    · skip
      exact s_X9_bind_92 hk36 hk61 ⟨by omega, by omega⟩ ⟨by omega, by omega⟩ ⟨by omega, by omega⟩ ⟨by omega, by omega⟩ ⟨by omega, by omega⟩ ⟨by omega, by omega⟩ ⟨by omega, by omega⟩ ⟨by omega, by omega⟩ p_NP (by omega) (by omega) iM kM
theorem s_X9_bind_61 {n : Nat} {Me : Mem} {k36 : Int → Int → Int → Int → Int → Int → Mem → Option (Int × Mem)} {fu36 : Nat} (hk36 : ∀ (l1 l2 l3 l4 l5 : Int) (M : Mem), (0 ≤ l1 ∧ l1 ≤ 359) → (1 ≤ l2 ∧ l2 ≤ 27) → (1 ≤ l3 ∧ l3 ≤ 3) → (0 ≤ l4 ∧ l4 ≤ 3159) → (0 ≤ l5 ∧ l5 ≤ 81) → (NP M) → 82 - l5 < (fu36 : Int) → I n M → Keep n W_X9_bind Me M → wp (k36 126 l1 l2 l3 l4 l5 M) (fun q => I n q.2 ∧ Keep n W_X9_bind Me q.2 ∧ True)) : ∀ (fu : Nat) (l1 l2 l3 l4 l5 l6 l7 : Int) (M : Mem), (0 ≤ l1 ∧ l1 ≤ 359) → (1 ≤ l2 ∧ l2 ≤ 27) → (1 ≤ l3 ∧ l3 ≤ 3) → (0 ≤ l4 ∧ l4 ≤ 3159) → (0 ≤ l5 ∧ l5 ≤ 80) → ((-2147483648) ≤ l6 ∧ l6 ≤ 2147483647) → (0 ≤ l7 ∧ l7 ≤ 3) → (NP M) → 82 - l5 < (fu36 : Int) + 1 → 4 - l7 < (fu : Int) → I n M → Keep n W_X9_bind Me M → wp (mX9_bind_61 k36 fu 126 l1 l2 l3 l4 l5 l6 l7 M) (fun q => I n q.2 ∧ Keep n W_X9_bind Me q.2 ∧ True) := by
  intro fu
  induction fu with
  | zero =>
    intro l1 l2 l3 l4 l5 l6 l7 M r_l1 r_l2 r_l3 r_l4 r_l5 r_l6 r_l7 p_NP hf36 hf iM kM
    exfalso
    omega
  | succ fu ih =>
    intro l1 l2 l3 l4 l5 l6 l7 M r_l1 r_l2 r_l3 r_l4 r_l5 r_l6 r_l7 p_NP hf36 hf iM kM
    exact sb_X9_bind_61 hk36 ih r_l1 r_l2 r_l3 r_l4 r_l5 r_l6 r_l7 p_NP hf36 (by have e : ((fu + 1 : Nat) : Int) = (fu : Int) + 1 := rfl; rw [e] at hf; exact hf) iM kM
theorem sb_X9_bind_36 {n : Nat} {Me : Mem} {k36 : Int → Int → Int → Int → Int → Int → Mem → Option (Int × Mem)} {fu36 : Nat} (hk36 : ∀ (l1 l2 l3 l4 l5 : Int) (M : Mem), (0 ≤ l1 ∧ l1 ≤ 359) → (1 ≤ l2 ∧ l2 ≤ 27) → (1 ≤ l3 ∧ l3 ≤ 3) → (0 ≤ l4 ∧ l4 ≤ 3159) → (0 ≤ l5 ∧ l5 ≤ 81) → (NP M) → 82 - l5 < (fu36 : Int) → I n M → Keep n W_X9_bind Me M → wp (k36 126 l1 l2 l3 l4 l5 M) (fun q => I n q.2 ∧ Keep n W_X9_bind Me q.2 ∧ True)) {l1 l2 l3 l4 l5 : Int} {M : Mem} (r_l1 : 0 ≤ l1 ∧ l1 ≤ 359) (r_l2 : 1 ≤ l2 ∧ l2 ≤ 27) (r_l3 : 1 ≤ l3 ∧ l3 ≤ 3) (r_l4 : 0 ≤ l4 ∧ l4 ≤ 3159) (r_l5 : 0 ≤ l5 ∧ l5 ≤ 81) (p_NP : NP M) (hf36 : 82 - l5 < (fu36 : Int) + 1) (iM : I n M) (kM : Keep n W_X9_bind Me M) : wp (bX9_bind_36 k36 126 l1 l2 l3 l4 l5 M) (fun q => I n q.2 ∧ Keep n W_X9_bind Me q.2 ∧ True) := by
  have hn : (169 : Int) ≤ (n : Int) := by have := iM.2.2.2.2.1; omega
  unfold bX9_bind_36
  refine w_if (fun c1_ => ?_) (fun c1_ => ?_)
  · skip
    exact w_ret ⟨iM, kM, trivial⟩
  · skip
    refine w_dQ (by omega) (fun a46 ha46 => ?_)
    have ea46 : a46 = l5 / l2 := ha46.trans (idiv_e (by omega) (by omega) (by omega) (by omega))
    have ra46 : 0 ≤ a46 ∧ a46 ≤ l5 := by rw [ea46]; exact ⟨Int.ediv_nonneg (by omega) (by omega), Int.ediv_le_self _ (by omega)⟩
    refine w_dM (by omega) (fun a48 ha48 => ?_)
    have ea48 : a48 = a46 % 3 := ha48.trans (irem_e (by omega) (by omega) (by omega) (by omega))
    refine w_if (fun c2_ => ?_) (fun c2_ => ?_)
    · skip
      exact s_X9_bind_61 hk36 FU _ _ _ _ _ _ _ _ ⟨by omega, by omega⟩ ⟨by omega, by omega⟩ ⟨by omega, by omega⟩ ⟨by omega, by omega⟩ ⟨by omega, by omega⟩ ⟨by omega, by omega⟩ ⟨by omega, by omega⟩ p_NP (by omega) (by show _ < (70000 : Int); omega) iM kM
    · skip
      exact s_X9_bind_226 hk36 ⟨by omega, by omega⟩ ⟨by omega, by omega⟩ ⟨by omega, by omega⟩ ⟨by omega, by omega⟩ ⟨by omega, by omega⟩ p_NP (by omega) iM kM
theorem s_X9_bind_36 {n : Nat} {Me : Mem} : ∀ (fu : Nat) (l1 l2 l3 l4 l5 : Int) (M : Mem), (0 ≤ l1 ∧ l1 ≤ 359) → (1 ≤ l2 ∧ l2 ≤ 27) → (1 ≤ l3 ∧ l3 ≤ 3) → (0 ≤ l4 ∧ l4 ≤ 3159) → (0 ≤ l5 ∧ l5 ≤ 81) → (NP M) → 82 - l5 < (fu : Int) → I n M → Keep n W_X9_bind Me M → wp (mX9_bind_36 fu 126 l1 l2 l3 l4 l5 M) (fun q => I n q.2 ∧ Keep n W_X9_bind Me q.2 ∧ True) := by
  intro fu
  induction fu with
  | zero =>
    intro l1 l2 l3 l4 l5 M r_l1 r_l2 r_l3 r_l4 r_l5 p_NP hf iM kM
    exfalso
    omega
  | succ fu ih =>
    intro l1 l2 l3 l4 l5 M r_l1 r_l2 r_l3 r_l4 r_l5 p_NP hf iM kM
    exact sb_X9_bind_36 ih r_l1 r_l2 r_l3 r_l4 r_l5 p_NP (by have e : ((fu + 1 : Nat) : Int) = (fu : Int) + 1 := rfl; rw [e] at hf; exact hf) iM kM
theorem s_X9_bind {n : Nat} {l1 : Int} {M : Mem} (r_l1 : 0 ≤ l1 ∧ l1 ≤ 359) (y0 : mG M 142 l1 ≤ 3) (y1 : 1 ≤ mG M 126 46 ∧ mG M 126 46 ≤ 40) (lpVL : VL M (l1)) (p_NP : NP M) (iM : I n M) : wp (mX9_bind 126 l1 M) (fun q => I n q.2 ∧ Keep n W_X9_bind M q.2 ∧ True) := by
  have hn : (169 : Int) ≤ (n : Int) := by have := iM.2.2.2.2.1; omega
  have kM : Keep n W_X9_bind M M := Keep.rf
  obtain ⟨nh0, enh0⟩ : ∃ v, Is (mG M 142 l1) v := ⟨_, rfl⟩
  have rnh0 : 0 ≤ nh0 ∧ nh0 ≤ 12 := by rw [← enh0.e]; exact rd_Mact iM rfl
  have qnh0 : mG M 142 l1 = nh0 := enh0
  (try rw [enh0.e] at y0); (try rw [enh0.e] at y1)
  obtain ⟨nh1, enh1⟩ : ∃ v, Is (mG M 126 46) v := ⟨_, rfl⟩
  have rnh1 : 0 ≤ nh1 ∧ nh1 ≤ 41 := by rw [← enh1.e]; exact rd_Model_46 iM rfl
  have qnh1 : mG M 126 46 = nh1 := enh1
  (try rw [enh1.e] at y0); (try rw [enh1.e] at y1)
  unfold mX9_bind
  refine w_gFc (ji := 17) rfl (congrArg Prod.fst (kl_126 iM)) (show mG M 126 17 = 143 from rd_Model_17 iM (a := 126) rfl) ?_
  refine w_aG (kl_143 iM) (by omega) (by omega) (fun a5 ha5 => ?_)
  have ra5 : (-1) ≤ a5 ∧ a5 ≤ 3 := ha5.tr (P := fun z => (-1) ≤ z ∧ z ≤ 3) (rd_Mone iM rfl)
  have z1a5 := lpVL.1
  have z2a5 := ha5.e
  have z3a5 : mG M 142 l1 = nh0 := (show mG M 142 l1 = nh0 from enh0)
  refine w_call (s_X9_unit ⟨by omega, by omega⟩ iM) ?_
  intro v6 m6 pp6
  obtain ⟨im6, kk6, e6_0, -⟩ := pp6
  try dsimp only
  replace im6 : I n m6 := im6
  replace kk6 : Keep n W_X9_unit M m6 := kk6
  have km6 : Keep n W_X9_bind M m6 := kM.tr kk6 (fun b j z => z.elim)
  replace e6_0 : 1 ≤ v6 ∧ v6 ≤ 27 := e6_0
  refine w_gFc (ji := 26) rfl (congrArg Prod.fst (kl_126 im6)) (show mG m6 126 26 = 152 from rd_Model_26 im6 (a := 126) rfl) ?_
  refine w_gFc (ji := 18) rfl (congrArg Prod.fst (kl_126 im6)) (show mG m6 126 18 = 144 from rd_Model_18 im6 (a := 126) rfl) ?_
  refine w_aG (kl_144 im6) (by omega) (by omega) (fun a19 ha19 => ?_)
  have ra19 : (-1) ≤ a19 ∧ a19 ≤ 3 := ha19.tr (P := fun z => (-1) ≤ z ∧ z ≤ 3) (rd_Mtwo im6 rfl)
  have lp1_ : VL m6 (l1) := (VL_of lpVL (fun j => kk6.2.2 142 j (by omega) (fun z => z)) (fun j => kk6.2.2 143 j (by omega) (fun z => z)) (fun j => kk6.2.2 144 j (by omega) (fun z => z)))
  have z1a19 := lp1_.2
  have z2a19 := ha19.e
  have z3a19 : mG m6 142 l1 = nh0 := ((kk6.2.2 142 l1 (by omega) (fun z => z)).trans (show mG M 142 l1 = nh0 from enh0))
  refine w_aG (kl_152 im6) (by omega) (by omega) (fun a20 ha20 => ?_)
  have ra20 : (-9) ≤ a20 ∧ a20 ≤ 9 := ha20.tr (P := fun z => (-9) ≤ z ∧ z ≤ 9) (rd_Mnow im6 rfl)
  have ppNP_m6 : NP m6 := (NP_of p_NP (fun j => kk6.2.2 152 j (by omega) (fun z => z)))
  have qa20 : 1 ≤ a20 ∧ a20 ≤ 3 := by rw [← ha20.e]; exact ppNP_m6 a19 (by omega) (by omega)
  refine w_gFc (ji := 46) rfl (congrArg Prod.fst (kl_126 im6)) (show mG m6 126 46 = nh1 from ((kk6.2.2 126 46 (by omega) (fun z => z)).trans (show mG M 126 46 = nh1 from enh1))) ?_
  have w2_ := wI_id (x := (nh1 - 1)) (by omega) (by omega)
  have w3_ := wI_id (x := (81 * (wI (nh1 - 1)))) (by omega) (by omega)
  refine w_some (fun b31 hb31 => ?_)
  replace hb31 : b31 = (wI (81 * (wI (nh1 - 1)))) := hb31
  exact s_X9_bind_36 FU _ _ _ _ _ _ ⟨by omega, by omega⟩ ⟨by omega, by omega⟩ ⟨by omega, by omega⟩ ⟨by omega, by omega⟩ ⟨by omega, by omega⟩ ppNP_m6 (by show _ < (70000 : Int); omega) im6 km6
