def W_X9_readText (b j : Int) : Prop := (128 ≤ b ∧ b ≤ 130) ∨ (155 ≤ b ∧ b ≤ 159) ∨ (b = 126 ∧ j = 29) ∨ (b = 126 ∧ j = 30) ∨ (b = 126 ∧ j = 31) ∨ (b = 126 ∧ j = 32) ∨ (b = 126 ∧ j = 33) ∨ (b = 126 ∧ j = 34) ∨ (b = 126 ∧ j = 35) ∨ (b = 126 ∧ j = 36) ∨ (b = 126 ∧ j = 37) ∨ (b = 126 ∧ j = 38) ∨ (b = 126 ∧ j = 40)
theorem s_X9_readText {n : Nat} {M : Mem} (iM : I n M) : wp (mX9_readText 126 M) (fun q => I n q.2 ∧ Keep n W_X9_readText M q.2 ∧ (0 ≤ q.1 ∧ q.1 ≤ 1) ∧ True) := sorry
def W_X9_keepText (b j : Int) : Prop := (141 ≤ b ∧ b ≤ 145)
theorem sb_X9_keepText_12 {n : Nat} {Me : Mem} {k12 : Int → Int → Int → Mem → Option (Int × Mem)} {fu12 : Nat} (hk12 : ∀ (l1 l2 : Int) (M : Mem), (0 ≤ l1 ∧ l1 ≤ 8) → (0 ≤ l2 ∧ l2 ≤ 402) → 403 - l2 < (fu12 : Int) → I n M → Keep n W_X9_keepText Me M → wp (k12 126 l1 l2 M) (fun q => I n q.2 ∧ Keep n W_X9_keepText Me q.2 ∧ True)) {l1 l2 : Int} {M : Mem} (r_l1 : 0 ≤ l1 ∧ l1 ≤ 8) (r_l2 : 0 ≤ l2 ∧ l2 ≤ 402) (hf12 : 403 - l2 < (fu12 : Int) + 1) (iM : I n M) (kM : Keep n W_X9_keepText Me M) : wp (bX9_keepText_12 k12 126 l1 l2 M) (fun q => I n q.2 ∧ Keep n W_X9_keepText Me q.2 ∧ True) := by
  have hn : (169 : Int) ≤ (n : Int) := by have := iM.2.2.2.2.1; omega
  unfold bX9_keepText_12
  refine w_gF (ji := 40) rfl (congrArg Prod.fst (kl_126 iM)) (fun a14 ha14 => ?_)
  have ra14 : 0 ≤ a14 ∧ a14 ≤ 402 := ha14.tr (P := fun z => 0 ≤ z ∧ z ≤ 402) (rd_Model_40 iM rfl)
  refine w_if (fun c1_ => ?_) (fun c1_ => ?_)
  · skip
    exact w_ret ⟨iM, kM, trivial⟩
  · skip
    refine w_gFc (ji := 16) rfl (congrArg Prod.fst (kl_126 iM)) (show mG M 126 16 = 142 from rd_Model_16 iM (a := 126) rfl) ?_
    refine w_gFc (ji := 41) rfl (congrArg Prod.fst (kl_126 iM)) (show mG M 126 41 = 156 from rd_Model_41 iM (a := 126) rfl) ?_
    refine w_aG (kl_156 iM) (by omega) (by omega) (fun a35 ha35 => ?_)
    have ra35 : (-1) ≤ a35 ∧ a35 ≤ 12 := ha35.tr (P := fun z => (-1) ≤ z ∧ z ≤ 12) (rd_MnewAct iM rfl)
    have w2_ := wI_id (x := (40 * l1)) (by omega) (by omega)
    have w3_ := wI_id (x := ((wI (40 * l1)) + l2)) (by omega) (by omega)
    refine w_aS (kl_142 iM) (by omega) (by omega) (fun M36 hM36 => ?_)
    replace hM36 : M36 = mS M 142 (wI ((wI (40 * l1)) + l2)) a35 := hM36
    have iM36 : I n M36 := wr_Mact iM rfl ⟨by omega, by omega⟩ hM36
    have kM36 : Keep n W_X9_keepText Me M36 := kM.st hM36 (Or.inl ⟨by decide, by decide⟩)
    refine w_gFc (ji := 17) rfl (congrArg Prod.fst (kl_126 iM36)) (show mG M36 126 17 = 143 from rd_Model_17 iM36 (a := 126) rfl) ?_
    refine w_gFc (ji := 42) rfl (congrArg Prod.fst (kl_126 iM36)) (show mG M36 126 42 = 157 from rd_Model_42 iM36 (a := 126) rfl) ?_
    refine w_aG (kl_157 iM36) (by omega) (by omega) (fun a52 ha52 => ?_)
    have ra52 : (-1) ≤ a52 ∧ a52 ≤ 3 := ha52.tr (P := fun z => (-1) ≤ z ∧ z ≤ 3) (rd_MnewOne iM36 rfl)
    refine w_aS (kl_143 iM36) (by omega) (by omega) (fun M53 hM53 => ?_)
    replace hM53 : M53 = mS M36 143 (wI ((wI (40 * l1)) + l2)) a52 := hM53
    have iM53 : I n M53 := wr_Mone iM36 rfl ⟨by omega, by omega⟩ hM53
    have kM53 : Keep n W_X9_keepText Me M53 := kM36.st hM53 (Or.inl ⟨by decide, by decide⟩)
    refine w_gFc (ji := 18) rfl (congrArg Prod.fst (kl_126 iM53)) (show mG M53 126 18 = 144 from rd_Model_18 iM53 (a := 126) rfl) ?_
    refine w_gFc (ji := 43) rfl (congrArg Prod.fst (kl_126 iM53)) (show mG M53 126 43 = 158 from rd_Model_43 iM53 (a := 126) rfl) ?_
    refine w_aG (kl_158 iM53) (by omega) (by omega) (fun a69 ha69 => ?_)
    have ra69 : (-1) ≤ a69 ∧ a69 ≤ 3 := ha69.tr (P := fun z => (-1) ≤ z ∧ z ≤ 3) (rd_MnewTwo iM53 rfl)
    refine w_aS (kl_144 iM53) (by omega) (by omega) (fun M70 hM70 => ?_)
    replace hM70 : M70 = mS M53 144 (wI ((wI (40 * l1)) + l2)) a69 := hM70
    have iM70 : I n M70 := wr_Mtwo iM53 rfl ⟨by omega, by omega⟩ hM70
    have kM70 : Keep n W_X9_keepText Me M70 := kM53.st hM70 (Or.inl ⟨by decide, by decide⟩)
    refine w_gFc (ji := 19) rfl (congrArg Prod.fst (kl_126 iM70)) (show mG M70 126 19 = 145 from rd_Model_19 iM70 (a := 126) rfl) ?_
    refine w_gFc (ji := 44) rfl (congrArg Prod.fst (kl_126 iM70)) (show mG M70 126 44 = 159 from rd_Model_44 iM70 (a := 126) rfl) ?_
    refine w_aG (kl_159 iM70) (by omega) (by omega) (fun a86 ha86 => ?_)
    have ra86 : (-2147483648) ≤ a86 ∧ a86 ≤ 2147483647 := ha86.tr (P := fun z => (-2147483648) ≤ z ∧ z ≤ 2147483647) (rd_MnewThree iM70 rfl)
    refine w_aS (kl_145 iM70) (by omega) (by omega) (fun M87 hM87 => ?_)
    replace hM87 : M87 = mS M70 145 (wI ((wI (40 * l1)) + l2)) a86 := hM87
    have iM87 : I n M87 := wr_Mthree iM70 rfl ⟨by omega, by omega⟩ hM87
    have kM87 : Keep n W_X9_keepText Me M87 := kM70.st hM87 (Or.inl ⟨by decide, by decide⟩)
    have w4_ := wI_id (x := (l2 + 1)) (by omega) (by omega)
    exact hk12 _ _ _ ⟨by omega, by omega⟩ ⟨by omega, by omega⟩ (by omega) iM87 kM87
theorem s_X9_keepText_12 {n : Nat} {Me : Mem} : ∀ (fu : Nat) (l1 l2 : Int) (M : Mem), (0 ≤ l1 ∧ l1 ≤ 8) → (0 ≤ l2 ∧ l2 ≤ 402) → 403 - l2 < (fu : Int) → I n M → Keep n W_X9_keepText Me M → wp (mX9_keepText_12 fu 126 l1 l2 M) (fun q => I n q.2 ∧ Keep n W_X9_keepText Me q.2 ∧ True) := by
  intro fu
  induction fu with
  | zero =>
    intro l1 l2 M r_l1 r_l2 hf iM kM
    exfalso
    omega
  | succ fu ih =>
    intro l1 l2 M r_l1 r_l2 hf iM kM
    exact sb_X9_keepText_12 ih r_l1 r_l2 (by have e : ((fu + 1 : Nat) : Int) = (fu : Int) + 1 := rfl; rw [e] at hf; exact hf) iM kM
theorem s_X9_keepText {n : Nat} {l1 : Int} {M : Mem} (r_l1 : 0 ≤ l1 ∧ l1 ≤ 8) (iM : I n M) : wp (mX9_keepText 126 l1 M) (fun q => I n q.2 ∧ Keep n W_X9_keepText M q.2 ∧ True) := by
  have hn : (169 : Int) ≤ (n : Int) := by have := iM.2.2.2.2.1; omega
  have kM : Keep n W_X9_keepText M M := Keep.rf
  unfold mX9_keepText
  refine w_gFc (ji := 15) rfl (congrArg Prod.fst (kl_126 iM)) (show mG M 126 15 = 141 from rd_Model_15 iM (a := 126) rfl) ?_
  refine w_gF (ji := 40) rfl (congrArg Prod.fst (kl_126 iM)) (fun a6 ha6 => ?_)
  have ra6 : 0 ≤ a6 ∧ a6 ≤ 402 := ha6.tr (P := fun z => 0 ≤ z ∧ z ≤ 402) (rd_Model_40 iM rfl)
  refine w_aS (kl_141 iM) (by omega) (by omega) (fun M9 hM9 => ?_)
  replace hM9 : M9 = mS M 141 l1 a6 := hM9
  have iM9 : I n M9 := wr_Mparts iM rfl ⟨by omega, by omega⟩ hM9
  have kM9 : Keep n W_X9_keepText M M9 := kM.st hM9 (Or.inl ⟨by decide, by decide⟩)
  exact s_X9_keepText_12 FU _ _ _ ⟨by omega, by omega⟩ ⟨by omega, by omega⟩ (by show _ < (70000 : Int); omega) iM9 kM9
def W_X9_story (b j : Int) : Prop := (128 ≤ b ∧ b ≤ 130) ∨ (138 ≤ b ∧ b ≤ 145) ∨ (155 ≤ b ∧ b ≤ 159) ∨ (b = 126 ∧ j = 0) ∨ (b = 126 ∧ j = 29) ∨ (b = 126 ∧ j = 30) ∨ (b = 126 ∧ j = 31) ∨ (b = 126 ∧ j = 32) ∨ (b = 126 ∧ j = 33) ∨ (b = 126 ∧ j = 34) ∨ (b = 126 ∧ j = 35) ∨ (b = 126 ∧ j = 36) ∨ (b = 126 ∧ j = 37) ∨ (b = 126 ∧ j = 38) ∨ (b = 126 ∧ j = 40)
theorem s_X9_story {n : Nat} {M : Mem} (iM : I n M) : wp (mX9_story 126 M) (fun q => I n q.2 ∧ Keep n W_X9_story M q.2 ∧ ((-2) ≤ q.1 ∧ q.1 ≤ 7) ∧ True) := by
  have hn : (169 : Int) ≤ (n : Int) := by have := iM.2.2.2.2.1; omega
  have kM : Keep n W_X9_story M M := Keep.rf
  unfold mX9_story
  refine w_pF (ji := 0) rfl (congrArg Prod.fst (kl_126 iM)) (fun M2 hM2 => ?_)
  replace hM2 : M2 = mS M 126 0 0 := hM2
  have iM2 : I n M2 := wr_Model_0 iM rfl ⟨by omega, by omega⟩ hM2
  have kM2 : Keep n W_X9_story M M2 := kM.st hM2 (Or.inl (Or.inr (Or.inr (Or.inr (Or.inl ⟨rfl, rfl⟩)))))
  refine w_gFc (ji := 12) rfl (congrArg Prod.fst (kl_126 iM2)) (show mG M2 126 12 = 138 from rd_Model_12 iM2 (a := 126) rfl) ?_
  refine w_aG (kl_138 iM2) (by decide) (by decide) (fun a10 ha10 => ?_)
  have ra10 : 0 ≤ a10 ∧ a10 ≤ 8 := ha10.tr (P := fun z => 0 ≤ z ∧ z ≤ 8) (rd_Mstories iM2 rfl)
  refine w_if (fun c1_ => ?_) (fun c1_ => ?_)
  · skip
    refine w_gFc (ji := 2) rfl (congrArg Prod.fst (kl_126 iM2)) (show mG M2 126 2 = 128 from rd_Model_2 iM2 (a := 126) rfl) ?_
    refine w_aS (kl_128 iM2) (by omega) (by omega) (fun M22 hM22 => ?_)
    replace hM22 : M22 = mS M2 128 0 0 := hM22
    have iM22 : I n M22 := wr_Msize iM2 rfl ⟨by omega, by omega⟩ hM22
    have kM22 : Keep n W_X9_story M M22 := kM2.st hM22 (Or.inl (Or.inl ⟨by decide, by decide⟩))
    refine w_gFc (ji := 3) rfl (congrArg Prod.fst (kl_126 iM22)) (show mG M22 126 3 = 129 from rd_Model_3 iM22 (a := 126) rfl) ?_
    refine w_aS (kl_129 iM22) (by omega) (by omega) (fun M29 hM29 => ?_)
    replace hM29 : M29 = mS M22 129 0 0 := hM29
    have iM29 : I n M29 := wr_Mfault iM22 rfl ⟨by omega, by omega⟩ hM29
    have kM29 : Keep n W_X9_story M M29 := kM22.st hM29 (Or.inl (Or.inl ⟨by decide, by decide⟩))
    refine w_gFc (ji := 4) rfl (congrArg Prod.fst (kl_126 iM29)) (show mG M29 126 4 = 130 from rd_Model_4 iM29 (a := 126) rfl) ?_
    refine w_aS (kl_130 iM29) (by omega) (by omega) (fun M36 hM36 => ?_)
    replace hM36 : M36 = mS M29 130 0 (-1) := hM36
    have iM36 : I n M36 := wr_MfaultPlace iM29 rfl ⟨by omega, by omega⟩ hM36
    have kM36 : Keep n W_X9_story M M36 := kM29.st hM36 (Or.inl (Or.inl ⟨by decide, by decide⟩))
    exact w_ret ⟨iM36, kM36, (show (-2) ≤ (-2) ∧ (-2) ≤ 7 from ⟨by omega, by omega⟩), trivial⟩
  · skip
    refine w_gK (congrArg Prod.fst (kl_126 iM2)) ?_
    refine w_call (s_X9_readText iM2) ?_
    intro v41 m41 pp41
    obtain ⟨im41, kk41, e41_0, -⟩ := pp41
    try dsimp only
    replace im41 : I n m41 := im41
    replace kk41 : Keep n W_X9_readText M2 m41 := kk41
    have km41 : Keep n W_X9_story M m41 := kM2.tr kk41 (fun b j z => Or.elim z (fun z => (Or.inl z)) (fun z => Or.elim z (fun z => (Or.inr (Or.inr (Or.inl z)))) (fun z => Or.elim z (fun z => (Or.inr (Or.inr (Or.inr (Or.inr (Or.inl z)))))) (fun z => Or.elim z (fun z => (Or.inr (Or.inr (Or.inr (Or.inr (Or.inr (Or.inl z))))))) (fun z => Or.elim z (fun z => (Or.inr (Or.inr (Or.inr (Or.inr (Or.inr (Or.inr (Or.inl z)))))))) (fun z => Or.elim z (fun z => (Or.inr (Or.inr (Or.inr (Or.inr (Or.inr (Or.inr (Or.inr (Or.inl z))))))))) (fun z => Or.elim z (fun z => (Or.inr (Or.inr (Or.inr (Or.inr (Or.inr (Or.inr (Or.inr (Or.inr (Or.inl z)))))))))) (fun z => Or.elim z (fun z => (Or.inr (Or.inr (Or.inr (Or.inr (Or.inr (Or.inr (Or.inr (Or.inr (Or.inr (Or.inl z))))))))))) (fun z => Or.elim z (fun z => (Or.inr (Or.inr (Or.inr (Or.inr (Or.inr (Or.inr (Or.inr (Or.inr (Or.inr (Or.inr (Or.inl z)))))))))))) (fun z => Or.elim z (fun z => (Or.inr (Or.inr (Or.inr (Or.inr (Or.inr (Or.inr (Or.inr (Or.inr (Or.inr (Or.inr (Or.inr (Or.inl z))))))))))))) (fun z => Or.elim z (fun z => (Or.inr (Or.inr (Or.inr (Or.inr (Or.inr (Or.inr (Or.inr (Or.inr (Or.inr (Or.inr (Or.inr (Or.inr (Or.inl z)))))))))))))) (fun z => Or.elim z (fun z => (Or.inr (Or.inr (Or.inr (Or.inr (Or.inr (Or.inr (Or.inr (Or.inr (Or.inr (Or.inr (Or.inr (Or.inr (Or.inr (Or.inl z))))))))))))))) (fun z => (Or.inr (Or.inr (Or.inr (Or.inr (Or.inr (Or.inr (Or.inr (Or.inr (Or.inr (Or.inr (Or.inr (Or.inr (Or.inr (Or.inr z)))))))))))))))))))))))))))
    replace e41_0 : 0 ≤ v41 ∧ v41 ≤ 1 := e41_0
    refine w_if (fun c2_ => ?_) (fun c2_ => ?_)
    · skip
      exact w_ret ⟨im41, km41, (show (-2) ≤ (-1) ∧ (-1) ≤ 7 from ⟨by omega, by omega⟩), trivial⟩
    · skip
      refine w_gFc (ji := 12) rfl (congrArg Prod.fst (kl_126 im41)) (show mG m41 126 12 = 138 from rd_Model_12 im41 (a := 126) rfl) ?_
      refine w_aGc (kl_138 im41) (by omega) (by omega) (show mG m41 138 0 = a10 from ((kk41.2.2 138 0 (by omega) (fun z => by unfold W_X9_readText at z; (try unfold isWS at z); (try unfold isShape at z); (try unfold isTold at z); (try dsimp only at z); omega)).trans (show mG M2 138 0 = a10 from ha10))) ?_
      refine w_gFc (ji := 12) rfl (congrArg Prod.fst (kl_126 im41)) (show mG m41 126 12 = 138 from rd_Model_12 im41 (a := 126) rfl) ?_
      refine w_aGc (kl_138 im41) (by omega) (by omega) (show mG m41 138 0 = a10 from ((kk41.2.2 138 0 (by omega) (fun z => by unfold W_X9_readText at z; (try unfold isWS at z); (try unfold isShape at z); (try unfold isTold at z); (try dsimp only at z); omega)).trans (show mG M2 138 0 = a10 from ha10))) ?_
      have w3_ := wI_id (x := (a10 + 1)) (by omega) (by omega)
      refine w_aS (kl_138 im41) (by omega) (by omega) (fun M65 hM65 => ?_)
      replace hM65 : M65 = mS m41 138 0 (wI (a10 + 1)) := hM65
      have iM65 : I n M65 := wr_Mstories im41 rfl ⟨by omega, by omega⟩ hM65
      have kM65 : Keep n W_X9_story M M65 := km41.st hM65 (Or.inl (Or.inr (Or.inl ⟨by decide, by decide⟩)))
      obtain ⟨svM65, esvM65⟩ : ∃ z, z = (wI (a10 + 1)) := ⟨_, rfl⟩
      refine w_gK (congrArg Prod.fst (kl_126 iM65)) ?_
      refine w_call (s_X9_keepText ⟨by omega, by omega⟩ iM65) ?_
      intro v68 m68 pp68
      obtain ⟨im68, kk68, -⟩ := pp68
      try dsimp only
      replace im68 : I n m68 := im68
      replace kk68 : Keep n W_X9_keepText M65 m68 := kk68
      have km68 : Keep n W_X9_story M m68 := kM65.tr kk68 (fun b j z => by unfold W_X9_keepText at z; exact (Or.inr (Or.inl ⟨by omega, by omega⟩)))
      refine w_gFc (ji := 13) rfl (congrArg Prod.fst (kl_126 im68)) (show mG m68 126 13 = 139 from rd_Model_13 im68 (a := 126) rfl) ?_
      refine w_gFc (ji := 5) rfl (congrArg Prod.fst (kl_126 im68)) (show mG m68 126 5 = 131 from rd_Model_5 im68 (a := 126) rfl) ?_
      refine w_aG (kl_131 im68) (by decide) (by decide) (fun a81 ha81 => ?_)
      have ra81 : 0 ≤ a81 ∧ a81 ≤ 999 := ha81.tr (P := fun z => 0 ≤ z ∧ z ≤ 999) (rd_Mdays im68 rfl)
      refine w_aS (kl_139 im68) (by omega) (by omega) (fun M82 hM82 => ?_)
      replace hM82 : M82 = mS m68 139 a10 a81 := hM82
      have iM82 : I n M82 := wr_MstoryDay im68 rfl ⟨by omega, by omega⟩ hM82
      have kM82 : Keep n W_X9_story M M82 := km68.st hM82 (Or.inl (Or.inr (Or.inl ⟨by decide, by decide⟩)))
      refine w_gFc (ji := 14) rfl (congrArg Prod.fst (kl_126 iM82)) (show mG M82 126 14 = 140 from rd_Model_14 iM82 (a := 126) rfl) ?_
      refine w_aS (kl_140 iM82) (by omega) (by omega) (fun M89 hM89 => ?_)
      replace hM89 : M89 = mS M82 140 a10 (-1) := hM89
      have iM89 : I n M89 := wr_MstruckDay iM82 rfl ⟨by omega, by omega⟩ hM89
      have kM89 : Keep n W_X9_story M M89 := kM82.st hM89 (Or.inl (Or.inr (Or.inl ⟨by decide, by decide⟩)))
      exact w_ret ⟨iM89, kM89, (show (-2) ≤ a10 ∧ a10 ≤ 7 from ⟨by omega, by omega⟩), trivial⟩
def W_X9_guess (b j : Int) : Prop := (128 ≤ b ∧ b ≤ 130) ∨ (141 ≤ b ∧ b ≤ 145) ∨ (155 ≤ b ∧ b ≤ 159) ∨ (b = 126 ∧ j = 0) ∨ (b = 126 ∧ j = 29) ∨ (b = 126 ∧ j = 30) ∨ (b = 126 ∧ j = 31) ∨ (b = 126 ∧ j = 32) ∨ (b = 126 ∧ j = 33) ∨ (b = 126 ∧ j = 34) ∨ (b = 126 ∧ j = 35) ∨ (b = 126 ∧ j = 36) ∨ (b = 126 ∧ j = 37) ∨ (b = 126 ∧ j = 38) ∨ (b = 126 ∧ j = 40)
theorem s_X9_guess {n : Nat} {M : Mem} (iM : I n M) : wp (mX9_guess 126 M) (fun q => I n q.2 ∧ Keep n W_X9_guess M q.2 ∧ ((-1) ≤ q.1 ∧ q.1 ≤ 402) ∧ True) := by
  have hn : (169 : Int) ≤ (n : Int) := by have := iM.2.2.2.2.1; omega
  have kM : Keep n W_X9_guess M M := Keep.rf
  unfold mX9_guess
  refine w_pF (ji := 0) rfl (congrArg Prod.fst (kl_126 iM)) (fun M2 hM2 => ?_)
  replace hM2 : M2 = mS M 126 0 0 := hM2
  have iM2 : I n M2 := wr_Model_0 iM rfl ⟨by omega, by omega⟩ hM2
  have kM2 : Keep n W_X9_guess M M2 := kM.st hM2 (Or.inl (Or.inr (Or.inr (Or.inr (Or.inl ⟨rfl, rfl⟩)))))
  refine w_gK (congrArg Prod.fst (kl_126 iM2)) ?_
  refine w_call (s_X9_readText iM2) ?_
  intro v6 m6 pp6
  obtain ⟨im6, kk6, e6_0, -⟩ := pp6
  try dsimp only
  replace im6 : I n m6 := im6
  replace kk6 : Keep n W_X9_readText M2 m6 := kk6
  have km6 : Keep n W_X9_guess M m6 := kM2.tr kk6 (fun b j z => Or.elim z (fun z => (Or.inl z)) (fun z => Or.elim z (fun z => (Or.inr (Or.inr (Or.inl z)))) (fun z => Or.elim z (fun z => (Or.inr (Or.inr (Or.inr (Or.inr (Or.inl z)))))) (fun z => Or.elim z (fun z => (Or.inr (Or.inr (Or.inr (Or.inr (Or.inr (Or.inl z))))))) (fun z => Or.elim z (fun z => (Or.inr (Or.inr (Or.inr (Or.inr (Or.inr (Or.inr (Or.inl z)))))))) (fun z => Or.elim z (fun z => (Or.inr (Or.inr (Or.inr (Or.inr (Or.inr (Or.inr (Or.inr (Or.inl z))))))))) (fun z => Or.elim z (fun z => (Or.inr (Or.inr (Or.inr (Or.inr (Or.inr (Or.inr (Or.inr (Or.inr (Or.inl z)))))))))) (fun z => Or.elim z (fun z => (Or.inr (Or.inr (Or.inr (Or.inr (Or.inr (Or.inr (Or.inr (Or.inr (Or.inr (Or.inl z))))))))))) (fun z => Or.elim z (fun z => (Or.inr (Or.inr (Or.inr (Or.inr (Or.inr (Or.inr (Or.inr (Or.inr (Or.inr (Or.inr (Or.inl z)))))))))))) (fun z => Or.elim z (fun z => (Or.inr (Or.inr (Or.inr (Or.inr (Or.inr (Or.inr (Or.inr (Or.inr (Or.inr (Or.inr (Or.inr (Or.inl z))))))))))))) (fun z => Or.elim z (fun z => (Or.inr (Or.inr (Or.inr (Or.inr (Or.inr (Or.inr (Or.inr (Or.inr (Or.inr (Or.inr (Or.inr (Or.inr (Or.inl z)))))))))))))) (fun z => Or.elim z (fun z => (Or.inr (Or.inr (Or.inr (Or.inr (Or.inr (Or.inr (Or.inr (Or.inr (Or.inr (Or.inr (Or.inr (Or.inr (Or.inr (Or.inl z))))))))))))))) (fun z => (Or.inr (Or.inr (Or.inr (Or.inr (Or.inr (Or.inr (Or.inr (Or.inr (Or.inr (Or.inr (Or.inr (Or.inr (Or.inr (Or.inr z)))))))))))))))))))))))))))
  replace e6_0 : 0 ≤ v6 ∧ v6 ≤ 1 := e6_0
  refine w_if (fun c1_ => ?_) (fun c1_ => ?_)
  · skip
    exact w_ret ⟨im6, km6, (show (-1) ≤ (-1) ∧ (-1) ≤ 402 from ⟨by omega, by omega⟩), trivial⟩
  · skip
    refine w_gK (congrArg Prod.fst (kl_126 im6)) ?_
    refine w_call (s_X9_keepText ⟨by omega, by omega⟩ im6) ?_
    intro v17 m17 pp17
    obtain ⟨im17, kk17, -⟩ := pp17
    try dsimp only
    replace im17 : I n m17 := im17
    replace kk17 : Keep n W_X9_keepText m6 m17 := kk17
    have km17 : Keep n W_X9_guess M m17 := km6.tr kk17 (fun b j z => by unfold W_X9_keepText at z; exact (Or.inr (Or.inl z)))
    refine w_gF (ji := 40) rfl (congrArg Prod.fst (kl_126 im17)) (fun a21 ha21 => ?_)
    have ra21 : 0 ≤ a21 ∧ a21 ≤ 402 := ha21.tr (P := fun z => 0 ≤ z ∧ z ≤ 402) (rd_Model_40 im17 rfl)
    exact w_ret ⟨im17, km17, (show (-1) ≤ a21 ∧ a21 ≤ 402 from ⟨by omega, by omega⟩), trivial⟩
def W_X9_fault (b j : Int) : Prop := (b = 126 ∧ j = 0)
theorem s_X9_fault {n : Nat} {l1 : Int} {M : Mem} (r_l1 : (-2147483648) ≤ l1 ∧ l1 ≤ 2147483647) (iM : I n M) : wp (mX9_fault 126 l1 M) (fun q => I n q.2 ∧ Keep n W_X9_fault M q.2 ∧ ((-1) ≤ q.1 ∧ q.1 ≤ 400) ∧ True) := by
  have hn : (169 : Int) ≤ (n : Int) := by have := iM.2.2.2.2.1; omega
  have kM : Keep n W_X9_fault M M := Keep.rf
  unfold mX9_fault
  refine w_pF (ji := 0) rfl (congrArg Prod.fst (kl_126 iM)) (fun M2 hM2 => ?_)
  replace hM2 : M2 = mS M 126 0 0 := hM2
  have iM2 : I n M2 := wr_Model_0 iM rfl ⟨by omega, by omega⟩ hM2
  have kM2 : Keep n W_X9_fault M M2 := kM.st hM2 (Or.inl ⟨rfl, rfl⟩)
  refine w_if (fun c1_ => ?_) (fun c1_ => ?_)
  · skip
    refine w_gFc (ji := 3) rfl (congrArg Prod.fst (kl_126 iM2)) (show mG M2 126 3 = 129 from rd_Model_3 iM2 (a := 126) rfl) ?_
    refine w_aG (kl_129 iM2) (by decide) (by decide) (fun a14 ha14 => ?_)
    have ra14 : 0 ≤ a14 ∧ a14 ≤ 5 := ha14.tr (P := fun z => 0 ≤ z ∧ z ≤ 5) (rd_Mfault iM2 rfl)
    exact w_ret ⟨iM2, kM2, (show (-1) ≤ a14 ∧ a14 ≤ 400 from ⟨by omega, by omega⟩), trivial⟩
  · skip
    refine w_if (fun c2_ => ?_) (fun c2_ => ?_)
    · skip
      refine w_gFc (ji := 4) rfl (congrArg Prod.fst (kl_126 iM2)) (show mG M2 126 4 = 130 from rd_Model_4 iM2 (a := 126) rfl) ?_
      refine w_aG (kl_130 iM2) (by decide) (by decide) (fun a28 ha28 => ?_)
      have ra28 : (-1) ≤ a28 ∧ a28 ≤ 400 := ha28.tr (P := fun z => (-1) ≤ z ∧ z ≤ 400) (rd_MfaultPlace iM2 rfl)
      exact w_ret ⟨iM2, kM2, (show (-1) ≤ a28 ∧ a28 ≤ 400 from ⟨by omega, by omega⟩), trivial⟩
    · skip
      exact w_ret ⟨iM2, kM2, (show (-1) ≤ (-1) ∧ (-1) ≤ 400 from ⟨by omega, by omega⟩), trivial⟩
def W_X9_strike (b j : Int) : Prop := b = 140 ∨ (b = 126 ∧ j = 0)
theorem s_X9_strike {n : Nat} {l1 : Int} {M : Mem} (r_l1 : (-2147483648) ≤ l1 ∧ l1 ≤ 2147483647) (iM : I n M) : wp (mX9_strike 126 l1 M) (fun q => I n q.2 ∧ Keep n W_X9_strike M q.2 ∧ (0 ≤ q.1 ∧ q.1 ≤ 1) ∧ True) := by
  have hn : (169 : Int) ≤ (n : Int) := by have := iM.2.2.2.2.1; omega
  have kM : Keep n W_X9_strike M M := Keep.rf
  unfold mX9_strike
  refine w_pF (ji := 0) rfl (congrArg Prod.fst (kl_126 iM)) (fun M2 hM2 => ?_)
  replace hM2 : M2 = mS M 126 0 0 := hM2
  have iM2 : I n M2 := wr_Model_0 iM rfl ⟨by omega, by omega⟩ hM2
  have kM2 : Keep n W_X9_strike M M2 := kM.st hM2 (Or.inl (Or.inr ⟨rfl, rfl⟩))
  refine w_gFc (ji := 12) rfl (congrArg Prod.fst (kl_126 iM2)) (show mG M2 126 12 = 138 from rd_Model_12 iM2 (a := 126) rfl) ?_
  refine w_aG (kl_138 iM2) (by decide) (by decide) (fun a12 ha12 => ?_)
  have ra12 : 0 ≤ a12 ∧ a12 ≤ 8 := ha12.tr (P := fun z => 0 ≤ z ∧ z ≤ 8) (rd_Mstories iM2 rfl)
  have w1_ := wI_id (x := (a12 - 1)) (by omega) (by omega)
  refine w_call (s_X9_in ⟨by omega, by omega⟩ ⟨by omega, by omega⟩ ⟨by omega, by omega⟩ iM2) ?_
  intro v15 m15 pp15
  obtain ⟨im15, kk15, e15_0, e15_1, -⟩ := pp15
  try dsimp only
  replace im15 : I n m15 := im15
  replace kk15 : Keep n W_X9_in M2 m15 := kk15
  have km15 : Keep n W_X9_strike M m15 := kM2.tr kk15 (fun b j z => z.elim)
  replace e15_0 : 0 ≤ v15 ∧ v15 ≤ 1 := e15_0
  replace e15_1 : v15 = 1 → 0 ≤ l1 ∧ l1 ≤ (wI (a12 - 1)) := e15_1
  refine w_if (fun c2_ => ?_) (fun c2_ => ?_)
  · skip
    exact w_ret ⟨im15, km15, (show 0 ≤ 0 ∧ 0 ≤ 1 from ⟨by omega, by omega⟩), trivial⟩
  · skip
    refine w_gFc (ji := 14) rfl (congrArg Prod.fst (kl_126 im15)) (show mG m15 126 14 = 140 from rd_Model_14 im15 (a := 126) rfl) ?_
    refine w_aG (kl_140 im15) (by omega) (by omega) (fun a26 ha26 => ?_)
    have ra26 : (-1) ≤ a26 ∧ a26 ≤ 999 := ha26.tr (P := fun z => (-1) ≤ z ∧ z ≤ 999) (rd_MstruckDay im15 rfl)
    refine w_if (fun c3_ => ?_) (fun c3_ => ?_)
    · skip
      refine w_gFc (ji := 14) rfl (congrArg Prod.fst (kl_126 im15)) (show mG m15 126 14 = 140 from rd_Model_14 im15 (a := 126) rfl) ?_
      refine w_gFc (ji := 5) rfl (congrArg Prod.fst (kl_126 im15)) (show mG m15 126 5 = 131 from rd_Model_5 im15 (a := 126) rfl) ?_
      refine w_aG (kl_131 im15) (by decide) (by decide) (fun a43 ha43 => ?_)
      have ra43 : 0 ≤ a43 ∧ a43 ≤ 999 := ha43.tr (P := fun z => 0 ≤ z ∧ z ≤ 999) (rd_Mdays im15 rfl)
      refine w_aS (kl_140 im15) (by omega) (by omega) (fun M44 hM44 => ?_)
      replace hM44 : M44 = mS m15 140 l1 a43 := hM44
      have iM44 : I n M44 := wr_MstruckDay im15 rfl ⟨by omega, by omega⟩ hM44
      have kM44 : Keep n W_X9_strike M M44 := km15.st hM44 (Or.inl (Or.inl rfl))
      exact w_ret ⟨iM44, kM44, (show 0 ≤ 1 ∧ 1 ≤ 1 from ⟨by omega, by omega⟩), trivial⟩
    · skip
      exact w_ret ⟨im15, km15, (show 0 ≤ 0 ∧ 0 ≤ 1 from ⟨by omega, by omega⟩), trivial⟩
def W_X9_day (b j : Int) : Prop := b = 131 ∨ (b = 126 ∧ j = 0)
theorem s_X9_day {n : Nat} {l1 : Int} {M : Mem} (r_l1 : (-2147483648) ≤ l1 ∧ l1 ≤ 2147483647) (iM : I n M) : wp (mX9_day 126 l1 M) (fun q => I n q.2 ∧ Keep n W_X9_day M q.2 ∧ (0 ≤ q.1 ∧ q.1 ≤ 1) ∧ True) := by
  have hn : (169 : Int) ≤ (n : Int) := by have := iM.2.2.2.2.1; omega
  have kM : Keep n W_X9_day M M := Keep.rf
  unfold mX9_day
  refine w_pF (ji := 0) rfl (congrArg Prod.fst (kl_126 iM)) (fun M2 hM2 => ?_)
  replace hM2 : M2 = mS M 126 0 0 := hM2
  have iM2 : I n M2 := wr_Model_0 iM rfl ⟨by omega, by omega⟩ hM2
  have kM2 : Keep n W_X9_day M M2 := kM.st hM2 (Or.inl (Or.inr ⟨rfl, rfl⟩))
  refine w_gFc (ji := 5) rfl (congrArg Prod.fst (kl_126 iM2)) (show mG M2 126 5 = 131 from rd_Model_5 iM2 (a := 126) rfl) ?_
  refine w_aG (kl_131 iM2) (by decide) (by decide) (fun a11 ha11 => ?_)
  have ra11 : 0 ≤ a11 ∧ a11 ≤ 999 := ha11.tr (P := fun z => 0 ≤ z ∧ z ≤ 999) (rd_Mdays iM2 rfl)
  refine w_call (s_X9_in ⟨by omega, by omega⟩ ⟨by omega, by omega⟩ ⟨by omega, by omega⟩ iM2) ?_
  intro v15 m15 pp15
  obtain ⟨im15, kk15, e15_0, e15_1, -⟩ := pp15
  try dsimp only
  replace im15 : I n m15 := im15
  replace kk15 : Keep n W_X9_in M2 m15 := kk15
  have km15 : Keep n W_X9_day M m15 := kM2.tr kk15 (fun b j z => z.elim)
  replace e15_0 : 0 ≤ v15 ∧ v15 ≤ 1 := e15_0
  replace e15_1 : v15 = 1 → a11 ≤ l1 ∧ l1 ≤ 999 := e15_1
  refine w_if (fun c1_ => ?_) (fun c1_ => ?_)
  · skip
    exact w_ret ⟨im15, km15, (show 0 ≤ 0 ∧ 0 ≤ 1 from ⟨by omega, by omega⟩), trivial⟩
  · skip
    refine w_gFc (ji := 5) rfl (congrArg Prod.fst (kl_126 im15)) (show mG m15 126 5 = 131 from rd_Model_5 im15 (a := 126) rfl) ?_
    refine w_aS (kl_131 im15) (by omega) (by omega) (fun M29 hM29 => ?_)
    replace hM29 : M29 = mS m15 131 0 l1 := hM29
    have iM29 : I n M29 := wr_Mdays im15 rfl ⟨by omega, by omega⟩ hM29
    have kM29 : Keep n W_X9_day M M29 := km15.st hM29 (Or.inl (Or.inl rfl))
    exact w_ret ⟨iM29, kM29, (show 0 ≤ 1 ∧ 1 ≤ 1 from ⟨by omega, by omega⟩), trivial⟩
def W_X9_view (b j : Int) : Prop := b = 132 ∨ (b = 126 ∧ j = 0)
theorem s_X9_view {n : Nat} {l1 : Int} {M : Mem} (r_l1 : (-2147483648) ≤ l1 ∧ l1 ≤ 2147483647) (iM : I n M) : wp (mX9_view 126 l1 M) (fun q => I n q.2 ∧ Keep n W_X9_view M q.2 ∧ (0 ≤ q.1 ∧ q.1 ≤ 1) ∧ True) := by
  have hn : (169 : Int) ≤ (n : Int) := by have := iM.2.2.2.2.1; omega
  have kM : Keep n W_X9_view M M := Keep.rf
  unfold mX9_view
  refine w_pF (ji := 0) rfl (congrArg Prod.fst (kl_126 iM)) (fun M2 hM2 => ?_)
  replace hM2 : M2 = mS M 126 0 0 := hM2
  have iM2 : I n M2 := wr_Model_0 iM rfl ⟨by omega, by omega⟩ hM2
  have kM2 : Keep n W_X9_view M M2 := kM.st hM2 (Or.inl (Or.inr ⟨rfl, rfl⟩))
  refine w_gFc (ji := 5) rfl (congrArg Prod.fst (kl_126 iM2)) (show mG M2 126 5 = 131 from rd_Model_5 iM2 (a := 126) rfl) ?_
  refine w_aG (kl_131 iM2) (by decide) (by decide) (fun a12 ha12 => ?_)
  have ra12 : 0 ≤ a12 ∧ a12 ≤ 999 := ha12.tr (P := fun z => 0 ≤ z ∧ z ≤ 999) (rd_Mdays iM2 rfl)
  refine w_call (s_X9_in ⟨by omega, by omega⟩ ⟨by omega, by omega⟩ ⟨by omega, by omega⟩ iM2) ?_
  intro v13 m13 pp13
  obtain ⟨im13, kk13, e13_0, e13_1, -⟩ := pp13
  try dsimp only
  replace im13 : I n m13 := im13
  replace kk13 : Keep n W_X9_in M2 m13 := kk13
  have km13 : Keep n W_X9_view M m13 := kM2.tr kk13 (fun b j z => z.elim)
  replace e13_0 : 0 ≤ v13 ∧ v13 ≤ 1 := e13_0
  replace e13_1 : v13 = 1 → (-1) ≤ l1 ∧ l1 ≤ a12 := e13_1
  refine w_if (fun c1_ => ?_) (fun c1_ => ?_)
  · skip
    exact w_ret ⟨im13, km13, (show 0 ≤ 0 ∧ 0 ≤ 1 from ⟨by omega, by omega⟩), trivial⟩
  · skip
    refine w_gFc (ji := 6) rfl (congrArg Prod.fst (kl_126 im13)) (show mG m13 126 6 = 132 from rd_Model_6 im13 (a := 126) rfl) ?_
    refine w_aS (kl_132 im13) (by omega) (by omega) (fun M27 hM27 => ?_)
    replace hM27 : M27 = mS m13 132 0 l1 := hM27
    have iM27 : I n M27 := wr_Mviewed im13 rfl ⟨by omega, by omega⟩ hM27
    have kM27 : Keep n W_X9_view M M27 := km13.st hM27 (Or.inl (Or.inl rfl))
    exact w_ret ⟨iM27, kM27, (show 0 ≤ 1 ∧ 1 ≤ 1 from ⟨by omega, by omega⟩), trivial⟩
def W_X9_bringWorld (b j : Int) : Prop := (152 ≤ b ∧ b ≤ 154)
theorem sb_X9_bringWorld_6 {n : Nat} {Me : Mem} {k6 : Int → Int → Mem → Option (Int × Mem)} {fu6 : Nat} (hk6 : ∀ (l1 : Int) (M : Mem), (0 ≤ l1 ∧ l1 ≤ 36) → (NP M) → 37 - l1 < (fu6 : Int) → I n M → Keep n W_X9_bringWorld Me M → wp (k6 126 l1 M) (fun q => I n q.2 ∧ Keep n W_X9_bringWorld Me q.2 ∧ (NP q.2) ∧ True)) {l1 : Int} {M : Mem} (r_l1 : 0 ≤ l1 ∧ l1 ≤ 36) (p_NP : NP M) (hf6 : 37 - l1 < (fu6 : Int) + 1) (iM : I n M) (kM : Keep n W_X9_bringWorld Me M) : wp (bX9_bringWorld_6 k6 126 l1 M) (fun q => I n q.2 ∧ Keep n W_X9_bringWorld Me q.2 ∧ (NP q.2) ∧ True) := by
  have hn : (169 : Int) ≤ (n : Int) := by have := iM.2.2.2.2.1; omega
  unfold bX9_bringWorld_6
  refine w_if (fun c1_ => ?_) (fun c1_ => ?_)
  · skip
    exact w_ret ⟨iM, kM, p_NP, trivial⟩
  · skip
    refine w_gFc (ji := 28) rfl (congrArg Prod.fst (kl_126 iM)) (show mG M 126 28 = 154 from rd_Model_28 iM (a := 126) rfl) ?_
    refine w_gFc (ji := 11) rfl (congrArg Prod.fst (kl_126 iM)) (show mG M 126 11 = 137 from rd_Model_11 iM (a := 126) rfl) ?_
    refine w_aG (kl_137 iM) (by omega) (by omega) (fun a22 ha22 => ?_)
    have ra22 : 0 ≤ a22 ∧ a22 ≤ 1 := ha22.tr (P := fun z => 0 ≤ z ∧ z ≤ 1) (rd_Mworld iM rfl)
    refine w_aSZ (kl_154 iM) (by omega) (by omega) (by omega) (fun M23 hM23 => ?_)
    replace hM23 : M23 = mS M 154 l1 a22 := hM23
    have iM23 : I n M23 := wr_Mis iM rfl ⟨by omega, by omega⟩ hM23
    have kM23 : Keep n W_X9_bringWorld Me M23 := kM.st hM23 (Or.inl ⟨by decide, by decide⟩)
    have w2_ := wI_id (x := (l1 + 1)) (by omega) (by omega)
    have ppNP_M23 : NP M23 := (NP_of p_NP (fun j => st_ne hM23 (fun z => ne_fam rfl rfl (by decide) z.1)))
    exact hk6 _ _ ⟨by omega, by omega⟩ ppNP_M23 (by omega) iM23 kM23
theorem s_X9_bringWorld_6 {n : Nat} {Me : Mem} : ∀ (fu : Nat) (l1 : Int) (M : Mem), (0 ≤ l1 ∧ l1 ≤ 36) → (NP M) → 37 - l1 < (fu : Int) → I n M → Keep n W_X9_bringWorld Me M → wp (mX9_bringWorld_6 fu 126 l1 M) (fun q => I n q.2 ∧ Keep n W_X9_bringWorld Me q.2 ∧ (NP q.2) ∧ True) := by
  intro fu
  induction fu with
  | zero =>
    intro l1 M r_l1 p_NP hf iM kM
    exfalso
    omega
  | succ fu ih =>
    intro l1 M r_l1 p_NP hf iM kM
    exact sb_X9_bringWorld_6 ih r_l1 p_NP (by have e : ((fu + 1 : Nat) : Int) = (fu : Int) + 1 := rfl; rw [e] at hf; exact hf) iM kM
theorem s_X9_bringWorld {n : Nat} {M : Mem} (iM : I n M) : wp (mX9_bringWorld 126 M) (fun q => I n q.2 ∧ Keep n W_X9_bringWorld M q.2 ∧ (NP q.2) ∧ True) := by
  have hn : (169 : Int) ≤ (n : Int) := by have := iM.2.2.2.2.1; omega
  have kM : Keep n W_X9_bringWorld M M := Keep.rf
  unfold mX9_bringWorld
  refine w_gK (congrArg Prod.fst (kl_126 iM)) ?_
  refine w_call (s_X9_bringSizes iM) ?_
  intro v1 m1 pp1
  obtain ⟨im1, kk1, e1_0, -⟩ := pp1
  try dsimp only
  replace im1 : I n m1 := im1
  replace kk1 : Keep n W_X9_bringSizes M m1 := kk1
  have km1 : Keep n W_X9_bringWorld M m1 := kM.tr kk1 (fun b j z => by unfold W_X9_bringSizes at z; exact ⟨by omega, by omega⟩)
  replace e1_0 : NP m1 := e1_0
  have gNP_m1 := e1_0
  exact s_X9_bringWorld_6 FU _ _ ⟨by omega, by omega⟩ gNP_m1 (by show _ < (70000 : Int); omega) im1 km1
def W_X9_join (b j : Int) : Prop := b = 160 ∨ (b = 126 ∧ j = 46)
theorem s_X9_join_183 {n : Nat} {Me : Mem} {k78 : Int → Int → Int → Int → Mem → Option (Int × Mem)} {fu78 : Nat} (hk78 : ∀ (l2 l3 l4 : Int) (M : Mem), (0 ≤ l2 ∧ l2 ≤ 12) → ((-81) ≤ l3 ∧ l3 ≤ 3240) → (0 ≤ l4 ∧ l4 ≤ 81) → (NP M) → 82 - l4 < (fu78 : Int) → I n M → Keep n W_X9_join Me M → wp (k78 126 l2 l3 l4 M) (fun q => I n q.2 ∧ Keep n W_X9_join Me q.2 ∧ True)) {l2 l3 l4 s1 s2 : Int} {M : Mem} (r_l2 : 0 ≤ l2 ∧ l2 ≤ 12) (r_l3 : (-81) ≤ l3 ∧ l3 ≤ 3240) (r_l4 : 0 ≤ l4 ∧ l4 ≤ 80) (r_s1 : (-162) ≤ s1 ∧ s1 ≤ 3239) (r_s2 : 0 ≤ s2 ∧ s2 ≤ 1) (p_NP : NP M) (hf78 : 82 - l4 < (fu78 : Int) + 1) (iM : I n M) (kM : Keep n W_X9_join Me M) : wp (mX9_join_183 k78 126 l2 l3 l4 160 s1 s2 M) (fun q => I n q.2 ∧ Keep n W_X9_join Me q.2 ∧ True) := by
  have hn : (169 : Int) ≤ (n : Int) := by have := iM.2.2.2.2.1; omega
  unfold mX9_join_183
  refine w_aSZ (kl_160 iM) (by omega) (by omega) (by omega) (fun M183 hM183 => ?_)
  replace hM183 : M183 = mS M 160 s1 s2 := hM183
  have iM183 : I n M183 := wr_Mready iM rfl ⟨by omega, by omega⟩ hM183
  have kM183 : Keep n W_X9_join Me M183 := kM.st hM183 (Or.inl (Or.inl rfl))
  have w1_ := wI_id (x := (l4 + 1)) (by omega) (by omega)
  have ppNP_M183 : NP M183 := (NP_of p_NP (fun j => st_ne hM183 (fun z => ne_fam rfl rfl (by decide) z.1)))
  exact hk78 _ _ _ _ ⟨by omega, by omega⟩ ⟨by omega, by omega⟩ ⟨by omega, by omega⟩ ppNP_M183 (by omega) iM183 kM183
theorem s_X9_join_178 {n : Nat} {Me : Mem} {k78 : Int → Int → Int → Int → Mem → Option (Int × Mem)} {fu78 : Nat} (hk78 : ∀ (l2 l3 l4 : Int) (M : Mem), (0 ≤ l2 ∧ l2 ≤ 12) → ((-81) ≤ l3 ∧ l3 ≤ 3240) → (0 ≤ l4 ∧ l4 ≤ 81) → (NP M) → 82 - l4 < (fu78 : Int) → I n M → Keep n W_X9_join Me M → wp (k78 126 l2 l3 l4 M) (fun q => I n q.2 ∧ Keep n W_X9_join Me q.2 ∧ True)) {l2 l3 l4 s1 : Int} {M : Mem} (r_l2 : 0 ≤ l2 ∧ l2 ≤ 12) (r_l3 : (-81) ≤ l3 ∧ l3 ≤ 3240) (r_l4 : 0 ≤ l4 ∧ l4 ≤ 80) (r_s1 : (-162) ≤ s1 ∧ s1 ≤ 3239) (p_NP : NP M) (hf78 : 82 - l4 < (fu78 : Int) + 1) (iM : I n M) (kM : Keep n W_X9_join Me M) : wp (mX9_join_178 k78 126 l2 l3 l4 160 s1 M) (fun q => I n q.2 ∧ Keep n W_X9_join Me q.2 ∧ True) := by
  have hn : (169 : Int) ≤ (n : Int) := by have := iM.2.2.2.2.1; omega
  unfold mX9_join_178
  exact s_X9_join_183 hk78 ⟨by omega, by omega⟩ ⟨by omega, by omega⟩ ⟨by omega, by omega⟩ ⟨by omega, by omega⟩ ⟨by omega, by omega⟩ p_NP (by omega) iM kM
theorem s_X9_join_160 {n : Nat} {Me : Mem} {k78 : Int → Int → Int → Int → Mem → Option (Int × Mem)} {fu78 : Nat} (hk78 : ∀ (l2 l3 l4 : Int) (M : Mem), (0 ≤ l2 ∧ l2 ≤ 12) → ((-81) ≤ l3 ∧ l3 ≤ 3240) → (0 ≤ l4 ∧ l4 ≤ 81) → (NP M) → 82 - l4 < (fu78 : Int) → I n M → Keep n W_X9_join Me M → wp (k78 126 l2 l3 l4 M) (fun q => I n q.2 ∧ Keep n W_X9_join Me q.2 ∧ True)) {l2 l3 l4 s1 : Int} {M : Mem} (r_l2 : 6 ≤ l2 ∧ l2 ≤ 6) (r_l3 : (-81) ≤ l3 ∧ l3 ≤ 3240) (r_l4 : 0 ≤ l4 ∧ l4 ≤ 80) (r_s1 : (-162) ≤ s1 ∧ s1 ≤ 3239) (p_NP : NP M) (hf78 : 82 - l4 < (fu78 : Int) + 1) (iM : I n M) (kM : Keep n W_X9_join Me M) : wp (mX9_join_160 k78 126 l2 l3 l4 160 s1 M) (fun q => I n q.2 ∧ Keep n W_X9_join Me q.2 ∧ True) := by
  have hn : (169 : Int) ≤ (n : Int) := by have := iM.2.2.2.2.1; omega
  unfold mX9_join_160
  exact s_X9_join_183 hk78 ⟨by omega, by omega⟩ ⟨by omega, by omega⟩ ⟨by omega, by omega⟩ ⟨by omega, by omega⟩ ⟨by omega, by omega⟩ p_NP (by omega) iM kM
theorem s_X9_join_140 {n : Nat} {Me : Mem} {k78 : Int → Int → Int → Int → Mem → Option (Int × Mem)} {fu78 : Nat} (hk78 : ∀ (l2 l3 l4 : Int) (M : Mem), (0 ≤ l2 ∧ l2 ≤ 12) → ((-81) ≤ l3 ∧ l3 ≤ 3240) → (0 ≤ l4 ∧ l4 ≤ 81) → (NP M) → 82 - l4 < (fu78 : Int) → I n M → Keep n W_X9_join Me M → wp (k78 126 l2 l3 l4 M) (fun q => I n q.2 ∧ Keep n W_X9_join Me q.2 ∧ True)) {l2 l3 l4 s1 : Int} {M : Mem} (r_l2 : 5 ≤ l2 ∧ l2 ≤ 5) (r_l3 : (-81) ≤ l3 ∧ l3 ≤ 3240) (r_l4 : 0 ≤ l4 ∧ l4 ≤ 80) (r_s1 : (-162) ≤ s1 ∧ s1 ≤ 3239) (p_NP : NP M) (hf78 : 82 - l4 < (fu78 : Int) + 1) (iM : I n M) (kM : Keep n W_X9_join Me M) : wp (mX9_join_140 k78 126 l2 l3 l4 160 s1 M) (fun q => I n q.2 ∧ Keep n W_X9_join Me q.2 ∧ True) := by
  have hn : (169 : Int) ≤ (n : Int) := by have := iM.2.2.2.2.1; omega
  unfold mX9_join_140
  exact s_X9_join_183 hk78 ⟨by omega, by omega⟩ ⟨by omega, by omega⟩ ⟨by omega, by omega⟩ ⟨by omega, by omega⟩ ⟨by omega, by omega⟩ p_NP (by omega) iM kM
theorem sb_X9_join_78 {n : Nat} {Me : Mem} {k78 : Int → Int → Int → Int → Mem → Option (Int × Mem)} {fu78 : Nat} (hk78 : ∀ (l2 l3 l4 : Int) (M : Mem), (0 ≤ l2 ∧ l2 ≤ 12) → ((-81) ≤ l3 ∧ l3 ≤ 3240) → (0 ≤ l4 ∧ l4 ≤ 81) → (NP M) → 82 - l4 < (fu78 : Int) → I n M → Keep n W_X9_join Me M → wp (k78 126 l2 l3 l4 M) (fun q => I n q.2 ∧ Keep n W_X9_join Me q.2 ∧ True)) {l2 l3 l4 : Int} {M : Mem} (r_l2 : 0 ≤ l2 ∧ l2 ≤ 12) (r_l3 : (-81) ≤ l3 ∧ l3 ≤ 3240) (r_l4 : 0 ≤ l4 ∧ l4 ≤ 81) (p_NP : NP M) (hf78 : 82 - l4 < (fu78 : Int) + 1) (iM : I n M) (kM : Keep n W_X9_join Me M) : wp (bX9_join_78 k78 126 l2 l3 l4 M) (fun q => I n q.2 ∧ Keep n W_X9_join Me q.2 ∧ True) := by
  have hn : (169 : Int) ≤ (n : Int) := by have := iM.2.2.2.2.1; omega
  unfold bX9_join_78
  refine w_if (fun c1_ => ?_) (fun c1_ => ?_)
  · skip
    exact w_ret ⟨iM, kM, trivial⟩
  · skip
    refine w_gFc (ji := 45) rfl (congrArg Prod.fst (kl_126 iM)) (show mG M 126 45 = 160 from rd_Model_45 iM (a := 126) rfl) ?_
    have w2_ := wI_id (x := (l3 + l4)) (by omega) (by omega)
    refine w_aG (kl_160 iM) (by omega) (by omega) (fun a93 ha93 => ?_)
    have ra93 : 0 ≤ a93 ∧ a93 ≤ 1 := ha93.tr (P := fun z => 0 ≤ z ∧ z ≤ 1) (rd_Mready iM rfl)
    refine w_gFc (ji := 45) rfl (congrArg Prod.fst (kl_126 iM)) (show mG M 126 45 = 160 from rd_Model_45 iM (a := 126) rfl) ?_
    have w3_ := wI_id (x := (l3 - 81)) (by omega) (by omega)
    have w4_ := wI_id (x := ((wI (l3 - 81)) + l4)) (by omega) (by omega)
    refine w_aG (kl_160 iM) (by omega) (by omega) (fun a107 ha107 => ?_)
    have ra107 : 0 ≤ a107 ∧ a107 ≤ 1 := ha107.tr (P := fun z => 0 ≤ z ∧ z ≤ 1) (rd_Mready iM rfl)
    refine w_gFc (ji := 45) rfl (congrArg Prod.fst (kl_126 iM)) (show mG M 126 45 = 160 from rd_Model_45 iM (a := 126) rfl) ?_
    refine w_if (fun c5_ => ?_) (fun c5_ => ?_)
    · skip
      refine w_if (fun c6_ => ?_) (fun c6_ => ?_)
      · skip
        exact s_X9_join_140 hk78 ⟨by omega, by omega⟩ ⟨by omega, by omega⟩ ⟨by omega, by omega⟩ ⟨by omega, by omega⟩ p_NP (by omega) iM kM
      · skip
        refine w_if (fun c7_ => ?_) (fun c7_ => ?_)
        · skip
          exact s_X9_join_140 hk78 ⟨by omega, by omega⟩ ⟨by omega, by omega⟩ ⟨by omega, by omega⟩ ⟨by omega, by omega⟩ p_NP (by omega) iM kM
        · skip
          exact s_X9_join_183 hk78 ⟨by omega, by omega⟩ ⟨by omega, by omega⟩ ⟨by omega, by omega⟩ ⟨by omega, by omega⟩ ⟨by omega, by omega⟩ p_NP (by omega) iM kM
    · skip
      refine w_if (fun c8_ => ?_) (fun c8_ => ?_)
      · skip
        refine w_if (fun c9_ => ?_) (fun c9_ => ?_)
        · skip
          refine w_if (fun c10_ => ?_) (fun c10_ => ?_)
          · skip
            exact s_X9_join_183 hk78 ⟨by omega, by omega⟩ ⟨by omega, by omega⟩ ⟨by omega, by omega⟩ ⟨by omega, by omega⟩ ⟨by omega, by omega⟩ p_NP (by omega) iM kM
          · skip
            exact s_X9_join_160 hk78 ⟨by omega, by omega⟩ ⟨by omega, by omega⟩ ⟨by omega, by omega⟩ ⟨by omega, by omega⟩ p_NP (by omega) iM kM
        · skip
          exact s_X9_join_160 hk78 ⟨by omega, by omega⟩ ⟨by omega, by omega⟩ ⟨by omega, by omega⟩ ⟨by omega, by omega⟩ p_NP (by omega) iM kM
      · skip
        refine w_if (fun c11_ => ?_) (fun c11_ => ?_)
        · skip
          exact s_X9_join_178 hk78 ⟨by omega, by omega⟩ ⟨by omega, by omega⟩ ⟨by omega, by omega⟩ ⟨by omega, by omega⟩ p_NP (by omega) iM kM
        · skip
          refine w_if (fun c12_ => ?_) (fun c12_ => ?_)
          · skip
            exact s_X9_join_183 hk78 ⟨by omega, by omega⟩ ⟨by omega, by omega⟩ ⟨by omega, by omega⟩ ⟨by omega, by omega⟩ ⟨by omega, by omega⟩ p_NP (by omega) iM kM
          · skip
            exact s_X9_join_178 hk78 ⟨by omega, by omega⟩ ⟨by omega, by omega⟩ ⟨by omega, by omega⟩ ⟨by omega, by omega⟩ p_NP (by omega) iM kM
theorem s_X9_join_78 {n : Nat} {Me : Mem} : ∀ (fu : Nat) (l2 l3 l4 : Int) (M : Mem), (0 ≤ l2 ∧ l2 ≤ 12) → ((-81) ≤ l3 ∧ l3 ≤ 3240) → (0 ≤ l4 ∧ l4 ≤ 81) → (NP M) → 82 - l4 < (fu : Int) → I n M → Keep n W_X9_join Me M → wp (mX9_join_78 fu 126 l2 l3 l4 M) (fun q => I n q.2 ∧ Keep n W_X9_join Me q.2 ∧ True) := by
  intro fu
  induction fu with
  | zero =>
    intro l2 l3 l4 M r_l2 r_l3 r_l4 p_NP hf iM kM
    exfalso
    omega
  | succ fu ih =>
    intro l2 l3 l4 M r_l2 r_l3 r_l4 p_NP hf iM kM
    exact sb_X9_join_78 ih r_l2 r_l3 r_l4 p_NP (by have e : ((fu + 1 : Nat) : Int) = (fu : Int) + 1 := rfl; rw [e] at hf; exact hf) iM kM
theorem s_X9_join_57 {n : Nat} {Me : Mem} {k25 : Int → Int → Int → Mem → Option (Int × Mem)} {fu25 : Nat} (hk25 : ∀ (l3 l4 : Int) (M : Mem), ((-81) ≤ l3 ∧ l3 ≤ 3240) → (0 ≤ l4 ∧ l4 ≤ 81) → (NP M) → 82 - l4 < (fu25 : Int) → I n M → Keep n W_X9_join Me M → wp (k25 126 l3 l4 M) (fun q => I n q.2 ∧ Keep n W_X9_join Me q.2 ∧ True)) {l3 l4 s1 s2 : Int} {M : Mem} (r_l3 : (-81) ≤ l3 ∧ l3 ≤ 3240) (r_l4 : 0 ≤ l4 ∧ l4 ≤ 80) (r_s1 : (-81) ≤ s1 ∧ s1 ≤ 3320) (r_s2 : 0 ≤ s2 ∧ s2 ≤ 1) (p_NP : NP M) (hf25 : 82 - l4 < (fu25 : Int) + 1) (iM : I n M) (kM : Keep n W_X9_join Me M) : wp (mX9_join_57 k25 126 l3 l4 160 s1 s2 M) (fun q => I n q.2 ∧ Keep n W_X9_join Me q.2 ∧ True) := by
  have hn : (169 : Int) ≤ (n : Int) := by have := iM.2.2.2.2.1; omega
  unfold mX9_join_57
  refine w_aSZ (kl_160 iM) (by omega) (by omega) (by omega) (fun M57 hM57 => ?_)
  replace hM57 : M57 = mS M 160 s1 s2 := hM57
  have iM57 : I n M57 := wr_Mready iM rfl ⟨by omega, by omega⟩ hM57
  have kM57 : Keep n W_X9_join Me M57 := kM.st hM57 (Or.inl (Or.inl rfl))
  have w1_ := wI_id (x := (l4 + 1)) (by omega) (by omega)
  have ppNP_M57 : NP M57 := (NP_of p_NP (fun j => st_ne hM57 (fun z => ne_fam rfl rfl (by decide) z.1)))
  exact hk25 _ _ _ ⟨by omega, by omega⟩ ⟨by omega, by omega⟩ ppNP_M57 (by omega) iM57 kM57
theorem sb_X9_join_25 {n : Nat} {Me : Mem} {k25 : Int → Int → Int → Mem → Option (Int × Mem)} {fu25 : Nat} (hk25 : ∀ (l3 l4 : Int) (M : Mem), ((-81) ≤ l3 ∧ l3 ≤ 3240) → (0 ≤ l4 ∧ l4 ≤ 81) → (NP M) → 82 - l4 < (fu25 : Int) → I n M → Keep n W_X9_join Me M → wp (k25 126 l3 l4 M) (fun q => I n q.2 ∧ Keep n W_X9_join Me q.2 ∧ True)) {l3 l4 : Int} {M : Mem} (r_l3 : (-81) ≤ l3 ∧ l3 ≤ 3240) (r_l4 : 0 ≤ l4 ∧ l4 ≤ 81) (p_NP : NP M) (hf25 : 82 - l4 < (fu25 : Int) + 1) (iM : I n M) (kM : Keep n W_X9_join Me M) : wp (bX9_join_25 k25 126 l3 l4 M) (fun q => I n q.2 ∧ Keep n W_X9_join Me q.2 ∧ True) := by
  have hn : (169 : Int) ≤ (n : Int) := by have := iM.2.2.2.2.1; omega
  unfold bX9_join_25
  refine w_if (fun c1_ => ?_) (fun c1_ => ?_)
  · skip
    exact w_ret ⟨iM, kM, trivial⟩
  · skip
    refine w_gFc (ji := 45) rfl (congrArg Prod.fst (kl_126 iM)) (show mG M 126 45 = 160 from rd_Model_45 iM (a := 126) rfl) ?_
    refine w_gFc (ji := 45) rfl (congrArg Prod.fst (kl_126 iM)) (show mG M 126 45 = 160 from rd_Model_45 iM (a := 126) rfl) ?_
    have w2_ := wI_id (x := (l3 + l4)) (by omega) (by omega)
    refine w_aG (kl_160 iM) (by omega) (by omega) (fun a48 ha48 => ?_)
    have ra48 : 0 ≤ a48 ∧ a48 ≤ 1 := ha48.tr (P := fun z => 0 ≤ z ∧ z ≤ 1) (rd_Mready iM rfl)
    refine w_if (fun c3_ => ?_) (fun c3_ => ?_)
    · skip
      exact s_X9_join_57 hk25 ⟨by omega, by omega⟩ ⟨by omega, by omega⟩ ⟨by omega, by omega⟩ ⟨by omega, by omega⟩ p_NP (by omega) iM kM
    · skip
      exact s_X9_join_57 hk25 ⟨by omega, by omega⟩ ⟨by omega, by omega⟩ ⟨by omega, by omega⟩ ⟨by omega, by omega⟩ p_NP (by omega) iM kM
theorem s_X9_join_25 {n : Nat} {Me : Mem} : ∀ (fu : Nat) (l3 l4 : Int) (M : Mem), ((-81) ≤ l3 ∧ l3 ≤ 3240) → (0 ≤ l4 ∧ l4 ≤ 81) → (NP M) → 82 - l4 < (fu : Int) → I n M → Keep n W_X9_join Me M → wp (mX9_join_25 fu 126 l3 l4 M) (fun q => I n q.2 ∧ Keep n W_X9_join Me q.2 ∧ True) := by
  intro fu
  induction fu with
  | zero =>
    intro l3 l4 M r_l3 r_l4 p_NP hf iM kM
    exfalso
    omega
  | succ fu ih =>
    intro l3 l4 M r_l3 r_l4 p_NP hf iM kM
    exact sb_X9_join_25 ih r_l3 r_l4 p_NP (by have e : ((fu + 1 : Nat) : Int) = (fu : Int) + 1 := rfl; rw [e] at hf; exact hf) iM kM
theorem s_X9_join {n : Nat} {l1 : Int} {M : Mem} (r_l1 : (-2147483648) ≤ l1 ∧ l1 ≤ 2147483647) (p_NP : NP M) (iM : I n M) : wp (mX9_join 126 l1 M) (fun q => I n q.2 ∧ Keep n W_X9_join M q.2 ∧ True) := by
  have hn : (169 : Int) ≤ (n : Int) := by have := iM.2.2.2.2.1; omega
  have kM : Keep n W_X9_join M M := Keep.rf
  unfold mX9_join
  refine w_gFc (ji := 16) rfl (congrArg Prod.fst (kl_126 iM)) (show mG M 126 16 = 142 from rd_Model_16 iM (a := 126) rfl) ?_
  refine w_aG (kl_142 iM) (by omega) (by omega) (fun a5 ha5 => ?_)
  have ra5 : 0 ≤ a5 ∧ a5 ≤ 12 := ha5.tr (P := fun z => 0 ≤ z ∧ z ≤ 12) (rd_Mact iM rfl)
  refine w_gF (ji := 46) rfl (congrArg Prod.fst (kl_126 iM)) (fun a10 ha10 => ?_)
  have ra10 : 0 ≤ a10 ∧ a10 ≤ 41 := ha10.tr (P := fun z => 0 ≤ z ∧ z ≤ 41) (rd_Model_46 iM rfl)
  have w1_ := wI_id (x := (a10 - 1)) (by omega) (by omega)
  have w2_ := wI_id (x := (81 * (wI (a10 - 1)))) (by omega) (by omega)
  refine w_some (fun b16 hb16 => ?_)
  replace hb16 : b16 = (wI (81 * (wI (a10 - 1)))) := hb16
  refine w_if (fun c3_ => ?_) (fun c3_ => ?_)
  · skip
    exact s_X9_join_25 FU _ _ _ ⟨by omega, by omega⟩ ⟨by omega, by omega⟩ p_NP (by show _ < (70000 : Int); omega) iM kM
  · skip
    refine w_gFc (ji := 46) rfl (congrArg Prod.fst (kl_126 iM)) (show mG M 126 46 = a10 from (show mG M 126 46 = a10 from ha10)) ?_
    refine w_pF (ji := 46) rfl (congrArg Prod.fst (kl_126 iM)) (fun M72 hM72 => ?_)
    replace hM72 : M72 = mS M 126 46 (wI (a10 - 1)) := hM72
    have iM72 : I n M72 := wr_Model_46 iM rfl ⟨by omega, by omega⟩ hM72
    have kM72 : Keep n W_X9_join M M72 := kM.st hM72 (Or.inl (Or.inr ⟨rfl, rfl⟩))
    obtain ⟨svM72, esvM72⟩ : ∃ z, z = (wI (a10 - 1)) := ⟨_, rfl⟩
    have ppNP_M72 : NP M72 := (NP_of p_NP (fun j => st_ne hM72 (fun z => ne_fam rfl rfl (by decide) z.1)))
    exact s_X9_join_78 FU _ _ _ _ ⟨by omega, by omega⟩ ⟨by omega, by omega⟩ ⟨by omega, by omega⟩ ppNP_M72 (by show _ < (70000 : Int); omega) iM72 kM72
def W_X9_unit (b j : Int) : Prop := False
theorem s_X9_unit {n : Nat} {l0 : Int} {M : Mem} (r_l0 : (-2147483648) ≤ l0 ∧ l0 ≤ 2147483647) (iM : I n M) : wp (mX9_unit l0 M) (fun q => I n q.2 ∧ Keep n W_X9_unit M q.2 ∧ (1 ≤ q.1 ∧ q.1 ≤ 27) ∧ True) := by
  have hn : (169 : Int) ≤ (n : Int) := by have := iM.2.2.2.2.1; omega
  have kM : Keep n W_X9_unit M M := Keep.rf
  unfold mX9_unit
  refine w_if (fun c1_ => ?_) (fun c1_ => ?_)
  · skip
    exact w_ret ⟨iM, kM, (show 1 ≤ 1 ∧ 1 ≤ 27 from ⟨by omega, by omega⟩), trivial⟩
  · skip
    refine w_if (fun c2_ => ?_) (fun c2_ => ?_)
    · skip
      exact w_ret ⟨iM, kM, (show 1 ≤ 3 ∧ 3 ≤ 27 from ⟨by omega, by omega⟩), trivial⟩
    · skip
      refine w_if (fun c3_ => ?_) (fun c3_ => ?_)
      · skip
        exact w_ret ⟨iM, kM, (show 1 ≤ 9 ∧ 9 ≤ 27 from ⟨by omega, by omega⟩), trivial⟩
      · skip
        exact w_ret ⟨iM, kM, (show 1 ≤ 27 ∧ 27 ≤ 27 from ⟨by omega, by omega⟩), trivial⟩
def W_X9_bind (b j : Int) : Prop := b = 160
theorem s_X9_bind_226 {n : Nat} {Me : Mem} {k36 : Int → Int → Int → Int → Int → Int → Mem → Option (Int × Mem)} {fu36 : Nat} (hk36 : ∀ (l1 l2 l3 l4 l5 : Int) (M : Mem), ((-2147483648) ≤ l1 ∧ l1 ≤ 2147483647) → (1 ≤ l2 ∧ l2 ≤ 27) → (1 ≤ l3 ∧ l3 ≤ 3) → ((-81) ≤ l4 ∧ l4 ≤ 3240) → (0 ≤ l5 ∧ l5 ≤ 81) → (NP M) → 82 - l5 < (fu36 : Int) → I n M → Keep n W_X9_bind Me M → wp (k36 126 l1 l2 l3 l4 l5 M) (fun q => I n q.2 ∧ Keep n W_X9_bind Me q.2 ∧ True)) {l1 l2 l3 l4 l5 : Int} {M : Mem} (r_l1 : (-2147483648) ≤ l1 ∧ l1 ≤ 2147483647) (r_l2 : 1 ≤ l2 ∧ l2 ≤ 27) (r_l3 : 1 ≤ l3 ∧ l3 ≤ 3) (r_l4 : (-81) ≤ l4 ∧ l4 ≤ 3240) (r_l5 : 0 ≤ l5 ∧ l5 ≤ 80) (p_NP : NP M) (hf36 : 82 - l5 < (fu36 : Int) + 1) (iM : I n M) (kM : Keep n W_X9_bind Me M) : wp (mX9_bind_226 k36 126 l1 l2 l3 l4 l5 M) (fun q => I n q.2 ∧ Keep n W_X9_bind Me q.2 ∧ True) := by
  have hn : (169 : Int) ≤ (n : Int) := by have := iM.2.2.2.2.1; omega
  unfold mX9_bind_226
  have w1_ := wI_id (x := (l5 + 1)) (by omega) (by omega)
  exact hk36 _ _ _ _ _ _ ⟨by omega, by omega⟩ ⟨by omega, by omega⟩ ⟨by omega, by omega⟩ ⟨by omega, by omega⟩ ⟨by omega, by omega⟩ p_NP (by omega) iM kM
theorem sb_X9_bind_197 {n : Nat} {Me : Mem} {k36 : Int → Int → Int → Int → Int → Int → Mem → Option (Int × Mem)} {fu36 : Nat} (hk36 : ∀ (l1 l2 l3 l4 l5 : Int) (M : Mem), ((-2147483648) ≤ l1 ∧ l1 ≤ 2147483647) → (1 ≤ l2 ∧ l2 ≤ 27) → (1 ≤ l3 ∧ l3 ≤ 3) → ((-81) ≤ l4 ∧ l4 ≤ 3240) → (0 ≤ l5 ∧ l5 ≤ 81) → (NP M) → 82 - l5 < (fu36 : Int) → I n M → Keep n W_X9_bind Me M → wp (k36 126 l1 l2 l3 l4 l5 M) (fun q => I n q.2 ∧ Keep n W_X9_bind Me q.2 ∧ True)) {k197 : Int → Int → Int → Int → Int → Int → Int → Int → Mem → Option (Int × Mem)} {fu197 : Nat} (hk197 : ∀ (l1 l2 l3 l4 l5 l7 l8 : Int) (M : Mem), ((-2147483648) ≤ l1 ∧ l1 ≤ 2147483647) → (1 ≤ l2 ∧ l2 ≤ 27) → (1 ≤ l3 ∧ l3 ≤ 3) → ((-81) ≤ l4 ∧ l4 ≤ 3240) → (0 ≤ l5 ∧ l5 ≤ 80) → (0 ≤ l7 ∧ l7 ≤ 1) → (0 ≤ l8 ∧ l8 ≤ 3) → (NP M) → 82 - l5 < (fu36 : Int) + 1 → 4 - l8 < (fu197 : Int) → I n M → Keep n W_X9_bind Me M → wp (k197 126 l1 l2 l3 l4 l5 l7 l8 M) (fun q => I n q.2 ∧ Keep n W_X9_bind Me q.2 ∧ True)) {l1 l2 l3 l4 l5 l7 l8 : Int} {M : Mem} (r_l1 : (-2147483648) ≤ l1 ∧ l1 ≤ 2147483647) (r_l2 : 1 ≤ l2 ∧ l2 ≤ 27) (r_l3 : 1 ≤ l3 ∧ l3 ≤ 3) (r_l4 : (-81) ≤ l4 ∧ l4 ≤ 3240) (r_l5 : 0 ≤ l5 ∧ l5 ≤ 80) (r_l7 : 0 ≤ l7 ∧ l7 ≤ 1) (r_l8 : 0 ≤ l8 ∧ l8 ≤ 3) (p_NP : NP M) (hf36 : 82 - l5 < (fu36 : Int) + 1) (hf197 : 4 - l8 < (fu197 : Int) + 1) (iM : I n M) (kM : Keep n W_X9_bind Me M) : wp (bX9_bind_197 k36 k197 126 l1 l2 l3 l4 l5 l7 l8 M) (fun q => I n q.2 ∧ Keep n W_X9_bind Me q.2 ∧ True) := by
  have hn : (169 : Int) ≤ (n : Int) := by have := iM.2.2.2.2.1; omega
  unfold bX9_bind_197
  refine w_if (fun c1_ => ?_) (fun c1_ => ?_)
  · skip
    exact s_X9_bind_226 hk36 ⟨by omega, by omega⟩ ⟨by omega, by omega⟩ ⟨by omega, by omega⟩ ⟨by omega, by omega⟩ ⟨by omega, by omega⟩ p_NP (by omega) iM kM
  · skip
    refine w_gFc (ji := 45) rfl (congrArg Prod.fst (kl_126 iM)) (show mG M 126 45 = 160 from rd_Model_45 iM (a := 126) rfl) ?_
    have w2_ := wI_id (x := (l4 + l5)) (by omega) (by omega)
    have w3_ := mul_b (x := l8) (y := l2) (a := 2) (b := 27) (by omega) (by omega) (by omega) (by omega)
    have w4_ := wI_id (x := (l8 * l2)) (by omega) (by omega)
    have w5_ := wI_id (x := ((wI (l4 + l5)) + (wI (l8 * l2)))) (by omega) (by omega)
    refine w_aSZ (kl_160 iM) (by omega) (by omega) (by omega) (fun M219 hM219 => ?_)
    replace hM219 : M219 = mS M 160 (wI ((wI (l4 + l5)) + (wI (l8 * l2)))) l7 := hM219
    have iM219 : I n M219 := wr_Mready iM rfl ⟨by omega, by omega⟩ hM219
    have kM219 : Keep n W_X9_bind Me M219 := kM.st hM219 (Or.inl rfl)
    have w6_ := wI_id (x := (l8 + 1)) (by omega) (by omega)
    have ppNP_M219 : NP M219 := (NP_of p_NP (fun j => st_ne hM219 (fun z => ne_fam rfl rfl (by decide) z.1)))
    exact hk197 _ _ _ _ _ _ _ _ ⟨by omega, by omega⟩ ⟨by omega, by omega⟩ ⟨by omega, by omega⟩ ⟨by omega, by omega⟩ ⟨by omega, by omega⟩ ⟨by omega, by omega⟩ ⟨by omega, by omega⟩ ppNP_M219 (by omega) (by omega) iM219 kM219
theorem s_X9_bind_197 {n : Nat} {Me : Mem} {k36 : Int → Int → Int → Int → Int → Int → Mem → Option (Int × Mem)} {fu36 : Nat} (hk36 : ∀ (l1 l2 l3 l4 l5 : Int) (M : Mem), ((-2147483648) ≤ l1 ∧ l1 ≤ 2147483647) → (1 ≤ l2 ∧ l2 ≤ 27) → (1 ≤ l3 ∧ l3 ≤ 3) → ((-81) ≤ l4 ∧ l4 ≤ 3240) → (0 ≤ l5 ∧ l5 ≤ 81) → (NP M) → 82 - l5 < (fu36 : Int) → I n M → Keep n W_X9_bind Me M → wp (k36 126 l1 l2 l3 l4 l5 M) (fun q => I n q.2 ∧ Keep n W_X9_bind Me q.2 ∧ True)) : ∀ (fu : Nat) (l1 l2 l3 l4 l5 l7 l8 : Int) (M : Mem), ((-2147483648) ≤ l1 ∧ l1 ≤ 2147483647) → (1 ≤ l2 ∧ l2 ≤ 27) → (1 ≤ l3 ∧ l3 ≤ 3) → ((-81) ≤ l4 ∧ l4 ≤ 3240) → (0 ≤ l5 ∧ l5 ≤ 80) → (0 ≤ l7 ∧ l7 ≤ 1) → (0 ≤ l8 ∧ l8 ≤ 3) → (NP M) → 82 - l5 < (fu36 : Int) + 1 → 4 - l8 < (fu : Int) → I n M → Keep n W_X9_bind Me M → wp (mX9_bind_197 k36 fu 126 l1 l2 l3 l4 l5 l7 l8 M) (fun q => I n q.2 ∧ Keep n W_X9_bind Me q.2 ∧ True) := by
  intro fu
  induction fu with
  | zero =>
    intro l1 l2 l3 l4 l5 l7 l8 M r_l1 r_l2 r_l3 r_l4 r_l5 r_l7 r_l8 p_NP hf36 hf iM kM
    exfalso
    omega
  | succ fu ih =>
    intro l1 l2 l3 l4 l5 l7 l8 M r_l1 r_l2 r_l3 r_l4 r_l5 r_l7 r_l8 p_NP hf36 hf iM kM
    exact sb_X9_bind_197 hk36 ih r_l1 r_l2 r_l3 r_l4 r_l5 r_l7 r_l8 p_NP hf36 (by have e : ((fu + 1 : Nat) : Int) = (fu : Int) + 1 := rfl; rw [e] at hf; exact hf) iM kM
theorem s_X9_bind_192 {n : Nat} {Me : Mem} {k36 : Int → Int → Int → Int → Int → Int → Mem → Option (Int × Mem)} {fu36 : Nat} (hk36 : ∀ (l1 l2 l3 l4 l5 : Int) (M : Mem), ((-2147483648) ≤ l1 ∧ l1 ≤ 2147483647) → (1 ≤ l2 ∧ l2 ≤ 27) → (1 ≤ l3 ∧ l3 ≤ 3) → ((-81) ≤ l4 ∧ l4 ≤ 3240) → (0 ≤ l5 ∧ l5 ≤ 81) → (NP M) → 82 - l5 < (fu36 : Int) → I n M → Keep n W_X9_bind Me M → wp (k36 126 l1 l2 l3 l4 l5 M) (fun q => I n q.2 ∧ Keep n W_X9_bind Me q.2 ∧ True)) {l1 l2 l3 l4 l5 s0 : Int} {M : Mem} (r_l1 : (-2147483648) ≤ l1 ∧ l1 ≤ 2147483647) (r_l2 : 1 ≤ l2 ∧ l2 ≤ 27) (r_l3 : 1 ≤ l3 ∧ l3 ≤ 3) (r_l4 : (-81) ≤ l4 ∧ l4 ≤ 3240) (r_l5 : 0 ≤ l5 ∧ l5 ≤ 80) (r_s0 : 0 ≤ s0 ∧ s0 ≤ 1) (p_NP : NP M) (hf36 : 82 - l5 < (fu36 : Int) + 1) (iM : I n M) (kM : Keep n W_X9_bind Me M) : wp (mX9_bind_192 k36 126 l1 l2 l3 l4 l5 s0 M) (fun q => I n q.2 ∧ Keep n W_X9_bind Me q.2 ∧ True) := by
  have hn : (169 : Int) ≤ (n : Int) := by have := iM.2.2.2.2.1; omega
  unfold mX9_bind_192
  exact s_X9_bind_197 hk36 FU _ _ _ _ _ _ _ _ ⟨by omega, by omega⟩ ⟨by omega, by omega⟩ ⟨by omega, by omega⟩ ⟨by omega, by omega⟩ ⟨by omega, by omega⟩ ⟨by omega, by omega⟩ ⟨by omega, by omega⟩ p_NP (by omega) (by show _ < (70000 : Int); omega) iM kM
theorem s_X9_bind_92 {n : Nat} {Me : Mem} {k36 : Int → Int → Int → Int → Int → Int → Mem → Option (Int × Mem)} {fu36 : Nat} (hk36 : ∀ (l1 l2 l3 l4 l5 : Int) (M : Mem), ((-2147483648) ≤ l1 ∧ l1 ≤ 2147483647) → (1 ≤ l2 ∧ l2 ≤ 27) → (1 ≤ l3 ∧ l3 ≤ 3) → ((-81) ≤ l4 ∧ l4 ≤ 3240) → (0 ≤ l5 ∧ l5 ≤ 81) → (NP M) → 82 - l5 < (fu36 : Int) → I n M → Keep n W_X9_bind Me M → wp (k36 126 l1 l2 l3 l4 l5 M) (fun q => I n q.2 ∧ Keep n W_X9_bind Me q.2 ∧ True)) {k61 : Int → Int → Int → Int → Int → Int → Int → Int → Mem → Option (Int × Mem)} {fu61 : Nat} (hk61 : ∀ (l1 l2 l3 l4 l5 l6 l7 : Int) (M : Mem), ((-2147483648) ≤ l1 ∧ l1 ≤ 2147483647) → (1 ≤ l2 ∧ l2 ≤ 27) → (1 ≤ l3 ∧ l3 ≤ 3) → ((-81) ≤ l4 ∧ l4 ≤ 3240) → (0 ≤ l5 ∧ l5 ≤ 80) → ((-2147483648) ≤ l6 ∧ l6 ≤ 2147483647) → (0 ≤ l7 ∧ l7 ≤ 3) → (NP M) → 82 - l5 < (fu36 : Int) + 1 → 4 - l7 < (fu61 : Int) → I n M → Keep n W_X9_bind Me M → wp (k61 126 l1 l2 l3 l4 l5 l6 l7 M) (fun q => I n q.2 ∧ Keep n W_X9_bind Me q.2 ∧ True)) {l1 l2 l3 l4 l5 l7 s0 s1 : Int} {M : Mem} (r_l1 : (-2147483648) ≤ l1 ∧ l1 ≤ 2147483647) (r_l2 : 1 ≤ l2 ∧ l2 ≤ 27) (r_l3 : 1 ≤ l3 ∧ l3 ≤ 3) (r_l4 : (-81) ≤ l4 ∧ l4 ≤ 3240) (r_l5 : 0 ≤ l5 ∧ l5 ≤ 80) (r_l7 : 0 ≤ l7 ∧ l7 ≤ 2) (r_s0 : (-2147483648) ≤ s0 ∧ s0 ≤ 2147483647) (r_s1 : 0 ≤ s1 ∧ s1 ≤ 1) (p_NP : NP M) (hf36 : 82 - l5 < (fu36 : Int) + 1) (hf61 : 4 - l7 < (fu61 : Int) + 1) (iM : I n M) (kM : Keep n W_X9_bind Me M) : wp (mX9_bind_92 k36 k61 126 l1 l2 l3 l4 l5 l7 s0 s1 M) (fun q => I n q.2 ∧ Keep n W_X9_bind Me q.2 ∧ True) := by
  have hn : (169 : Int) ≤ (n : Int) := by have := iM.2.2.2.2.1; omega
  unfold mX9_bind_92
  have w1_ := And.intro (wI_lo (s0 + s1)) (wI_hi (s0 + s1))
  have w2_ := wI_id (x := (l7 + 1)) (by omega) (by omega)
  exact hk61 _ _ _ _ _ _ _ _ ⟨by omega, by omega⟩ ⟨by omega, by omega⟩ ⟨by omega, by omega⟩ ⟨by omega, by omega⟩ ⟨by omega, by omega⟩ ⟨by omega, by omega⟩ ⟨by omega, by omega⟩ p_NP (by omega) (by omega) iM kM
theorem sb_X9_bind_61 {n : Nat} {Me : Mem} {k36 : Int → Int → Int → Int → Int → Int → Mem → Option (Int × Mem)} {fu36 : Nat} (hk36 : ∀ (l1 l2 l3 l4 l5 : Int) (M : Mem), ((-2147483648) ≤ l1 ∧ l1 ≤ 2147483647) → (1 ≤ l2 ∧ l2 ≤ 27) → (1 ≤ l3 ∧ l3 ≤ 3) → ((-81) ≤ l4 ∧ l4 ≤ 3240) → (0 ≤ l5 ∧ l5 ≤ 81) → (NP M) → 82 - l5 < (fu36 : Int) → I n M → Keep n W_X9_bind Me M → wp (k36 126 l1 l2 l3 l4 l5 M) (fun q => I n q.2 ∧ Keep n W_X9_bind Me q.2 ∧ True)) {k61 : Int → Int → Int → Int → Int → Int → Int → Int → Mem → Option (Int × Mem)} {fu61 : Nat} (hk61 : ∀ (l1 l2 l3 l4 l5 l6 l7 : Int) (M : Mem), ((-2147483648) ≤ l1 ∧ l1 ≤ 2147483647) → (1 ≤ l2 ∧ l2 ≤ 27) → (1 ≤ l3 ∧ l3 ≤ 3) → ((-81) ≤ l4 ∧ l4 ≤ 3240) → (0 ≤ l5 ∧ l5 ≤ 80) → ((-2147483648) ≤ l6 ∧ l6 ≤ 2147483647) → (0 ≤ l7 ∧ l7 ≤ 3) → (NP M) → 82 - l5 < (fu36 : Int) + 1 → 4 - l7 < (fu61 : Int) → I n M → Keep n W_X9_bind Me M → wp (k61 126 l1 l2 l3 l4 l5 l6 l7 M) (fun q => I n q.2 ∧ Keep n W_X9_bind Me q.2 ∧ True)) {l1 l2 l3 l4 l5 l6 l7 : Int} {M : Mem} (r_l1 : (-2147483648) ≤ l1 ∧ l1 ≤ 2147483647) (r_l2 : 1 ≤ l2 ∧ l2 ≤ 27) (r_l3 : 1 ≤ l3 ∧ l3 ≤ 3) (r_l4 : (-81) ≤ l4 ∧ l4 ≤ 3240) (r_l5 : 0 ≤ l5 ∧ l5 ≤ 80) (r_l6 : (-2147483648) ≤ l6 ∧ l6 ≤ 2147483647) (r_l7 : 0 ≤ l7 ∧ l7 ≤ 3) (p_NP : NP M) (hf36 : 82 - l5 < (fu36 : Int) + 1) (hf61 : 4 - l7 < (fu61 : Int) + 1) (iM : I n M) (kM : Keep n W_X9_bind Me M) : wp (bX9_bind_61 k36 k61 126 l1 l2 l3 l4 l5 l6 l7 M) (fun q => I n q.2 ∧ Keep n W_X9_bind Me q.2 ∧ True) := by
  have hn : (169 : Int) ≤ (n : Int) := by have := iM.2.2.2.2.1; omega
  unfold bX9_bind_61
  refine w_if (fun c1_ => ?_) (fun c1_ => ?_)
  · skip
    refine w_gFc (ji := 16) rfl (congrArg Prod.fst (kl_126 iM)) (show mG M 126 16 = 142 from rd_Model_16 iM (a := 126) rfl) ?_
    refine w_aG (kl_142 iM) (by omega) (by omega) (fun a106 ha106 => ?_)
    have ra106 : 0 ≤ a106 ∧ a106 ≤ 12 := ha106.tr (P := fun z => 0 ≤ z ∧ z ≤ 12) (rd_Mact iM rfl)
    refine w_if (fun c2_ => ?_) (fun c2_ => ?_)
    · skip
      refine w_if (fun c3_ => ?_) (fun c3_ => ?_)
      · skip
        exact s_X9_bind_192 hk36 ⟨by omega, by omega⟩ ⟨by omega, by omega⟩ ⟨by omega, by omega⟩ ⟨by omega, by omega⟩ ⟨by omega, by omega⟩ ⟨by omega, by omega⟩ p_NP (by omega) iM kM
      · skip
        exact s_X9_bind_192 hk36 ⟨by omega, by omega⟩ ⟨by omega, by omega⟩ ⟨by omega, by omega⟩ ⟨by omega, by omega⟩ ⟨by omega, by omega⟩ ⟨by omega, by omega⟩ p_NP (by omega) iM kM
    · skip
      refine w_gFc (ji := 16) rfl (congrArg Prod.fst (kl_126 iM)) (show mG M 126 16 = 142 from rd_Model_16 iM (a := 126) rfl) ?_
      refine w_aGc (kl_142 iM) (by omega) (by omega) (show mG M 142 l1 = a106 from (show mG M 142 l1 = a106 from ha106)) ?_
      refine w_if (fun c4_ => ?_) (fun c4_ => ?_)
      · skip
        refine w_if (fun c5_ => ?_) (fun c5_ => ?_)
        · skip
          exact s_X9_bind_192 hk36 ⟨by omega, by omega⟩ ⟨by omega, by omega⟩ ⟨by omega, by omega⟩ ⟨by omega, by omega⟩ ⟨by omega, by omega⟩ ⟨by omega, by omega⟩ p_NP (by omega) iM kM
        · skip
          exact s_X9_bind_192 hk36 ⟨by omega, by omega⟩ ⟨by omega, by omega⟩ ⟨by omega, by omega⟩ ⟨by omega, by omega⟩ ⟨by omega, by omega⟩ ⟨by omega, by omega⟩ p_NP (by omega) iM kM
      · skip
        refine w_gFc (ji := 16) rfl (congrArg Prod.fst (kl_126 iM)) (show mG M 126 16 = 142 from rd_Model_16 iM (a := 126) rfl) ?_
        refine w_aGc (kl_142 iM) (by omega) (by omega) (show mG M 142 l1 = a106 from (show mG M 142 l1 = a106 from ha106)) ?_
        refine w_if (fun c6_ => ?_) (fun c6_ => ?_)
        · skip
          refine w_gFc (ji := 19) rfl (congrArg Prod.fst (kl_126 iM)) (show mG M 126 19 = 145 from rd_Model_19 iM (a := 126) rfl) ?_
          refine w_aG (kl_145 iM) (by omega) (by omega) (fun a164 ha164 => ?_)
          have ra164 : (-2147483648) ≤ a164 ∧ a164 ≤ 2147483647 := ha164.tr (P := fun z => (-2147483648) ≤ z ∧ z ≤ 2147483647) (rd_Mthree iM rfl)
          refine w_if (fun c7_ => ?_) (fun c7_ => ?_)
          · skip
            exact s_X9_bind_192 hk36 ⟨by omega, by omega⟩ ⟨by omega, by omega⟩ ⟨by omega, by omega⟩ ⟨by omega, by omega⟩ ⟨by omega, by omega⟩ ⟨by omega, by omega⟩ p_NP (by omega) iM kM
          · skip
            exact s_X9_bind_192 hk36 ⟨by omega, by omega⟩ ⟨by omega, by omega⟩ ⟨by omega, by omega⟩ ⟨by omega, by omega⟩ ⟨by omega, by omega⟩ ⟨by omega, by omega⟩ p_NP (by omega) iM kM
        · skip
          refine w_gFc (ji := 19) rfl (congrArg Prod.fst (kl_126 iM)) (show mG M 126 19 = 145 from rd_Model_19 iM (a := 126) rfl) ?_
          refine w_aG (kl_145 iM) (by omega) (by omega) (fun a183 ha183 => ?_)
          have ra183 : (-2147483648) ≤ a183 ∧ a183 ≤ 2147483647 := ha183.tr (P := fun z => (-2147483648) ≤ z ∧ z ≤ 2147483647) (rd_Mthree iM rfl)
          refine w_if (fun c8_ => ?_) (fun c8_ => ?_)
          · skip
            exact s_X9_bind_192 hk36 ⟨by omega, by omega⟩ ⟨by omega, by omega⟩ ⟨by omega, by omega⟩ ⟨by omega, by omega⟩ ⟨by omega, by omega⟩ ⟨by omega, by omega⟩ p_NP (by omega) iM kM
          · skip
            exact s_X9_bind_192 hk36 ⟨by omega, by omega⟩ ⟨by omega, by omega⟩ ⟨by omega, by omega⟩ ⟨by omega, by omega⟩ ⟨by omega, by omega⟩ ⟨by omega, by omega⟩ p_NP (by omega) iM kM
  · skip
    refine w_gFc (ji := 45) rfl (congrArg Prod.fst (kl_126 iM)) (show mG M 126 45 = 160 from rd_Model_45 iM (a := 126) rfl) ?_
    have w9_ := wI_id (x := (l4 + l5)) (by omega) (by omega)
    have w10_ := mul_b (x := l7) (y := l2) (a := 2) (b := 27) (by omega) (by omega) (by omega) (by omega)
    have w11_ := wI_id (x := (l7 * l2)) (by omega) (by omega)
    have w12_ := wI_id (x := ((wI (l4 + l5)) + (wI (l7 * l2)))) (by omega) (by omega)
    refine w_aG (kl_160 iM) (by omega) (by omega) (fun a83 ha83 => ?_)
    have ra83 : 0 ≤ a83 ∧ a83 ≤ 1 := ha83.tr (P := fun z => 0 ≤ z ∧ z ≤ 1) (rd_Mready iM rfl)
    refine w_if (fun c13_ => ?_) (fun c13_ => ?_)
    · skip
      exact s_X9_bind_92 hk36 hk61 ⟨by omega, by omega⟩ ⟨by omega, by omega⟩ ⟨by omega, by omega⟩ ⟨by omega, by omega⟩ ⟨by omega, by omega⟩ ⟨by omega, by omega⟩ ⟨by omega, by omega⟩ ⟨by omega, by omega⟩ p_NP (by omega) (by omega) iM kM
    · skip
      exact s_X9_bind_92 hk36 hk61 ⟨by omega, by omega⟩ ⟨by omega, by omega⟩ ⟨by omega, by omega⟩ ⟨by omega, by omega⟩ ⟨by omega, by omega⟩ ⟨by omega, by omega⟩ ⟨by omega, by omega⟩ ⟨by omega, by omega⟩ p_NP (by omega) (by omega) iM kM
theorem s_X9_bind_61 {n : Nat} {Me : Mem} {k36 : Int → Int → Int → Int → Int → Int → Mem → Option (Int × Mem)} {fu36 : Nat} (hk36 : ∀ (l1 l2 l3 l4 l5 : Int) (M : Mem), ((-2147483648) ≤ l1 ∧ l1 ≤ 2147483647) → (1 ≤ l2 ∧ l2 ≤ 27) → (1 ≤ l3 ∧ l3 ≤ 3) → ((-81) ≤ l4 ∧ l4 ≤ 3240) → (0 ≤ l5 ∧ l5 ≤ 81) → (NP M) → 82 - l5 < (fu36 : Int) → I n M → Keep n W_X9_bind Me M → wp (k36 126 l1 l2 l3 l4 l5 M) (fun q => I n q.2 ∧ Keep n W_X9_bind Me q.2 ∧ True)) : ∀ (fu : Nat) (l1 l2 l3 l4 l5 l6 l7 : Int) (M : Mem), ((-2147483648) ≤ l1 ∧ l1 ≤ 2147483647) → (1 ≤ l2 ∧ l2 ≤ 27) → (1 ≤ l3 ∧ l3 ≤ 3) → ((-81) ≤ l4 ∧ l4 ≤ 3240) → (0 ≤ l5 ∧ l5 ≤ 80) → ((-2147483648) ≤ l6 ∧ l6 ≤ 2147483647) → (0 ≤ l7 ∧ l7 ≤ 3) → (NP M) → 82 - l5 < (fu36 : Int) + 1 → 4 - l7 < (fu : Int) → I n M → Keep n W_X9_bind Me M → wp (mX9_bind_61 k36 fu 126 l1 l2 l3 l4 l5 l6 l7 M) (fun q => I n q.2 ∧ Keep n W_X9_bind Me q.2 ∧ True) := by
  intro fu
  induction fu with
  | zero =>
    intro l1 l2 l3 l4 l5 l6 l7 M r_l1 r_l2 r_l3 r_l4 r_l5 r_l6 r_l7 p_NP hf36 hf iM kM
    exfalso
    omega
  | succ fu ih =>
    intro l1 l2 l3 l4 l5 l6 l7 M r_l1 r_l2 r_l3 r_l4 r_l5 r_l6 r_l7 p_NP hf36 hf iM kM
    exact sb_X9_bind_61 hk36 ih r_l1 r_l2 r_l3 r_l4 r_l5 r_l6 r_l7 p_NP hf36 (by have e : ((fu + 1 : Nat) : Int) = (fu : Int) + 1 := rfl; rw [e] at hf; exact hf) iM kM
theorem sb_X9_bind_36 {n : Nat} {Me : Mem} {k36 : Int → Int → Int → Int → Int → Int → Mem → Option (Int × Mem)} {fu36 : Nat} (hk36 : ∀ (l1 l2 l3 l4 l5 : Int) (M : Mem), ((-2147483648) ≤ l1 ∧ l1 ≤ 2147483647) → (1 ≤ l2 ∧ l2 ≤ 27) → (1 ≤ l3 ∧ l3 ≤ 3) → ((-81) ≤ l4 ∧ l4 ≤ 3240) → (0 ≤ l5 ∧ l5 ≤ 81) → (NP M) → 82 - l5 < (fu36 : Int) → I n M → Keep n W_X9_bind Me M → wp (k36 126 l1 l2 l3 l4 l5 M) (fun q => I n q.2 ∧ Keep n W_X9_bind Me q.2 ∧ True)) {l1 l2 l3 l4 l5 : Int} {M : Mem} (r_l1 : (-2147483648) ≤ l1 ∧ l1 ≤ 2147483647) (r_l2 : 1 ≤ l2 ∧ l2 ≤ 27) (r_l3 : 1 ≤ l3 ∧ l3 ≤ 3) (r_l4 : (-81) ≤ l4 ∧ l4 ≤ 3240) (r_l5 : 0 ≤ l5 ∧ l5 ≤ 81) (p_NP : NP M) (hf36 : 82 - l5 < (fu36 : Int) + 1) (iM : I n M) (kM : Keep n W_X9_bind Me M) : wp (bX9_bind_36 k36 126 l1 l2 l3 l4 l5 M) (fun q => I n q.2 ∧ Keep n W_X9_bind Me q.2 ∧ True) := by
  have hn : (169 : Int) ≤ (n : Int) := by have := iM.2.2.2.2.1; omega
  unfold bX9_bind_36
  refine w_if (fun c1_ => ?_) (fun c1_ => ?_)
  · skip
    exact w_ret ⟨iM, kM, trivial⟩
  · skip
    refine w_dQ (by omega) (fun a46 ha46 => ?_)
    have ea46 : a46 = l5 / l2 := ha46.trans (idiv_e (by omega) (by omega) (by omega) (by omega))
    have ra46 : 0 ≤ a46 ∧ a46 ≤ l5 := by rw [ea46]; exact ⟨Int.ediv_nonneg (by omega) (by omega), Int.ediv_le_self _ (by omega)⟩
    refine w_dM (by omega) (fun a48 ha48 => ?_)
    have ea48 : a48 = a46 % 3 := ha48.trans (irem_e (by omega) (by omega) (by omega) (by omega))
    refine w_if (fun c2_ => ?_) (fun c2_ => ?_)
    · skip
      exact s_X9_bind_61 hk36 FU _ _ _ _ _ _ _ _ ⟨by omega, by omega⟩ ⟨by omega, by omega⟩ ⟨by omega, by omega⟩ ⟨by omega, by omega⟩ ⟨by omega, by omega⟩ ⟨by omega, by omega⟩ ⟨by omega, by omega⟩ p_NP (by omega) (by show _ < (70000 : Int); omega) iM kM
    · skip
      exact s_X9_bind_226 hk36 ⟨by omega, by omega⟩ ⟨by omega, by omega⟩ ⟨by omega, by omega⟩ ⟨by omega, by omega⟩ ⟨by omega, by omega⟩ p_NP (by omega) iM kM
theorem s_X9_bind_36 {n : Nat} {Me : Mem} : ∀ (fu : Nat) (l1 l2 l3 l4 l5 : Int) (M : Mem), ((-2147483648) ≤ l1 ∧ l1 ≤ 2147483647) → (1 ≤ l2 ∧ l2 ≤ 27) → (1 ≤ l3 ∧ l3 ≤ 3) → ((-81) ≤ l4 ∧ l4 ≤ 3240) → (0 ≤ l5 ∧ l5 ≤ 81) → (NP M) → 82 - l5 < (fu : Int) → I n M → Keep n W_X9_bind Me M → wp (mX9_bind_36 fu 126 l1 l2 l3 l4 l5 M) (fun q => I n q.2 ∧ Keep n W_X9_bind Me q.2 ∧ True) := by
  intro fu
  induction fu with
  | zero =>
    intro l1 l2 l3 l4 l5 M r_l1 r_l2 r_l3 r_l4 r_l5 p_NP hf iM kM
    exfalso
    omega
  | succ fu ih =>
    intro l1 l2 l3 l4 l5 M r_l1 r_l2 r_l3 r_l4 r_l5 p_NP hf iM kM
    exact sb_X9_bind_36 ih r_l1 r_l2 r_l3 r_l4 r_l5 p_NP (by have e : ((fu + 1 : Nat) : Int) = (fu : Int) + 1 := rfl; rw [e] at hf; exact hf) iM kM
theorem s_X9_bind {n : Nat} {l1 : Int} {M : Mem} (r_l1 : (-2147483648) ≤ l1 ∧ l1 ≤ 2147483647) (p_NP : NP M) (iM : I n M) : wp (mX9_bind 126 l1 M) (fun q => I n q.2 ∧ Keep n W_X9_bind M q.2 ∧ True) := by
  have hn : (169 : Int) ≤ (n : Int) := by have := iM.2.2.2.2.1; omega
  have kM : Keep n W_X9_bind M M := Keep.rf
  unfold mX9_bind
  refine w_gFc (ji := 17) rfl (congrArg Prod.fst (kl_126 iM)) (show mG M 126 17 = 143 from rd_Model_17 iM (a := 126) rfl) ?_
  refine w_aG (kl_143 iM) (by omega) (by omega) (fun a5 ha5 => ?_)
  have ra5 : 0 ≤ a5 ∧ a5 ≤ 3 := ha5.tr (P := fun z => 0 ≤ z ∧ z ≤ 3) (rd_Mone iM rfl)
  refine w_call (s_X9_unit ⟨by omega, by omega⟩ iM) ?_
  intro v6 m6 pp6
  obtain ⟨im6, kk6, e6_0, -⟩ := pp6
  try dsimp only
  replace im6 : I n m6 := im6
  replace kk6 : Keep n W_X9_unit M m6 := kk6
  have km6 : Keep n W_X9_bind M m6 := kM.tr kk6 (fun b j z => z.elim)
  replace e6_0 : 1 ≤ v6 ∧ v6 ≤ 27 := e6_0
  refine w_gFc (ji := 26) rfl (congrArg Prod.fst (kl_126 im6)) (show mG m6 126 26 = 152 from rd_Model_26 im6 (a := 126) rfl) ?_
  refine w_gFc (ji := 18) rfl (congrArg Prod.fst (kl_126 im6)) (show mG m6 126 18 = 144 from rd_Model_18 im6 (a := 126) rfl) ?_
  refine w_aG (kl_144 im6) (by omega) (by omega) (fun a19 ha19 => ?_)
  have ra19 : 0 ≤ a19 ∧ a19 ≤ 3 := ha19.tr (P := fun z => 0 ≤ z ∧ z ≤ 3) (rd_Mtwo im6 rfl)
  refine w_aG (kl_152 im6) (by omega) (by omega) (fun a20 ha20 => ?_)
  have ra20 : (-9) ≤ a20 ∧ a20 ≤ 9 := ha20.tr (P := fun z => (-9) ≤ z ∧ z ≤ 9) (rd_Mnow im6 rfl)
  have ppNP_m6 : NP m6 := (NP_of p_NP (fun j => kk6.2.2 152 j (by omega) (fun z => z)))
  have qa20 : 1 ≤ a20 ∧ a20 ≤ 3 := by rw [← ha20.e]; exact ppNP_m6 a19 (by omega) (by omega)
  refine w_gF (ji := 46) rfl (congrArg Prod.fst (kl_126 im6)) (fun a25 ha25 => ?_)
  have ra25 : 0 ≤ a25 ∧ a25 ≤ 41 := ha25.tr (P := fun z => 0 ≤ z ∧ z ≤ 41) (rd_Model_46 im6 rfl)
  have w1_ := wI_id (x := (a25 - 1)) (by omega) (by omega)
  have w2_ := wI_id (x := (81 * (wI (a25 - 1)))) (by omega) (by omega)
  refine w_some (fun b31 hb31 => ?_)
  replace hb31 : b31 = (wI (81 * (wI (a25 - 1)))) := hb31
  exact s_X9_bind_36 FU _ _ _ _ _ _ ⟨by omega, by omega⟩ ⟨by omega, by omega⟩ ⟨by omega, by omega⟩ ⟨by omega, by omega⟩ ⟨by omega, by omega⟩ ppNP_m6 (by show _ < (70000 : Int); omega) im6 km6
def W_X9_isSo (b j : Int) : Prop := False
theorem s_X9_isSo {n : Nat} {l1 l2 l3 : Int} {M : Mem} (r_l1 : 0 ≤ l1 ∧ l1 ≤ 3) (r_l2 : 0 ≤ l2 ∧ l2 ≤ 2) (r_l3 : 0 ≤ l3 ∧ l3 ≤ 2) (p_NP : NP M) (iM : I n M) : wp (mX9_isSo 126 l1 l2 l3 M) (fun q => I n q.2 ∧ Keep n W_X9_isSo M q.2 ∧ (0 ≤ q.1 ∧ q.1 ≤ 1) ∧ True) := by
  have hn : (169 : Int) ≤ (n : Int) := by have := iM.2.2.2.2.1; omega
  have kM : Keep n W_X9_isSo M M := Keep.rf
  unfold mX9_isSo
  refine w_gK (congrArg Prod.fst (kl_126 iM)) ?_
  refine w_call (s_X9_factAt ⟨by omega, by omega⟩ ⟨by omega, by omega⟩ ⟨by omega, by omega⟩ p_NP iM) ?_
  intro v4 m4 pp4
  obtain ⟨im4, kk4, e4_0, -⟩ := pp4
  try dsimp only
  replace im4 : I n m4 := im4
  replace kk4 : Keep n W_X9_factAt M m4 := kk4
  have km4 : Keep n W_X9_isSo M m4 := kM.tr kk4 (fun b j z => z.elim)
  replace e4_0 : (-1) ≤ v4 ∧ v4 ≤ 44 := e4_0
  refine w_if (fun c1_ => ?_) (fun c1_ => ?_)
  · skip
    exact w_ret ⟨im4, km4, (show 0 ≤ 0 ∧ 0 ≤ 1 from ⟨by omega, by omega⟩), trivial⟩
  · skip
    refine w_gFc (ji := 28) rfl (congrArg Prod.fst (kl_126 im4)) (show mG m4 126 28 = 154 from rd_Model_28 im4 (a := 126) rfl) ?_
    refine w_aG (kl_154 im4) (by omega) (by omega) (fun a21 ha21 => ?_)
    have ra21 : 0 ≤ a21 ∧ a21 ≤ 1 := ha21.tr (P := fun z => 0 ≤ z ∧ z ≤ 1) (rd_Mis im4 rfl)
    refine w_if (fun c2_ => ?_) (fun c2_ => ?_)
    · skip
      exact w_ret ⟨im4, km4, (show 0 ≤ 0 ∧ 0 ≤ 1 from ⟨by omega, by omega⟩), trivial⟩
    · skip
      exact w_ret ⟨im4, km4, (show 0 ≤ 1 ∧ 1 ≤ 1 from ⟨by omega, by omega⟩), trivial⟩
def W_X9_findJoined (b j : Int) : Prop := b = 161
theorem s_X9_findJoined_95 {n : Nat} {Me : Mem} {k33 : Int → Int → Mem → Option (Int × Mem)} {fu33 : Nat} (hk33 : ∀ (l2 : Int) (M : Mem), (0 ≤ l2 ∧ l2 ≤ 3) → (NP M) → 4 - l2 < (fu33 : Int) → I n M → Keep n W_X9_findJoined Me M → wp (k33 126 l2 M) (fun q => I n q.2 ∧ Keep n W_X9_findJoined Me q.2 ∧ True)) {k40 : Int → Int → Int → Mem → Option (Int × Mem)} {fu40 : Nat} (hk40 : ∀ (l2 l3 : Int) (M : Mem), (0 ≤ l2 ∧ l2 ≤ 2) → (0 ≤ l3 ∧ l3 ≤ 9) → (NP M) → 4 - l2 < (fu33 : Int) + 1 → 10 - l3 < (fu40 : Int) → I n M → Keep n W_X9_findJoined Me M → wp (k40 126 l2 l3 M) (fun q => I n q.2 ∧ Keep n W_X9_findJoined Me q.2 ∧ True)) {l2 l3 s1 s2 : Int} {M : Mem} (r_l2 : 0 ≤ l2 ∧ l2 ≤ 2) (r_l3 : 0 ≤ l3 ∧ l3 ≤ 8) (r_s1 : 0 ≤ s1 ∧ s1 ≤ 8) (r_s2 : 0 ≤ s2 ∧ s2 ≤ 1) (p_NP : NP M) (hf33 : 4 - l2 < (fu33 : Int) + 1) (hf40 : 10 - l3 < (fu40 : Int) + 1) (iM : I n M) (kM : Keep n W_X9_findJoined Me M) : wp (mX9_findJoined_95 k33 k40 126 l2 l3 161 s1 s2 M) (fun q => I n q.2 ∧ Keep n W_X9_findJoined Me q.2 ∧ True) := by
  have hn : (169 : Int) ≤ (n : Int) := by have := iM.2.2.2.2.1; omega
  unfold mX9_findJoined_95
  refine w_aSZ (kl_161 iM) (by omega) (by omega) (by omega) (fun M95 hM95 => ?_)
  replace hM95 : M95 = mS M 161 s1 s2 := hM95
  have iM95 : I n M95 := wr_Mjoined iM rfl ⟨by omega, by omega⟩ hM95
  have kM95 : Keep n W_X9_findJoined Me M95 := kM.st hM95 (Or.inl rfl)
  have w1_ := wI_id (x := (l3 + 1)) (by omega) (by omega)
  have ppNP_M95 : NP M95 := (NP_of p_NP (fun j => st_ne hM95 (fun z => ne_fam rfl rfl (by decide) z.1)))
  exact hk40 _ _ _ ⟨by omega, by omega⟩ ⟨by omega, by omega⟩ ppNP_M95 (by omega) (by omega) iM95 kM95
theorem s_X9_findJoined_94 {n : Nat} {Me : Mem} {k33 : Int → Int → Mem → Option (Int × Mem)} {fu33 : Nat} (hk33 : ∀ (l2 : Int) (M : Mem), (0 ≤ l2 ∧ l2 ≤ 3) → (NP M) → 4 - l2 < (fu33 : Int) → I n M → Keep n W_X9_findJoined Me M → wp (k33 126 l2 M) (fun q => I n q.2 ∧ Keep n W_X9_findJoined Me q.2 ∧ True)) {k40 : Int → Int → Int → Mem → Option (Int × Mem)} {fu40 : Nat} (hk40 : ∀ (l2 l3 : Int) (M : Mem), (0 ≤ l2 ∧ l2 ≤ 2) → (0 ≤ l3 ∧ l3 ≤ 9) → (NP M) → 4 - l2 < (fu33 : Int) + 1 → 10 - l3 < (fu40 : Int) → I n M → Keep n W_X9_findJoined Me M → wp (k40 126 l2 l3 M) (fun q => I n q.2 ∧ Keep n W_X9_findJoined Me q.2 ∧ True)) {l2 l3 s1 : Int} {M : Mem} (r_l2 : 0 ≤ l2 ∧ l2 ≤ 2) (r_l3 : 0 ≤ l3 ∧ l3 ≤ 8) (r_s1 : 0 ≤ s1 ∧ s1 ≤ 8) (p_NP : NP M) (hf33 : 4 - l2 < (fu33 : Int) + 1) (hf40 : 10 - l3 < (fu40 : Int) + 1) (iM : I n M) (kM : Keep n W_X9_findJoined Me M) : wp (mX9_findJoined_94 k33 k40 126 l2 l3 161 s1 M) (fun q => I n q.2 ∧ Keep n W_X9_findJoined Me q.2 ∧ True) := by
  have hn : (169 : Int) ≤ (n : Int) := by have := iM.2.2.2.2.1; omega
  unfold mX9_findJoined_94
  exact s_X9_findJoined_95 hk33 hk40 ⟨by omega, by omega⟩ ⟨by omega, by omega⟩ ⟨by omega, by omega⟩ ⟨by omega, by omega⟩ p_NP (by omega) (by omega) iM kM
theorem s_X9_findJoined_90 {n : Nat} {Me : Mem} {k33 : Int → Int → Mem → Option (Int × Mem)} {fu33 : Nat} (hk33 : ∀ (l2 : Int) (M : Mem), (0 ≤ l2 ∧ l2 ≤ 3) → (NP M) → 4 - l2 < (fu33 : Int) → I n M → Keep n W_X9_findJoined Me M → wp (k33 126 l2 M) (fun q => I n q.2 ∧ Keep n W_X9_findJoined Me q.2 ∧ True)) {k40 : Int → Int → Int → Mem → Option (Int × Mem)} {fu40 : Nat} (hk40 : ∀ (l2 l3 : Int) (M : Mem), (0 ≤ l2 ∧ l2 ≤ 2) → (0 ≤ l3 ∧ l3 ≤ 9) → (NP M) → 4 - l2 < (fu33 : Int) + 1 → 10 - l3 < (fu40 : Int) → I n M → Keep n W_X9_findJoined Me M → wp (k40 126 l2 l3 M) (fun q => I n q.2 ∧ Keep n W_X9_findJoined Me q.2 ∧ True)) {l2 l3 s1 : Int} {M : Mem} (r_l2 : 0 ≤ l2 ∧ l2 ≤ 2) (r_l3 : 0 ≤ l3 ∧ l3 ≤ 8) (r_s1 : 0 ≤ s1 ∧ s1 ≤ 8) (p_NP : NP M) (hf33 : 4 - l2 < (fu33 : Int) + 1) (hf40 : 10 - l3 < (fu40 : Int) + 1) (iM : I n M) (kM : Keep n W_X9_findJoined Me M) : wp (mX9_findJoined_90 k33 k40 126 l2 l3 161 s1 M) (fun q => I n q.2 ∧ Keep n W_X9_findJoined Me q.2 ∧ True) := by
  have hn : (169 : Int) ≤ (n : Int) := by have := iM.2.2.2.2.1; omega
  unfold mX9_findJoined_90
  exact s_X9_findJoined_95 hk33 hk40 ⟨by omega, by omega⟩ ⟨by omega, by omega⟩ ⟨by omega, by omega⟩ ⟨by omega, by omega⟩ p_NP (by omega) (by omega) iM kM
theorem sb_X9_findJoined_40 {n : Nat} {Me : Mem} {k33 : Int → Int → Mem → Option (Int × Mem)} {fu33 : Nat} (hk33 : ∀ (l2 : Int) (M : Mem), (0 ≤ l2 ∧ l2 ≤ 3) → (NP M) → 4 - l2 < (fu33 : Int) → I n M → Keep n W_X9_findJoined Me M → wp (k33 126 l2 M) (fun q => I n q.2 ∧ Keep n W_X9_findJoined Me q.2 ∧ True)) {k40 : Int → Int → Int → Mem → Option (Int × Mem)} {fu40 : Nat} (hk40 : ∀ (l2 l3 : Int) (M : Mem), (0 ≤ l2 ∧ l2 ≤ 2) → (0 ≤ l3 ∧ l3 ≤ 9) → (NP M) → 4 - l2 < (fu33 : Int) + 1 → 10 - l3 < (fu40 : Int) → I n M → Keep n W_X9_findJoined Me M → wp (k40 126 l2 l3 M) (fun q => I n q.2 ∧ Keep n W_X9_findJoined Me q.2 ∧ True)) {l2 l3 : Int} {M : Mem} (r_l2 : 0 ≤ l2 ∧ l2 ≤ 2) (r_l3 : 0 ≤ l3 ∧ l3 ≤ 9) (p_NP : NP M) (hf33 : 4 - l2 < (fu33 : Int) + 1) (hf40 : 10 - l3 < (fu40 : Int) + 1) (iM : I n M) (kM : Keep n W_X9_findJoined Me M) : wp (bX9_findJoined_40 k33 k40 126 l2 l3 M) (fun q => I n q.2 ∧ Keep n W_X9_findJoined Me q.2 ∧ True) := by
  have hn : (169 : Int) ≤ (n : Int) := by have := iM.2.2.2.2.1; omega
  unfold bX9_findJoined_40
  refine w_if (fun c1_ => ?_) (fun c1_ => ?_)
  · skip
    have w2_ := wI_id (x := (l2 + 1)) (by omega) (by omega)
    exact hk33 _ _ ⟨by omega, by omega⟩ p_NP (by omega) iM kM
  · skip
    refine w_gFc (ji := 47) rfl (congrArg Prod.fst (kl_126 iM)) (show mG M 126 47 = 161 from rd_Model_47 iM (a := 126) rfl) ?_
    refine w_gFc (ji := 47) rfl (congrArg Prod.fst (kl_126 iM)) (show mG M 126 47 = 161 from rd_Model_47 iM (a := 126) rfl) ?_
    refine w_aG (kl_161 iM) (by omega) (by omega) (fun a56 ha56 => ?_)
    have ra56 : 0 ≤ a56 ∧ a56 ≤ 1 := ha56.tr (P := fun z => 0 ≤ z ∧ z ≤ 1) (rd_Mjoined iM rfl)
    refine w_if (fun c3_ => ?_) (fun c3_ => ?_)
    · skip
      refine w_gFc (ji := 47) rfl (congrArg Prod.fst (kl_126 iM)) (show mG M 126 47 = 161 from rd_Model_47 iM (a := 126) rfl) ?_
      refine w_dM (by omega) (fun a67 ha67 => ?_)
      have ea67 : a67 = l3 % 3 := ha67.trans (irem_e (by omega) (by omega) (by omega) (by omega))
      have w4_ := wI_id (x := (l3 - a67)) (by omega) (by omega)
      have w5_ := wI_id (x := ((wI (l3 - a67)) + l2)) (by omega) (by omega)
      refine w_aG (kl_161 iM) (by omega) (by omega) (fun a71 ha71 => ?_)
      have ra71 : 0 ≤ a71 ∧ a71 ≤ 1 := ha71.tr (P := fun z => 0 ≤ z ∧ z ≤ 1) (rd_Mjoined iM rfl)
      refine w_if (fun c6_ => ?_) (fun c6_ => ?_)
      · skip
        exact s_X9_findJoined_94 hk33 hk40 ⟨by omega, by omega⟩ ⟨by omega, by omega⟩ ⟨by omega, by omega⟩ p_NP (by omega) (by omega) iM kM
      · skip
        refine w_gFc (ji := 47) rfl (congrArg Prod.fst (kl_126 iM)) (show mG M 126 47 = 161 from rd_Model_47 iM (a := 126) rfl) ?_
        refine w_dM (by omega) (fun a84 ha84 => ?_)
        have ea84 : a84 = l3 % 3 := ha84.trans (irem_e (by omega) (by omega) (by omega) (by omega))
        have w7_ := wI_id (x := (3 * l2)) (by omega) (by omega)
        have w8_ := wI_id (x := ((wI (3 * l2)) + a84)) (by omega) (by omega)
        refine w_aG (kl_161 iM) (by omega) (by omega) (fun a86 ha86 => ?_)
        have ra86 : 0 ≤ a86 ∧ a86 ≤ 1 := ha86.tr (P := fun z => 0 ≤ z ∧ z ≤ 1) (rd_Mjoined iM rfl)
        refine w_if (fun c9_ => ?_) (fun c9_ => ?_)
        · skip
          exact s_X9_findJoined_94 hk33 hk40 ⟨by omega, by omega⟩ ⟨by omega, by omega⟩ ⟨by omega, by omega⟩ p_NP (by omega) (by omega) iM kM
        · skip
          exact s_X9_findJoined_90 hk33 hk40 ⟨by omega, by omega⟩ ⟨by omega, by omega⟩ ⟨by omega, by omega⟩ p_NP (by omega) (by omega) iM kM
    · skip
      exact s_X9_findJoined_90 hk33 hk40 ⟨by omega, by omega⟩ ⟨by omega, by omega⟩ ⟨by omega, by omega⟩ p_NP (by omega) (by omega) iM kM
theorem s_X9_findJoined_40 {n : Nat} {Me : Mem} {k33 : Int → Int → Mem → Option (Int × Mem)} {fu33 : Nat} (hk33 : ∀ (l2 : Int) (M : Mem), (0 ≤ l2 ∧ l2 ≤ 3) → (NP M) → 4 - l2 < (fu33 : Int) → I n M → Keep n W_X9_findJoined Me M → wp (k33 126 l2 M) (fun q => I n q.2 ∧ Keep n W_X9_findJoined Me q.2 ∧ True)) : ∀ (fu : Nat) (l2 l3 : Int) (M : Mem), (0 ≤ l2 ∧ l2 ≤ 2) → (0 ≤ l3 ∧ l3 ≤ 9) → (NP M) → 4 - l2 < (fu33 : Int) + 1 → 10 - l3 < (fu : Int) → I n M → Keep n W_X9_findJoined Me M → wp (mX9_findJoined_40 k33 fu 126 l2 l3 M) (fun q => I n q.2 ∧ Keep n W_X9_findJoined Me q.2 ∧ True) := by
  intro fu
  induction fu with
  | zero =>
    intro l2 l3 M r_l2 r_l3 p_NP hf33 hf iM kM
    exfalso
    omega
  | succ fu ih =>
    intro l2 l3 M r_l2 r_l3 p_NP hf33 hf iM kM
    exact sb_X9_findJoined_40 hk33 ih r_l2 r_l3 p_NP hf33 (by have e : ((fu + 1 : Nat) : Int) = (fu : Int) + 1 := rfl; rw [e] at hf; exact hf) iM kM
theorem sb_X9_findJoined_33 {n : Nat} {Me : Mem} {k33 : Int → Int → Mem → Option (Int × Mem)} {fu33 : Nat} (hk33 : ∀ (l2 : Int) (M : Mem), (0 ≤ l2 ∧ l2 ≤ 3) → (NP M) → 4 - l2 < (fu33 : Int) → I n M → Keep n W_X9_findJoined Me M → wp (k33 126 l2 M) (fun q => I n q.2 ∧ Keep n W_X9_findJoined Me q.2 ∧ True)) {l2 : Int} {M : Mem} (r_l2 : 0 ≤ l2 ∧ l2 ≤ 3) (p_NP : NP M) (hf33 : 4 - l2 < (fu33 : Int) + 1) (iM : I n M) (kM : Keep n W_X9_findJoined Me M) : wp (bX9_findJoined_33 k33 126 l2 M) (fun q => I n q.2 ∧ Keep n W_X9_findJoined Me q.2 ∧ True) := by
  have hn : (169 : Int) ≤ (n : Int) := by have := iM.2.2.2.2.1; omega
  unfold bX9_findJoined_33
  refine w_if (fun c1_ => ?_) (fun c1_ => ?_)
  · skip
    exact w_ret ⟨iM, kM, trivial⟩
  · skip
    exact s_X9_findJoined_40 hk33 FU _ _ _ ⟨by omega, by omega⟩ ⟨by omega, by omega⟩ p_NP (by omega) (by show _ < (70000 : Int); omega) iM kM
theorem s_X9_findJoined_33 {n : Nat} {Me : Mem} : ∀ (fu : Nat) (l2 : Int) (M : Mem), (0 ≤ l2 ∧ l2 ≤ 3) → (NP M) → 4 - l2 < (fu : Int) → I n M → Keep n W_X9_findJoined Me M → wp (mX9_findJoined_33 fu 126 l2 M) (fun q => I n q.2 ∧ Keep n W_X9_findJoined Me q.2 ∧ True) := by
  intro fu
  induction fu with
  | zero =>
    intro l2 M r_l2 p_NP hf iM kM
    exfalso
    omega
  | succ fu ih =>
    intro l2 M r_l2 p_NP hf iM kM
    exact sb_X9_findJoined_33 ih r_l2 p_NP (by have e : ((fu + 1 : Nat) : Int) = (fu : Int) + 1 := rfl; rw [e] at hf; exact hf) iM kM
theorem sb_X9_findJoined_2 {n : Nat} {Me : Mem} {k2 : Int → Int → Int → Mem → Option (Int × Mem)} {fu2 : Nat} (hk2 : ∀ (l1 l2 : Int) (M : Mem), (0 ≤ l1 ∧ l1 ≤ 3) → (0 ≤ l2 ∧ l2 ≤ 9) → (NP M) → 10 - l2 < (fu2 : Int) → I n M → Keep n W_X9_findJoined Me M → wp (k2 126 l1 l2 M) (fun q => I n q.2 ∧ Keep n W_X9_findJoined Me q.2 ∧ True)) {l1 l2 : Int} {M : Mem} (r_l1 : 0 ≤ l1 ∧ l1 ≤ 3) (r_l2 : 0 ≤ l2 ∧ l2 ≤ 9) (p_NP : NP M) (hf2 : 10 - l2 < (fu2 : Int) + 1) (iM : I n M) (kM : Keep n W_X9_findJoined Me M) : wp (bX9_findJoined_2 k2 126 l1 l2 M) (fun q => I n q.2 ∧ Keep n W_X9_findJoined Me q.2 ∧ True) := by
  have hn : (169 : Int) ≤ (n : Int) := by have := iM.2.2.2.2.1; omega
  unfold bX9_findJoined_2
  refine w_if (fun c1_ => ?_) (fun c1_ => ?_)
  · skip
    exact s_X9_findJoined_33 FU _ _ ⟨by omega, by omega⟩ p_NP (by show _ < (70000 : Int); omega) iM kM
  · skip
    refine w_gFc (ji := 47) rfl (congrArg Prod.fst (kl_126 iM)) (show mG M 126 47 = 161 from rd_Model_47 iM (a := 126) rfl) ?_
    refine w_dQ (by omega) (fun a17 ha17 => ?_)
    have ea17 : a17 = l2 / 3 := ha17.trans (idiv_e (by omega) (by omega) (by omega) (by omega))
    refine w_dM (by omega) (fun a20 ha20 => ?_)
    have ea20 : a20 = l2 % 3 := ha20.trans (irem_e (by omega) (by omega) (by omega) (by omega))
    refine w_gK (congrArg Prod.fst (kl_126 iM)) ?_
    refine w_call (s_X9_isSo ⟨by omega, by omega⟩ ⟨by omega, by omega⟩ ⟨by omega, by omega⟩ p_NP iM) ?_
    intro v21 m21 pp21
    obtain ⟨im21, kk21, e21_0, -⟩ := pp21
    try dsimp only
    replace im21 : I n m21 := im21
    replace kk21 : Keep n W_X9_isSo M m21 := kk21
    have km21 : Keep n W_X9_findJoined Me m21 := kM.tr kk21 (fun b j z => z.elim)
    replace e21_0 : 0 ≤ v21 ∧ v21 ≤ 1 := e21_0
    refine w_aSZ (kl_161 im21) (by omega) (by omega) (by omega) (fun M24 hM24 => ?_)
    replace hM24 : M24 = mS m21 161 l2 v21 := hM24
    have iM24 : I n M24 := wr_Mjoined im21 rfl ⟨by omega, by omega⟩ hM24
    have kM24 : Keep n W_X9_findJoined Me M24 := km21.st hM24 (Or.inl rfl)
    have w2_ := wI_id (x := (l2 + 1)) (by omega) (by omega)
    have ppNP_M24 : NP M24 := (NP_of (NP_of p_NP (fun j => kk21.2.2 152 j (by omega) (fun z => z))) (fun j => st_ne hM24 (fun z => ne_fam rfl rfl (by decide) z.1)))
    exact hk2 _ _ _ ⟨by omega, by omega⟩ ⟨by omega, by omega⟩ ppNP_M24 (by omega) iM24 kM24
theorem s_X9_findJoined_2 {n : Nat} {Me : Mem} : ∀ (fu : Nat) (l1 l2 : Int) (M : Mem), (0 ≤ l1 ∧ l1 ≤ 3) → (0 ≤ l2 ∧ l2 ≤ 9) → (NP M) → 10 - l2 < (fu : Int) → I n M → Keep n W_X9_findJoined Me M → wp (mX9_findJoined_2 fu 126 l1 l2 M) (fun q => I n q.2 ∧ Keep n W_X9_findJoined Me q.2 ∧ True) := by
  intro fu
  induction fu with
  | zero =>
    intro l1 l2 M r_l1 r_l2 p_NP hf iM kM
    exfalso
    omega
  | succ fu ih =>
    intro l1 l2 M r_l1 r_l2 p_NP hf iM kM
    exact sb_X9_findJoined_2 ih r_l1 r_l2 p_NP (by have e : ((fu + 1 : Nat) : Int) = (fu : Int) + 1 := rfl; rw [e] at hf; exact hf) iM kM
theorem s_X9_findJoined {n : Nat} {l1 : Int} {M : Mem} (r_l1 : 0 ≤ l1 ∧ l1 ≤ 3) (p_NP : NP M) (iM : I n M) : wp (mX9_findJoined 126 l1 M) (fun q => I n q.2 ∧ Keep n W_X9_findJoined M q.2 ∧ True) := by
  have hn : (169 : Int) ≤ (n : Int) := by have := iM.2.2.2.2.1; omega
  have kM : Keep n W_X9_findJoined M M := Keep.rf
  unfold mX9_findJoined
  exact s_X9_findJoined_2 FU _ _ _ ⟨by omega, by omega⟩ ⟨by omega, by omega⟩ p_NP (by show _ < (70000 : Int); omega) iM kM
