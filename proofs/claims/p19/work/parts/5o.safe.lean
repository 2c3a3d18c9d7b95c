def W_X9_readSame (b j : Int) : Prop := (157 ≤ b ∧ b ≤ 158) ∨ (b = 126 ∧ j = 29) ∨ (b = 126 ∧ j = 31) ∨ (b = 126 ∧ j = 32) ∨ (b = 126 ∧ j = 33) ∨ (b = 126 ∧ j = 34) ∨ (b = 126 ∧ j = 35) ∨ (b = 126 ∧ j = 36) ∨ (b = 126 ∧ j = 37)
theorem s_X9_readSame {n : Nat} {l1 l2 : Int} {M : Mem} (r_l1 : 0 ≤ l1 ∧ l1 ≤ 40) (r_l2 : (-2147483648) ≤ l2 ∧ l2 ≤ 2147483647) (y0 : mG M 126 29 = mG M 126 29) (y1 : mG M 126 31 ≤ mG M 126 29) (y2 : mG M 126 34 = 0 ∨ mG M 126 31 < mG M 126 29) (iM : I n M) : wp (mX9_readSame 126 l1 l2 M) (fun q => I n q.2 ∧ Keep n W_X9_readSame M q.2 ∧ (0 ≤ q.1 ∧ q.1 ≤ 1) ∧ (mG M 126 31 ≤ mG q.2 126 31 ∧ mG q.2 126 31 ≤ mG q.2 126 29 ∧ (mG q.2 126 34 = 0 ∨ mG q.2 126 31 < mG q.2 126 29)) ∧ True) := by
  have hn : (169 : Int) ≤ (n : Int) := by have := iM.2.2.2.2.1; omega
  have kM : Keep n W_X9_readSame M M := Keep.rf
  obtain ⟨nh0, enh0⟩ : ∃ v, Is (mG M 126 29) v := ⟨_, rfl⟩
  have rnh0 : 0 ≤ nh0 ∧ nh0 ≤ 400 := by rw [← enh0.e]; exact rd_Model_29 iM rfl
  have qnh0 : mG M 126 29 = nh0 := enh0
  (try rw [enh0.e] at y0); (try rw [enh0.e] at y1); (try rw [enh0.e] at y2)
  obtain ⟨nh1, enh1⟩ : ∃ v, Is (mG M 126 31) v := ⟨_, rfl⟩
  have rnh1 : 0 ≤ nh1 ∧ nh1 ≤ 400 := by rw [← enh1.e]; exact rd_Model_31 iM rfl
  have qnh1 : mG M 126 31 = nh1 := enh1
  (try rw [enh1.e] at y0); (try rw [enh1.e] at y1); (try rw [enh1.e] at y2)
  obtain ⟨nh2, enh2⟩ : ∃ v, Is (mG M 126 34) v := ⟨_, rfl⟩
  have qnh2 : mG M 126 34 = nh2 := enh2
  (try rw [enh2.e] at y0); (try rw [enh2.e] at y1); (try rw [enh2.e] at y2)
  unfold mX9_readSame
  refine w_gFc (ji := 42) rfl (congrArg Prod.fst (kl_126 iM)) (show mG M 126 42 = 157 from rd_Model_42 iM (a := 126) rfl) ?_
  refine w_gK (congrArg Prod.fst (kl_126 iM)) ?_
  have lbm8_29 : mG M 126 29 = nh0 := (show mG M 126 29 = nh0 from (show mG M 126 29 = nh0 from enh0))
  have lbm8_31 : mG M 126 31 = nh1 := (show mG M 126 31 = nh1 from (show mG M 126 31 = nh1 from enh1))
  have lbm8_34 : mG M 126 34 = nh2 := (show mG M 126 34 = nh2 from (show mG M 126 34 = nh2 from enh2))
  refine w_call (s_X9_readVar ⟨by omega, by omega⟩ ⟨by omega, by omega⟩ (by (try rw [(show mG M 126 29 = nh0 from (show mG M 126 29 = nh0 from enh0))]); (try rw [(show mG M 126 31 = nh1 from (show mG M 126 31 = nh1 from enh1))]); (try rw [(show mG M 126 34 = nh2 from (show mG M 126 34 = nh2 from enh2))]); all_goals omega) (by (try rw [(show mG M 126 29 = nh0 from (show mG M 126 29 = nh0 from enh0))]); (try rw [(show mG M 126 31 = nh1 from (show mG M 126 31 = nh1 from enh1))]); (try rw [(show mG M 126 34 = nh2 from (show mG M 126 34 = nh2 from enh2))]); all_goals omega) (by (try rw [(show mG M 126 29 = nh0 from (show mG M 126 29 = nh0 from enh0))]); (try rw [(show mG M 126 31 = nh1 from (show mG M 126 31 = nh1 from enh1))]); (try rw [(show mG M 126 34 = nh2 from (show mG M 126 34 = nh2 from enh2))]); all_goals omega) iM) ?_
  intro v8 m8 pp8
  obtain ⟨im8, kk8, e8_0, e8_1, -⟩ := pp8
  try dsimp only
  replace im8 : I n m8 := im8
  replace kk8 : Keep n W_X9_readVar M m8 := kk8
  have km8 : Keep n W_X9_readSame M m8 := kM.tr kk8 (fun b j z => Or.elim z (fun z => (Or.inr (Or.inl z))) (fun z => Or.elim z (fun z => (Or.inr (Or.inr (Or.inl z)))) (fun z => Or.elim z (fun z => (Or.inr (Or.inr (Or.inr (Or.inl z))))) (fun z => Or.elim z (fun z => (Or.inr (Or.inr (Or.inr (Or.inr (Or.inl z)))))) (fun z => Or.elim z (fun z => (Or.inr (Or.inr (Or.inr (Or.inr (Or.inr (Or.inl z))))))) (fun z => Or.elim z (fun z => (Or.inr (Or.inr (Or.inr (Or.inr (Or.inr (Or.inr (Or.inl z)))))))) (fun z => Or.elim z (fun z => (Or.inr (Or.inr (Or.inr (Or.inr (Or.inr (Or.inr (Or.inr (Or.inl z))))))))) (fun z => (Or.inr (Or.inr (Or.inr (Or.inr (Or.inr (Or.inr (Or.inr (Or.inr z))))))))))))))))
  replace e8_0 : (-1) ≤ v8 ∧ v8 ≤ 3 := e8_0
  replace e8_1 : mG M 126 31 ≤ mG m8 126 31 ∧ mG m8 126 31 ≤ mG m8 126 29 ∧ (mG m8 126 34 = 0 ∨ mG m8 126 31 < mG m8 126 29) := e8_1
  obtain ⟨hv8_29, ehv8_29⟩ : ∃ v, Is (mG m8 126 29) v := ⟨_, rfl⟩
  have lhv8_29 : mG m8 126 29 = hv8_29 := ehv8_29
  have rhv8_29 : 0 ≤ hv8_29 ∧ hv8_29 ≤ 400 := by rw [← ehv8_29.e]; exact rd_Model_29 im8 rfl
  obtain ⟨hv8_31, ehv8_31⟩ : ∃ v, Is (mG m8 126 31) v := ⟨_, rfl⟩
  have lhv8_31 : mG m8 126 31 = hv8_31 := ehv8_31
  have rhv8_31 : 0 ≤ hv8_31 ∧ hv8_31 ≤ 400 := by rw [← ehv8_31.e]; exact rd_Model_31 im8 rfl
  obtain ⟨hv8_34, ehv8_34⟩ : ∃ v, Is (mG m8 126 34) v := ⟨_, rfl⟩
  have lhv8_34 : mG m8 126 34 = hv8_34 := ehv8_34
  skip
  refine w_aS (kl_157 im8) (by omega) (by omega) (fun M11 hM11 => ?_)
  replace hM11 : M11 = mS m8 157 l1 v8 := hM11
  have iM11 : I n M11 := wr_MnewOne im8 rfl ⟨by omega, by omega⟩ hM11
  have kM11 : Keep n W_X9_readSame M M11 := km8.st hM11 (Or.inl (Or.inl ⟨by decide, by decide⟩))
  refine w_gFc (ji := 42) rfl (congrArg Prod.fst (kl_126 iM11)) (show mG M11 126 42 = 157 from rd_Model_42 iM11 (a := 126) rfl) ?_
  refine w_aGc (kl_157 iM11) (by omega) (by omega) (show mG M11 157 l1 = v8 from (show mG M11 157 l1 = v8 from (st_eq hM11))) ?_
  refine w_if (fun c1_ => ?_) (fun c1_ => ?_)
  · skip
    exact w_ret ⟨iM11, kM11, (show 0 ≤ 0 ∧ 0 ≤ 1 from ⟨by omega, by omega⟩), (show mG M 126 31 ≤ mG M11 126 31 ∧ mG M11 126 31 ≤ mG M11 126 29 ∧ (mG M11 126 34 = 0 ∨ mG M11 126 31 < mG M11 126 29) from (by (try rw [(show mG M11 126 29 = hv8_29 from ((st_ne hM11 (fun z => ne_fam rfl rfl (by decide) z.1)).trans (show mG m8 126 29 = hv8_29 from ehv8_29)))]); (try rw [(show mG M11 126 31 = hv8_31 from ((st_ne hM11 (fun z => ne_fam rfl rfl (by decide) z.1)).trans (show mG m8 126 31 = hv8_31 from ehv8_31)))]); (try rw [(show mG M11 126 34 = hv8_34 from ((st_ne hM11 (fun z => ne_fam rfl rfl (by decide) z.1)).trans (show mG m8 126 34 = hv8_34 from ehv8_34)))]); all_goals omega)), trivial⟩
  · skip
    refine w_gFc (ji := 43) rfl (congrArg Prod.fst (kl_126 iM11)) (show mG M11 126 43 = 158 from rd_Model_43 iM11 (a := 126) rfl) ?_
    refine w_gFc (ji := 42) rfl (congrArg Prod.fst (kl_126 iM11)) (show mG M11 126 42 = 157 from rd_Model_42 iM11 (a := 126) rfl) ?_
    refine w_aGc (kl_157 iM11) (by omega) (by omega) (show mG M11 157 l1 = v8 from (show mG M11 157 l1 = v8 from (st_eq hM11))) ?_
    refine w_call (s_X9_bound ⟨by omega, by omega⟩ ⟨by omega, by omega⟩ iM11) ?_
    intro v38 m38 pp38
    obtain ⟨im38, kk38, e38_0, -⟩ := pp38
    try dsimp only
    replace im38 : I n m38 := im38
    replace kk38 : Keep n W_X9_bound M11 m38 := kk38
    have km38 : Keep n W_X9_readSame M m38 := kM11.tr kk38 (fun b j z => z.elim)
    replace e38_0 : (-1) ≤ v38 ∧ v38 ≤ 2 := e38_0
    refine w_gK (congrArg Prod.fst (kl_126 im38)) ?_
    have lbm41_29 : mG m38 126 29 = hv8_29 := (show mG m38 126 29 = hv8_29 from ((kk38.2.2 126 29 (by omega) (fun z => z)).trans ((st_ne hM11 (fun z => ne_fam rfl rfl (by decide) z.1)).trans (show mG m8 126 29 = hv8_29 from ehv8_29))))
    have lbm41_31 : mG m38 126 31 = hv8_31 := (show mG m38 126 31 = hv8_31 from ((kk38.2.2 126 31 (by omega) (fun z => z)).trans ((st_ne hM11 (fun z => ne_fam rfl rfl (by decide) z.1)).trans (show mG m8 126 31 = hv8_31 from ehv8_31))))
    have lbm41_34 : mG m38 126 34 = hv8_34 := (show mG m38 126 34 = hv8_34 from ((kk38.2.2 126 34 (by omega) (fun z => z)).trans ((st_ne hM11 (fun z => ne_fam rfl rfl (by decide) z.1)).trans (show mG m8 126 34 = hv8_34 from ehv8_34))))
    refine w_call (s_X9_readVar ⟨by omega, by omega⟩ ⟨by omega, by omega⟩ (by (try rw [(show mG m38 126 29 = hv8_29 from ((kk38.2.2 126 29 (by omega) (fun z => z)).trans ((st_ne hM11 (fun z => ne_fam rfl rfl (by decide) z.1)).trans (show mG m8 126 29 = hv8_29 from ehv8_29))))]); (try rw [(show mG m38 126 31 = hv8_31 from ((kk38.2.2 126 31 (by omega) (fun z => z)).trans ((st_ne hM11 (fun z => ne_fam rfl rfl (by decide) z.1)).trans (show mG m8 126 31 = hv8_31 from ehv8_31))))]); (try rw [(show mG m38 126 34 = hv8_34 from ((kk38.2.2 126 34 (by omega) (fun z => z)).trans ((st_ne hM11 (fun z => ne_fam rfl rfl (by decide) z.1)).trans (show mG m8 126 34 = hv8_34 from ehv8_34))))]); all_goals omega) (by (try rw [(show mG m38 126 29 = hv8_29 from ((kk38.2.2 126 29 (by omega) (fun z => z)).trans ((st_ne hM11 (fun z => ne_fam rfl rfl (by decide) z.1)).trans (show mG m8 126 29 = hv8_29 from ehv8_29))))]); (try rw [(show mG m38 126 31 = hv8_31 from ((kk38.2.2 126 31 (by omega) (fun z => z)).trans ((st_ne hM11 (fun z => ne_fam rfl rfl (by decide) z.1)).trans (show mG m8 126 31 = hv8_31 from ehv8_31))))]); (try rw [(show mG m38 126 34 = hv8_34 from ((kk38.2.2 126 34 (by omega) (fun z => z)).trans ((st_ne hM11 (fun z => ne_fam rfl rfl (by decide) z.1)).trans (show mG m8 126 34 = hv8_34 from ehv8_34))))]); all_goals omega) (by (try rw [(show mG m38 126 29 = hv8_29 from ((kk38.2.2 126 29 (by omega) (fun z => z)).trans ((st_ne hM11 (fun z => ne_fam rfl rfl (by decide) z.1)).trans (show mG m8 126 29 = hv8_29 from ehv8_29))))]); (try rw [(show mG m38 126 31 = hv8_31 from ((kk38.2.2 126 31 (by omega) (fun z => z)).trans ((st_ne hM11 (fun z => ne_fam rfl rfl (by decide) z.1)).trans (show mG m8 126 31 = hv8_31 from ehv8_31))))]); (try rw [(show mG m38 126 34 = hv8_34 from ((kk38.2.2 126 34 (by omega) (fun z => z)).trans ((st_ne hM11 (fun z => ne_fam rfl rfl (by decide) z.1)).trans (show mG m8 126 34 = hv8_34 from ehv8_34))))]); all_goals omega) im38) ?_
    intro v41 m41 pp41
    obtain ⟨im41, kk41, e41_0, e41_1, -⟩ := pp41
    try dsimp only
    replace im41 : I n m41 := im41
    replace kk41 : Keep n W_X9_readVar m38 m41 := kk41
    have km41 : Keep n W_X9_readSame M m41 := km38.tr kk41 (fun b j z => Or.elim z (fun z => (Or.inr (Or.inl z))) (fun z => Or.elim z (fun z => (Or.inr (Or.inr (Or.inl z)))) (fun z => Or.elim z (fun z => (Or.inr (Or.inr (Or.inr (Or.inl z))))) (fun z => Or.elim z (fun z => (Or.inr (Or.inr (Or.inr (Or.inr (Or.inl z)))))) (fun z => Or.elim z (fun z => (Or.inr (Or.inr (Or.inr (Or.inr (Or.inr (Or.inl z))))))) (fun z => Or.elim z (fun z => (Or.inr (Or.inr (Or.inr (Or.inr (Or.inr (Or.inr (Or.inl z)))))))) (fun z => Or.elim z (fun z => (Or.inr (Or.inr (Or.inr (Or.inr (Or.inr (Or.inr (Or.inr (Or.inl z))))))))) (fun z => (Or.inr (Or.inr (Or.inr (Or.inr (Or.inr (Or.inr (Or.inr (Or.inr z))))))))))))))))
    replace e41_0 : (-1) ≤ v41 ∧ v41 ≤ 3 := e41_0
    replace e41_1 : mG m38 126 31 ≤ mG m41 126 31 ∧ mG m41 126 31 ≤ mG m41 126 29 ∧ (mG m41 126 34 = 0 ∨ mG m41 126 31 < mG m41 126 29) := e41_1
    obtain ⟨hv41_29, ehv41_29⟩ : ∃ v, Is (mG m41 126 29) v := ⟨_, rfl⟩
    have lhv41_29 : mG m41 126 29 = hv41_29 := ehv41_29
    have rhv41_29 : 0 ≤ hv41_29 ∧ hv41_29 ≤ 400 := by rw [← ehv41_29.e]; exact rd_Model_29 im41 rfl
    obtain ⟨hv41_31, ehv41_31⟩ : ∃ v, Is (mG m41 126 31) v := ⟨_, rfl⟩
    have lhv41_31 : mG m41 126 31 = hv41_31 := ehv41_31
    have rhv41_31 : 0 ≤ hv41_31 ∧ hv41_31 ≤ 400 := by rw [← ehv41_31.e]; exact rd_Model_31 im41 rfl
    obtain ⟨hv41_34, ehv41_34⟩ : ∃ v, Is (mG m41 126 34) v := ⟨_, rfl⟩
    have lhv41_34 : mG m41 126 34 = hv41_34 := ehv41_34
    skip
    refine w_aS (kl_158 im41) (by omega) (by omega) (fun M44 hM44 => ?_)
    replace hM44 : M44 = mS m41 158 l1 v41 := hM44
    have iM44 : I n M44 := wr_MnewTwo im41 rfl ⟨by omega, by omega⟩ hM44
    have kM44 : Keep n W_X9_readSame M M44 := km41.st hM44 (Or.inl (Or.inl ⟨by decide, by decide⟩))
    refine w_gFc (ji := 43) rfl (congrArg Prod.fst (kl_126 iM44)) (show mG M44 126 43 = 158 from rd_Model_43 iM44 (a := 126) rfl) ?_
    refine w_aGc (kl_158 iM44) (by omega) (by omega) (show mG M44 158 l1 = v41 from (show mG M44 158 l1 = v41 from (st_eq hM44))) ?_
    refine w_if (fun c2_ => ?_) (fun c2_ => ?_)
    · skip
      exact w_ret ⟨iM44, kM44, (show 0 ≤ 0 ∧ 0 ≤ 1 from ⟨by omega, by omega⟩), (show mG M 126 31 ≤ mG M44 126 31 ∧ mG M44 126 31 ≤ mG M44 126 29 ∧ (mG M44 126 34 = 0 ∨ mG M44 126 31 < mG M44 126 29) from (by (try rw [(show mG M44 126 29 = hv41_29 from ((st_ne hM44 (fun z => ne_fam rfl rfl (by decide) z.1)).trans (show mG m41 126 29 = hv41_29 from ehv41_29)))]); (try rw [(show mG M44 126 31 = hv41_31 from ((st_ne hM44 (fun z => ne_fam rfl rfl (by decide) z.1)).trans (show mG m41 126 31 = hv41_31 from ehv41_31)))]); (try rw [(show mG M44 126 34 = hv41_34 from ((st_ne hM44 (fun z => ne_fam rfl rfl (by decide) z.1)).trans (show mG m41 126 34 = hv41_34 from ehv41_34)))]); all_goals omega)), trivial⟩
    · skip
      exact w_ret ⟨iM44, kM44, (show 0 ≤ 1 ∧ 1 ≤ 1 from ⟨by omega, by omega⟩), (show mG M 126 31 ≤ mG M44 126 31 ∧ mG M44 126 31 ≤ mG M44 126 29 ∧ (mG M44 126 34 = 0 ∨ mG M44 126 31 < mG M44 126 29) from (by (try rw [(show mG M44 126 29 = hv41_29 from ((st_ne hM44 (fun z => ne_fam rfl rfl (by decide) z.1)).trans (show mG m41 126 29 = hv41_29 from ehv41_29)))]); (try rw [(show mG M44 126 31 = hv41_31 from ((st_ne hM44 (fun z => ne_fam rfl rfl (by decide) z.1)).trans (show mG m41 126 31 = hv41_31 from ehv41_31)))]); (try rw [(show mG M44 126 34 = hv41_34 from ((st_ne hM44 (fun z => ne_fam rfl rfl (by decide) z.1)).trans (show mG m41 126 34 = hv41_34 from ehv41_34)))]); all_goals omega)), trivial⟩
def W_X9_kindOf (b j : Int) : Prop := False
theorem s_X9_kindOf {n : Nat} {M : Mem} (y0 : mG M 126 34 = mG M 126 34) (iM : I n M) : wp (mX9_kindOf 126 M) (fun q => I n q.2 ∧ Keep n W_X9_kindOf M q.2 ∧ ((-1) ≤ q.1 ∧ q.1 ≤ 2) ∧ (q.1 = -1 ∨ ¬ mG q.2 126 34 = 0) ∧ True) := by
  have hn : (169 : Int) ≤ (n : Int) := by have := iM.2.2.2.2.1; omega
  have kM : Keep n W_X9_kindOf M M := Keep.rf
  obtain ⟨nh0, enh0⟩ : ∃ v, Is (mG M 126 34) v := ⟨_, rfl⟩
  have qnh0 : mG M 126 34 = nh0 := enh0
  (try rw [enh0.e] at y0)
  unfold mX9_kindOf
  refine w_gK (congrArg Prod.fst (kl_126 iM)) ?_
  refine w_call (s_X9_isWord ⟨by omega, by omega⟩ (by (try rw [(show mG M 126 34 = nh0 from (show mG M 126 34 = nh0 from enh0))]); all_goals omega) iM) ?_
  intro v4 m4 pp4
  obtain ⟨im4, kk4, e4_0, e4_1, -⟩ := pp4
  try dsimp only
  replace im4 : I n m4 := im4
  replace kk4 : Keep n W_X9_isWord M m4 := kk4
  have km4 : Keep n W_X9_kindOf M m4 := kM.tr kk4 (fun b j z => z.elim)
  replace e4_0 : 0 ≤ v4 ∧ v4 ≤ 1 := e4_0
  replace e4_1 : v4 = 1 → mG m4 126 34 = 7168366 := e4_1
  have lk4 : mG m4 126 34 = nh0 := ((kk4.2.2 126 34 (by omega) (fun z => z)).trans (show mG M 126 34 = nh0 from enh0))
  refine w_if (fun c1_ => ?_) (fun c1_ => ?_)
  · skip
    refine w_gK (congrArg Prod.fst (kl_126 im4)) ?_
    refine w_call (s_X9_isWord ⟨by omega, by omega⟩ (by (try rw [(show mG m4 126 34 = nh0 from ((kk4.2.2 126 34 (by omega) (fun z => z)).trans (show mG M 126 34 = nh0 from enh0)))]); all_goals omega) im4) ?_
    intro v18 m18 pp18
    obtain ⟨im18, kk18, e18_0, e18_1, -⟩ := pp18
    try dsimp only
    replace im18 : I n m18 := im18
    replace kk18 : Keep n W_X9_isWord m4 m18 := kk18
    have km18 : Keep n W_X9_kindOf M m18 := km4.tr kk18 (fun b j z => z.elim)
    replace e18_0 : 0 ≤ v18 ∧ v18 ≤ 1 := e18_0
    replace e18_1 : v18 = 1 → mG m18 126 34 = 448546567013 := e18_1
    have lk18 : mG m18 126 34 = nh0 := ((kk18.2.2 126 34 (by omega) (fun z => z)).trans ((kk4.2.2 126 34 (by omega) (fun z => z)).trans (show mG M 126 34 = nh0 from enh0)))
    refine w_if (fun c2_ => ?_) (fun c2_ => ?_)
    · skip
      refine w_gK (congrArg Prod.fst (kl_126 im18)) ?_
      refine w_call (s_X9_isWord ⟨by omega, by omega⟩ (by (try rw [(show mG m18 126 34 = nh0 from ((kk18.2.2 126 34 (by omega) (fun z => z)).trans ((kk4.2.2 126 34 (by omega) (fun z => z)).trans (show mG M 126 34 = nh0 from enh0))))]); all_goals omega) im18) ?_
      intro v32 m32 pp32
      obtain ⟨im32, kk32, e32_0, e32_1, -⟩ := pp32
      try dsimp only
      replace im32 : I n m32 := im32
      replace kk32 : Keep n W_X9_isWord m18 m32 := kk32
      have km32 : Keep n W_X9_kindOf M m32 := km18.tr kk32 (fun b j z => z.elim)
      replace e32_0 : 0 ≤ v32 ∧ v32 ≤ 1 := e32_0
      replace e32_1 : v32 = 1 → mG m32 126 34 = 6578553 := e32_1
      have lk32 : mG m32 126 34 = nh0 := ((kk32.2.2 126 34 (by omega) (fun z => z)).trans ((kk18.2.2 126 34 (by omega) (fun z => z)).trans ((kk4.2.2 126 34 (by omega) (fun z => z)).trans (show mG M 126 34 = nh0 from enh0))))
      refine w_if (fun c3_ => ?_) (fun c3_ => ?_)
      · skip
        exact w_ret ⟨im32, km32, (show (-1) ≤ (-1) ∧ (-1) ≤ 2 from ⟨by omega, by omega⟩), (show (-1) = -1 ∨ ¬ mG m32 126 34 = 0 from (by (try rw [(show mG m32 126 34 = nh0 from ((kk32.2.2 126 34 (by omega) (fun z => z)).trans ((kk18.2.2 126 34 (by omega) (fun z => z)).trans ((kk4.2.2 126 34 (by omega) (fun z => z)).trans (show mG M 126 34 = nh0 from enh0)))))]); all_goals omega)), trivial⟩
      · skip
        exact w_ret ⟨im32, km32, (show (-1) ≤ 2 ∧ 2 ≤ 2 from ⟨by omega, by omega⟩), (show 2 = -1 ∨ ¬ mG m32 126 34 = 0 from (by (try rw [(show mG m32 126 34 = nh0 from ((kk32.2.2 126 34 (by omega) (fun z => z)).trans ((kk18.2.2 126 34 (by omega) (fun z => z)).trans ((kk4.2.2 126 34 (by omega) (fun z => z)).trans (show mG M 126 34 = nh0 from enh0)))))]); all_goals omega)), trivial⟩
    · skip
      exact w_ret ⟨im18, km18, (show (-1) ≤ 1 ∧ 1 ≤ 2 from ⟨by omega, by omega⟩), (show 1 = -1 ∨ ¬ mG m18 126 34 = 0 from (by (try rw [(show mG m18 126 34 = nh0 from ((kk18.2.2 126 34 (by omega) (fun z => z)).trans ((kk4.2.2 126 34 (by omega) (fun z => z)).trans (show mG M 126 34 = nh0 from enh0))))]); all_goals omega)), trivial⟩
  · skip
    exact w_ret ⟨im4, km4, (show (-1) ≤ 0 ∧ 0 ≤ 2 from ⟨by omega, by omega⟩), (show 0 = -1 ∨ ¬ mG m4 126 34 = 0 from (by (try rw [(show mG m4 126 34 = nh0 from ((kk4.2.2 126 34 (by omega) (fun z => z)).trans (show mG M 126 34 = nh0 from enh0)))]); all_goals omega)), trivial⟩
def W_X9_readBinder (b j : Int) : Prop := b = 155 ∨ (157 ≤ b ∧ b ≤ 159) ∨ (b = 126 ∧ j = 29) ∨ (b = 126 ∧ j = 31) ∨ (b = 126 ∧ j = 32) ∨ (b = 126 ∧ j = 33) ∨ (b = 126 ∧ j = 34) ∨ (b = 126 ∧ j = 35) ∨ (b = 126 ∧ j = 38)
theorem s_X9_readBinder_49 {n : Nat} {Me : Mem} {l1 l2 : Int} {M : Mem} (r_l1 : 0 ≤ l1 ∧ l1 ≤ 40) (r_l2 : (-2147483648) ≤ l2 ∧ l2 ≤ 2147483647) (y0 : mG M 126 29 = mG M 126 29) (y1 : mG M 126 31 ≤ mG M 126 29 ∧ mG Me 126 31 ≤ mG M 126 31) (y2 : (mG M 126 34 = 0 ∨ mG M 126 31 < mG M 126 29)) (y3 : mG M 126 38 = mG Me 126 38 ∧ mG M 126 38 ≤ 419) (iM : I n M) (kM : Keep n W_X9_readBinder Me M) : wp (mX9_readBinder_49 126 l1 l2 M) (fun q => I n q.2 ∧ Keep n W_X9_readBinder Me q.2 ∧ (0 ≤ q.1 ∧ q.1 ≤ 1) ∧ (mG Me 126 31 ≤ mG q.2 126 31 ∧ mG q.2 126 31 ≤ mG q.2 126 29 ∧ (mG q.2 126 34 = 0 ∨ mG q.2 126 31 < mG q.2 126 29)) ∧ (mG q.2 126 38 ≤ mG Me 126 38 + 1) ∧ True) := by
  have hn : (169 : Int) ≤ (n : Int) := by have := iM.2.2.2.2.1; omega
  obtain ⟨nh0, enh0⟩ : ∃ v, Is (mG M 126 29) v := ⟨_, rfl⟩
  have rnh0 : 0 ≤ nh0 ∧ nh0 ≤ 400 := by rw [← enh0.e]; exact rd_Model_29 iM rfl
  have qnh0 : mG M 126 29 = nh0 := enh0
  (try rw [enh0.e] at y0); (try rw [enh0.e] at y1); (try rw [enh0.e] at y2); (try rw [enh0.e] at y3)
  obtain ⟨nh1, enh1⟩ : ∃ v, Is (mG M 126 31) v := ⟨_, rfl⟩
  have rnh1 : 0 ≤ nh1 ∧ nh1 ≤ 400 := by rw [← enh1.e]; exact rd_Model_31 iM rfl
  have qnh1 : mG M 126 31 = nh1 := enh1
  (try rw [enh1.e] at y0); (try rw [enh1.e] at y1); (try rw [enh1.e] at y2); (try rw [enh1.e] at y3)
  obtain ⟨nh2, enh2⟩ : ∃ v, Is (mG M 126 34) v := ⟨_, rfl⟩
  have qnh2 : mG M 126 34 = nh2 := enh2
  (try rw [enh2.e] at y0); (try rw [enh2.e] at y1); (try rw [enh2.e] at y2); (try rw [enh2.e] at y3)
  obtain ⟨nh3, enh3⟩ : ∃ v, Is (mG M 126 38) v := ⟨_, rfl⟩
  have rnh3 : 0 ≤ nh3 ∧ nh3 ≤ 420 := by rw [← enh3.e]; exact rd_Model_38 iM rfl
  have qnh3 : mG M 126 38 = nh3 := enh3
  (try rw [enh3.e] at y0); (try rw [enh3.e] at y1); (try rw [enh3.e] at y2); (try rw [enh3.e] at y3)
  unfold mX9_readBinder_49
  refine w_gK (congrArg Prod.fst (kl_126 iM)) ?_
  refine w_call (s_X9_varOf (by (try rw [(show mG M 126 34 = nh2 from (show mG M 126 34 = nh2 from enh2))]); all_goals omega) iM) ?_
  intro v50 m50 pp50
  obtain ⟨im50, kk50, e50_0, e50_1, -⟩ := pp50
  try dsimp only
  replace im50 : I n m50 := im50
  replace kk50 : Keep n W_X9_varOf M m50 := kk50
  have km50 : Keep n W_X9_readBinder Me m50 := kM.tr kk50 (fun b j z => z.elim)
  replace e50_0 : (-1) ≤ v50 ∧ v50 ≤ 3 := e50_0
  replace e50_1 : v50 = -1 ∨ ¬ mG m50 126 34 = 0 := e50_1
  have lk50 : mG m50 126 34 = nh2 := ((kk50.2.2 126 34 (by omega) (fun z => z)).trans (show mG M 126 34 = nh2 from enh2))
  refine w_if (fun c1_ => ?_) (fun c1_ => ?_)
  · skip
    refine w_gFc (ji := 31) rfl (congrArg Prod.fst (kl_126 im50)) (show mG m50 126 31 = nh1 from ((kk50.2.2 126 31 (by omega) (fun z => z)).trans (show mG M 126 31 = nh1 from enh1))) ?_
    refine w_pF (ji := 35) rfl (congrArg Prod.fst (kl_126 im50)) (fun M64 hM64 => ?_)
    replace hM64 : M64 = mS m50 126 35 nh1 := hM64
    have iM64 : I n M64 := wr_Model_35 im50 rfl ⟨by omega, by omega⟩ hM64
    have kM64 : Keep n W_X9_readBinder Me M64 := km50.st hM64 (Or.inl (Or.inr (Or.inr (Or.inr (Or.inr (Or.inr (Or.inr (Or.inr (Or.inl ⟨rfl, rfl⟩)))))))))
    exact w_ret ⟨iM64, kM64, (show 0 ≤ 0 ∧ 0 ≤ 1 from ⟨by omega, by omega⟩), (show mG Me 126 31 ≤ mG M64 126 31 ∧ mG M64 126 31 ≤ mG M64 126 29 ∧ (mG M64 126 34 = 0 ∨ mG M64 126 31 < mG M64 126 29) from (by (try rw [(show mG M64 126 29 = nh0 from ((st_ne hM64 (fun z => absurd z.2 (by decide))).trans ((kk50.2.2 126 29 (by omega) (fun z => z)).trans (show mG M 126 29 = nh0 from enh0))))]); (try rw [(show mG M64 126 31 = nh1 from ((st_ne hM64 (fun z => absurd z.2 (by decide))).trans ((kk50.2.2 126 31 (by omega) (fun z => z)).trans (show mG M 126 31 = nh1 from enh1))))]); (try rw [(show mG M64 126 34 = nh2 from ((st_ne hM64 (fun z => absurd z.2 (by decide))).trans ((kk50.2.2 126 34 (by omega) (fun z => z)).trans (show mG M 126 34 = nh2 from enh2))))]); all_goals omega)), (show mG M64 126 38 ≤ mG Me 126 38 + 1 from (by (try rw [(show mG M64 126 38 = nh3 from ((st_ne hM64 (fun z => absurd z.2 (by decide))).trans ((kk50.2.2 126 38 (by omega) (fun z => z)).trans (show mG M 126 38 = nh3 from enh3))))]); all_goals omega)), trivial⟩
  · skip
    refine w_gK (congrArg Prod.fst (kl_126 im50)) ?_
    have lbm70_29 : mG m50 126 29 = nh0 := (show mG m50 126 29 = nh0 from ((kk50.2.2 126 29 (by omega) (fun z => z)).trans (show mG M 126 29 = nh0 from enh0)))
    have lbm70_31 : mG m50 126 31 = nh1 := (show mG m50 126 31 = nh1 from ((kk50.2.2 126 31 (by omega) (fun z => z)).trans (show mG M 126 31 = nh1 from enh1)))
    have lbm70_34 : mG m50 126 34 = nh2 := (show mG m50 126 34 = nh2 from ((kk50.2.2 126 34 (by omega) (fun z => z)).trans (show mG M 126 34 = nh2 from enh2)))
    refine w_call (s_X9_token im50) ?_
    intro v70 m70 pp70
    obtain ⟨im70, kk70, e70_0, -⟩ := pp70
    try dsimp only
    replace im70 : I n m70 := im70
    replace kk70 : Keep n W_X9_token m50 m70 := kk70
    have km70 : Keep n W_X9_readBinder Me m70 := km50.tr kk70 (fun b j z => Or.elim z (fun z => (Or.inr (Or.inr (Or.inl z)))) (fun z => Or.elim z (fun z => (Or.inr (Or.inr (Or.inr (Or.inl z))))) (fun z => Or.elim z (fun z => (Or.inr (Or.inr (Or.inr (Or.inr (Or.inl z)))))) (fun z => Or.elim z (fun z => (Or.inr (Or.inr (Or.inr (Or.inr (Or.inr (Or.inl z))))))) (fun z => (Or.inr (Or.inr (Or.inr (Or.inr (Or.inr (Or.inr (Or.inl z))))))))))))
    replace e70_0 : mG m50 126 29 ≤ mG m70 126 31 ∧ mG m70 126 31 ≤ mG m70 126 29 ∧ (mG m70 126 34 = 0 ∨ mG m70 126 31 < mG m70 126 29) := e70_0
    obtain ⟨hv70_29, ehv70_29⟩ : ∃ v, Is (mG m70 126 29) v := ⟨_, rfl⟩
    have lhv70_29 : mG m70 126 29 = hv70_29 := ehv70_29
    have rhv70_29 : 0 ≤ hv70_29 ∧ hv70_29 ≤ 400 := by rw [← ehv70_29.e]; exact rd_Model_29 im70 rfl
    obtain ⟨hv70_31, ehv70_31⟩ : ∃ v, Is (mG m70 126 31) v := ⟨_, rfl⟩
    have lhv70_31 : mG m70 126 31 = hv70_31 := ehv70_31
    have rhv70_31 : 0 ≤ hv70_31 ∧ hv70_31 ≤ 400 := by rw [← ehv70_31.e]; exact rd_Model_31 im70 rfl
    obtain ⟨hv70_34, ehv70_34⟩ : ∃ v, Is (mG m70 126 34) v := ⟨_, rfl⟩
    have lhv70_34 : mG m70 126 34 = hv70_34 := ehv70_34
    skip
    refine w_gK (congrArg Prod.fst (kl_126 im70)) ?_
    refine w_call (s_X9_kindOf (by (try rw [(show mG m70 126 34 = hv70_34 from (show mG m70 126 34 = hv70_34 from ehv70_34))]); all_goals omega) im70) ?_
    intro v74 m74 pp74
    obtain ⟨im74, kk74, e74_0, e74_1, -⟩ := pp74
    try dsimp only
    replace im74 : I n m74 := im74
    replace kk74 : Keep n W_X9_kindOf m70 m74 := kk74
    have km74 : Keep n W_X9_readBinder Me m74 := km70.tr kk74 (fun b j z => z.elim)
    replace e74_0 : (-1) ≤ v74 ∧ v74 ≤ 2 := e74_0
    replace e74_1 : v74 = -1 ∨ ¬ mG m74 126 34 = 0 := e74_1
    have lk74 : mG m74 126 34 = hv70_34 := ((kk74.2.2 126 34 (by omega) (fun z => z)).trans (show mG m70 126 34 = hv70_34 from ehv70_34))
    refine w_if (fun c2_ => ?_) (fun c2_ => ?_)
    · skip
      refine w_gFc (ji := 31) rfl (congrArg Prod.fst (kl_126 im74)) (show mG m74 126 31 = hv70_31 from ((kk74.2.2 126 31 (by omega) (fun z => z)).trans (show mG m70 126 31 = hv70_31 from ehv70_31))) ?_
      refine w_pF (ji := 35) rfl (congrArg Prod.fst (kl_126 im74)) (fun M90 hM90 => ?_)
      replace hM90 : M90 = mS m74 126 35 hv70_31 := hM90
      have iM90 : I n M90 := wr_Model_35 im74 rfl ⟨by omega, by omega⟩ hM90
      have kM90 : Keep n W_X9_readBinder Me M90 := km74.st hM90 (Or.inl (Or.inr (Or.inr (Or.inr (Or.inr (Or.inr (Or.inr (Or.inr (Or.inl ⟨rfl, rfl⟩)))))))))
      exact w_ret ⟨iM90, kM90, (show 0 ≤ 0 ∧ 0 ≤ 1 from ⟨by omega, by omega⟩), (show mG Me 126 31 ≤ mG M90 126 31 ∧ mG M90 126 31 ≤ mG M90 126 29 ∧ (mG M90 126 34 = 0 ∨ mG M90 126 31 < mG M90 126 29) from (by (try rw [(show mG M90 126 29 = hv70_29 from ((st_ne hM90 (fun z => absurd z.2 (by decide))).trans ((kk74.2.2 126 29 (by omega) (fun z => z)).trans (show mG m70 126 29 = hv70_29 from ehv70_29))))]); (try rw [(show mG M90 126 31 = hv70_31 from ((st_ne hM90 (fun z => absurd z.2 (by decide))).trans ((kk74.2.2 126 31 (by omega) (fun z => z)).trans (show mG m70 126 31 = hv70_31 from ehv70_31))))]); (try rw [(show mG M90 126 34 = hv70_34 from ((st_ne hM90 (fun z => absurd z.2 (by decide))).trans ((kk74.2.2 126 34 (by omega) (fun z => z)).trans (show mG m70 126 34 = hv70_34 from ehv70_34))))]); all_goals omega)), (show mG M90 126 38 ≤ mG Me 126 38 + 1 from (by (try rw [(show mG M90 126 38 = nh3 from ((st_ne hM90 (fun z => absurd z.2 (by decide))).trans ((kk74.2.2 126 38 (by omega) (fun z => z)).trans ((kk70.2.2 126 38 (by omega) (fun z => by unfold W_X9_token at z; (try unfold isWS at z); (try unfold isShape at z); (try unfold isTold at z); (try dsimp only at z); omega)).trans ((kk50.2.2 126 38 (by omega) (fun z => z)).trans (show mG M 126 38 = nh3 from enh3))))))]); all_goals omega)), trivial⟩
    · skip
      refine w_gK (congrArg Prod.fst (kl_126 im74)) ?_
      have lbm96_29 : mG m74 126 29 = hv70_29 := (show mG m74 126 29 = hv70_29 from ((kk74.2.2 126 29 (by omega) (fun z => z)).trans (show mG m70 126 29 = hv70_29 from ehv70_29)))
      have lbm96_31 : mG m74 126 31 = hv70_31 := (show mG m74 126 31 = hv70_31 from ((kk74.2.2 126 31 (by omega) (fun z => z)).trans (show mG m70 126 31 = hv70_31 from ehv70_31)))
      have lbm96_34 : mG m74 126 34 = hv70_34 := (show mG m74 126 34 = hv70_34 from ((kk74.2.2 126 34 (by omega) (fun z => z)).trans (show mG m70 126 34 = hv70_34 from ehv70_34)))
      refine w_call (s_X9_token im74) ?_
      intro v96 m96 pp96
      obtain ⟨im96, kk96, e96_0, -⟩ := pp96
      try dsimp only
      replace im96 : I n m96 := im96
      replace kk96 : Keep n W_X9_token m74 m96 := kk96
      have km96 : Keep n W_X9_readBinder Me m96 := km74.tr kk96 (fun b j z => Or.elim z (fun z => (Or.inr (Or.inr (Or.inl z)))) (fun z => Or.elim z (fun z => (Or.inr (Or.inr (Or.inr (Or.inl z))))) (fun z => Or.elim z (fun z => (Or.inr (Or.inr (Or.inr (Or.inr (Or.inl z)))))) (fun z => Or.elim z (fun z => (Or.inr (Or.inr (Or.inr (Or.inr (Or.inr (Or.inl z))))))) (fun z => (Or.inr (Or.inr (Or.inr (Or.inr (Or.inr (Or.inr (Or.inl z))))))))))))
      replace e96_0 : mG m74 126 29 ≤ mG m96 126 31 ∧ mG m96 126 31 ≤ mG m96 126 29 ∧ (mG m96 126 34 = 0 ∨ mG m96 126 31 < mG m96 126 29) := e96_0
      obtain ⟨hv96_29, ehv96_29⟩ : ∃ v, Is (mG m96 126 29) v := ⟨_, rfl⟩
      have lhv96_29 : mG m96 126 29 = hv96_29 := ehv96_29
      have rhv96_29 : 0 ≤ hv96_29 ∧ hv96_29 ≤ 400 := by rw [← ehv96_29.e]; exact rd_Model_29 im96 rfl
      obtain ⟨hv96_31, ehv96_31⟩ : ∃ v, Is (mG m96 126 31) v := ⟨_, rfl⟩
      have lhv96_31 : mG m96 126 31 = hv96_31 := ehv96_31
      have rhv96_31 : 0 ≤ hv96_31 ∧ hv96_31 ≤ 400 := by rw [← ehv96_31.e]; exact rd_Model_31 im96 rfl
      obtain ⟨hv96_34, ehv96_34⟩ : ∃ v, Is (mG m96 126 34) v := ⟨_, rfl⟩
      have lhv96_34 : mG m96 126 34 = hv96_34 := ehv96_34
      skip
      refine w_gFc (ji := 42) rfl (congrArg Prod.fst (kl_126 im96)) (show mG m96 126 42 = 157 from rd_Model_42 im96 (a := 126) rfl) ?_
      refine w_aS (kl_157 im96) (by omega) (by omega) (fun M105 hM105 => ?_)
      replace hM105 : M105 = mS m96 157 l1 v50 := hM105
      have iM105 : I n M105 := wr_MnewOne im96 rfl ⟨by omega, by omega⟩ hM105
      have kM105 : Keep n W_X9_readBinder Me M105 := km96.st hM105 (Or.inl (Or.inr (Or.inl ⟨by decide, by decide⟩)))
      refine w_gFc (ji := 43) rfl (congrArg Prod.fst (kl_126 iM105)) (show mG M105 126 43 = 158 from rd_Model_43 iM105 (a := 126) rfl) ?_
      refine w_aS (kl_158 iM105) (by omega) (by omega) (fun M113 hM113 => ?_)
      replace hM113 : M113 = mS M105 158 l1 v74 := hM113
      have iM113 : I n M113 := wr_MnewTwo iM105 rfl ⟨by omega, by omega⟩ hM113
      have kM113 : Keep n W_X9_readBinder Me M113 := kM105.st hM113 (Or.inl (Or.inr (Or.inl ⟨by decide, by decide⟩)))
      refine w_gK (congrArg Prod.fst (kl_126 iM113)) ?_
      have lbm135_38 : mG M113 126 38 = nh3 := (show mG M113 126 38 = nh3 from ((st_ne hM113 (fun z => ne_fam rfl rfl (by decide) z.1)).trans ((st_ne hM105 (fun z => ne_fam rfl rfl (by decide) z.1)).trans ((kk96.2.2 126 38 (by omega) (fun z => by unfold W_X9_token at z; (try unfold isWS at z); (try unfold isShape at z); (try unfold isTold at z); (try dsimp only at z); omega)).trans ((kk74.2.2 126 38 (by omega) (fun z => z)).trans ((kk70.2.2 126 38 (by omega) (fun z => by unfold W_X9_token at z; (try unfold isWS at z); (try unfold isShape at z); (try unfold isTold at z); (try dsimp only at z); omega)).trans ((kk50.2.2 126 38 (by omega) (fun z => z)).trans (show mG M 126 38 = nh3 from enh3))))))))
      have w3_ := wI_id (x := (2 * v50)) (by omega) (by omega)
      have w4_ := ishl_in 3 (wI (2 * v50))
      have w5_ := ixor_in (ishl 3 (wI (2 * v50))) (-1)
      have w6_ := iand_in l2 (ixor (ishl 3 (wI (2 * v50))) (-1))
      have w7_ := ishl_in v74 (wI (2 * v50))
      have w8_ := ior_in (iand l2 (ixor (ishl 3 (wI (2 * v50))) (-1))) (ishl v74 (wI (2 * v50)))
      have w9_ := And.intro (wI_lo ((ior (iand l2 (ixor (ishl 3 (wI (2 * v50))) (-1))) (ishl v74 (wI (2 * v50)))) + 256)) (wI_hi ((ior (iand l2 (ixor (ishl 3 (wI (2 * v50))) (-1))) (ishl v74 (wI (2 * v50)))) + 256))
      refine w_call (s_X9_wait ⟨by omega, by omega⟩ (by (try rw [(show mG M113 126 38 = nh3 from ((st_ne hM113 (fun z => ne_fam rfl rfl (by decide) z.1)).trans ((st_ne hM105 (fun z => ne_fam rfl rfl (by decide) z.1)).trans ((kk96.2.2 126 38 (by omega) (fun z => by unfold W_X9_token at z; (try unfold isWS at z); (try unfold isShape at z); (try unfold isTold at z); (try dsimp only at z); omega)).trans ((kk74.2.2 126 38 (by omega) (fun z => z)).trans ((kk70.2.2 126 38 (by omega) (fun z => by unfold W_X9_token at z; (try unfold isWS at z); (try unfold isShape at z); (try unfold isTold at z); (try dsimp only at z); omega)).trans ((kk50.2.2 126 38 (by omega) (fun z => z)).trans (show mG M 126 38 = nh3 from enh3))))))))]); all_goals omega) iM113) ?_
      intro v135 m135 pp135
      obtain ⟨im135, kk135, e135_0, -⟩ := pp135
      try dsimp only
      replace im135 : I n m135 := im135
      replace kk135 : Keep n W_X9_wait M113 m135 := kk135
      have km135 : Keep n W_X9_readBinder Me m135 := kM113.tr kk135 (fun b j z => Or.elim z (fun z => (Or.inl z)) (fun z => (Or.inr (Or.inr (Or.inr (Or.inr (Or.inr (Or.inr (Or.inr (Or.inr z))))))))))
      replace e135_0 : mG m135 126 38 = mG M113 126 38 + 1 := e135_0
      obtain ⟨hv135_38, ehv135_38⟩ : ∃ v, Is (mG m135 126 38) v := ⟨_, rfl⟩
      have lhv135_38 : mG m135 126 38 = hv135_38 := ehv135_38
      have rhv135_38 : 0 ≤ hv135_38 ∧ hv135_38 ≤ 420 := by rw [← ehv135_38.e]; exact rd_Model_38 im135 rfl
      exact w_ret ⟨im135, km135, (show 0 ≤ 1 ∧ 1 ≤ 1 from ⟨by omega, by omega⟩), (show mG Me 126 31 ≤ mG m135 126 31 ∧ mG m135 126 31 ≤ mG m135 126 29 ∧ (mG m135 126 34 = 0 ∨ mG m135 126 31 < mG m135 126 29) from (by (try rw [(show mG m135 126 29 = hv96_29 from ((kk135.2.2 126 29 (by omega) (fun z => by unfold W_X9_wait at z; (try unfold isWS at z); (try unfold isShape at z); (try unfold isTold at z); (try dsimp only at z); omega)).trans ((st_ne hM113 (fun z => ne_fam rfl rfl (by decide) z.1)).trans ((st_ne hM105 (fun z => ne_fam rfl rfl (by decide) z.1)).trans (show mG m96 126 29 = hv96_29 from ehv96_29)))))]); (try rw [(show mG m135 126 31 = hv96_31 from ((kk135.2.2 126 31 (by omega) (fun z => by unfold W_X9_wait at z; (try unfold isWS at z); (try unfold isShape at z); (try unfold isTold at z); (try dsimp only at z); omega)).trans ((st_ne hM113 (fun z => ne_fam rfl rfl (by decide) z.1)).trans ((st_ne hM105 (fun z => ne_fam rfl rfl (by decide) z.1)).trans (show mG m96 126 31 = hv96_31 from ehv96_31)))))]); (try rw [(show mG m135 126 34 = hv96_34 from ((kk135.2.2 126 34 (by omega) (fun z => by unfold W_X9_wait at z; (try unfold isWS at z); (try unfold isShape at z); (try unfold isTold at z); (try dsimp only at z); omega)).trans ((st_ne hM113 (fun z => ne_fam rfl rfl (by decide) z.1)).trans ((st_ne hM105 (fun z => ne_fam rfl rfl (by decide) z.1)).trans (show mG m96 126 34 = hv96_34 from ehv96_34)))))]); all_goals omega)), (show mG m135 126 38 ≤ mG Me 126 38 + 1 from (by (try rw [(show mG m135 126 38 = hv135_38 from (show mG m135 126 38 = hv135_38 from ehv135_38))]); all_goals omega)), trivial⟩
theorem s_X9_readBinder {n : Nat} {l1 l2 : Int} {M : Mem} (r_l1 : 0 ≤ l1 ∧ l1 ≤ 40) (r_l2 : (-2147483648) ≤ l2 ∧ l2 ≤ 2147483647) (y0 : mG M 126 29 = mG M 126 29) (y1 : mG M 126 31 ≤ mG M 126 29) (y2 : mG M 126 34 = 0 ∨ mG M 126 31 < mG M 126 29) (y3 : mG M 126 38 ≤ 419) (iM : I n M) : wp (mX9_readBinder 126 l1 l2 M) (fun q => I n q.2 ∧ Keep n W_X9_readBinder M q.2 ∧ (0 ≤ q.1 ∧ q.1 ≤ 1) ∧ (mG M 126 31 ≤ mG q.2 126 31 ∧ mG q.2 126 31 ≤ mG q.2 126 29 ∧ (mG q.2 126 34 = 0 ∨ mG q.2 126 31 < mG q.2 126 29)) ∧ (mG q.2 126 38 ≤ mG M 126 38 + 1) ∧ True) := by
  have hn : (169 : Int) ≤ (n : Int) := by have := iM.2.2.2.2.1; omega
  have kM : Keep n W_X9_readBinder M M := Keep.rf
  obtain ⟨nh0, enh0⟩ : ∃ v, Is (mG M 126 29) v := ⟨_, rfl⟩
  have rnh0 : 0 ≤ nh0 ∧ nh0 ≤ 400 := by rw [← enh0.e]; exact rd_Model_29 iM rfl
  have qnh0 : mG M 126 29 = nh0 := enh0
  (try rw [enh0.e] at y0); (try rw [enh0.e] at y1); (try rw [enh0.e] at y2); (try rw [enh0.e] at y3)
  obtain ⟨nh1, enh1⟩ : ∃ v, Is (mG M 126 31) v := ⟨_, rfl⟩
  have rnh1 : 0 ≤ nh1 ∧ nh1 ≤ 400 := by rw [← enh1.e]; exact rd_Model_31 iM rfl
  have qnh1 : mG M 126 31 = nh1 := enh1
  (try rw [enh1.e] at y0); (try rw [enh1.e] at y1); (try rw [enh1.e] at y2); (try rw [enh1.e] at y3)
  obtain ⟨nh2, enh2⟩ : ∃ v, Is (mG M 126 34) v := ⟨_, rfl⟩
  have qnh2 : mG M 126 34 = nh2 := enh2
  (try rw [enh2.e] at y0); (try rw [enh2.e] at y1); (try rw [enh2.e] at y2); (try rw [enh2.e] at y3)
  obtain ⟨nh3, enh3⟩ : ∃ v, Is (mG M 126 38) v := ⟨_, rfl⟩
  have rnh3 : 0 ≤ nh3 ∧ nh3 ≤ 420 := by rw [← enh3.e]; exact rd_Model_38 iM rfl
  have qnh3 : mG M 126 38 = nh3 := enh3
  (try rw [enh3.e] at y0); (try rw [enh3.e] at y1); (try rw [enh3.e] at y2); (try rw [enh3.e] at y3)
  unfold mX9_readBinder
  refine w_gFc (ji := 44) rfl (congrArg Prod.fst (kl_126 iM)) (show mG M 126 44 = 159 from rd_Model_44 iM (a := 126) rfl) ?_
  refine w_aS (kl_159 iM) (by omega) (by omega) (fun M6 hM6 => ?_)
  replace hM6 : M6 = mS M 159 l1 0 := hM6
  have iM6 : I n M6 := wr_MnewThree iM rfl ⟨by omega, by omega⟩ hM6
  have kM6 : Keep n W_X9_readBinder M M6 := kM.st hM6 (Or.inl (Or.inr (Or.inl ⟨by decide, by decide⟩)))
  refine w_gFc (ji := 41) rfl (congrArg Prod.fst (kl_126 iM6)) (show mG M6 126 41 = 156 from rd_Model_41 iM6 (a := 126) rfl) ?_
  refine w_aG (kl_156 iM6) (by omega) (by omega) (fun a12 ha12 => ?_)
  have ra12 : (-1) ≤ a12 ∧ a12 ≤ 12 := ha12.tr (P := fun z => (-1) ≤ z ∧ z ≤ 12) (rd_MnewAct iM6 rfl)
  refine w_if (fun c1_ => ?_) (fun c1_ => ?_)
  · skip
    exact s_X9_readBinder_49 ⟨by omega, by omega⟩ ⟨by omega, by omega⟩ (by (try rw [(show mG M6 126 29 = nh0 from ((st_ne hM6 (fun z => ne_fam rfl rfl (by decide) z.1)).trans (show mG M 126 29 = nh0 from enh0)))]); (try rw [(show mG M6 126 31 = nh1 from ((st_ne hM6 (fun z => ne_fam rfl rfl (by decide) z.1)).trans (show mG M 126 31 = nh1 from enh1)))]); (try rw [(show mG M6 126 34 = nh2 from ((st_ne hM6 (fun z => ne_fam rfl rfl (by decide) z.1)).trans (show mG M 126 34 = nh2 from enh2)))]); (try rw [(show mG M6 126 38 = nh3 from ((st_ne hM6 (fun z => ne_fam rfl rfl (by decide) z.1)).trans (show mG M 126 38 = nh3 from enh3)))]); all_goals omega) (by (try rw [(show mG M6 126 29 = nh0 from ((st_ne hM6 (fun z => ne_fam rfl rfl (by decide) z.1)).trans (show mG M 126 29 = nh0 from enh0)))]); (try rw [(show mG M6 126 31 = nh1 from ((st_ne hM6 (fun z => ne_fam rfl rfl (by decide) z.1)).trans (show mG M 126 31 = nh1 from enh1)))]); (try rw [(show mG M6 126 34 = nh2 from ((st_ne hM6 (fun z => ne_fam rfl rfl (by decide) z.1)).trans (show mG M 126 34 = nh2 from enh2)))]); (try rw [(show mG M6 126 38 = nh3 from ((st_ne hM6 (fun z => ne_fam rfl rfl (by decide) z.1)).trans (show mG M 126 38 = nh3 from enh3)))]); all_goals omega) (by (try rw [(show mG M6 126 29 = nh0 from ((st_ne hM6 (fun z => ne_fam rfl rfl (by decide) z.1)).trans (show mG M 126 29 = nh0 from enh0)))]); (try rw [(show mG M6 126 31 = nh1 from ((st_ne hM6 (fun z => ne_fam rfl rfl (by decide) z.1)).trans (show mG M 126 31 = nh1 from enh1)))]); (try rw [(show mG M6 126 34 = nh2 from ((st_ne hM6 (fun z => ne_fam rfl rfl (by decide) z.1)).trans (show mG M 126 34 = nh2 from enh2)))]); (try rw [(show mG M6 126 38 = nh3 from ((st_ne hM6 (fun z => ne_fam rfl rfl (by decide) z.1)).trans (show mG M 126 38 = nh3 from enh3)))]); all_goals omega) (by (try rw [(show mG M6 126 29 = nh0 from ((st_ne hM6 (fun z => ne_fam rfl rfl (by decide) z.1)).trans (show mG M 126 29 = nh0 from enh0)))]); (try rw [(show mG M6 126 31 = nh1 from ((st_ne hM6 (fun z => ne_fam rfl rfl (by decide) z.1)).trans (show mG M 126 31 = nh1 from enh1)))]); (try rw [(show mG M6 126 34 = nh2 from ((st_ne hM6 (fun z => ne_fam rfl rfl (by decide) z.1)).trans (show mG M 126 34 = nh2 from enh2)))]); (try rw [(show mG M6 126 38 = nh3 from ((st_ne hM6 (fun z => ne_fam rfl rfl (by decide) z.1)).trans (show mG M 126 38 = nh3 from enh3)))]); all_goals omega) iM6 kM6
  · skip
    refine w_gF (ji := 32) rfl (congrArg Prod.fst (kl_126 iM6)) (fun a18 ha18 => ?_)
    have ra18 : 0 ≤ a18 ∧ a18 ≤ 3 := ha18.tr (P := fun z => 0 ≤ z ∧ z ≤ 3) (rd_Model_32 iM6 rfl)
    refine w_if (fun c2_ => ?_) (fun c2_ => ?_)
    · skip
      refine w_gFc (ji := 44) rfl (congrArg Prod.fst (kl_126 iM6)) (show mG M6 126 44 = 159 from rd_Model_44 iM6 (a := 126) rfl) ?_
      refine w_gF (ji := 33) rfl (congrArg Prod.fst (kl_126 iM6)) (fun a41 ha41 => ?_)
      have ra41 : (-2147483648) ≤ a41 ∧ a41 ≤ 2147483647 := ha41.tr (P := fun z => (-2147483648) ≤ z ∧ z ≤ 2147483647) (rd_Model_33 iM6 rfl)
      refine w_aS (kl_159 iM6) (by omega) (by omega) (fun M44 hM44 => ?_)
      replace hM44 : M44 = mS M6 159 l1 a41 := hM44
      have iM44 : I n M44 := wr_MnewThree iM6 rfl ⟨by omega, by omega⟩ hM44
      have kM44 : Keep n W_X9_readBinder M M44 := kM6.st hM44 (Or.inl (Or.inr (Or.inl ⟨by decide, by decide⟩)))
      refine w_gK (congrArg Prod.fst (kl_126 iM44)) ?_
      have lbm46_29 : mG M44 126 29 = nh0 := (show mG M44 126 29 = nh0 from ((st_ne hM44 (fun z => ne_fam rfl rfl (by decide) z.1)).trans ((st_ne hM6 (fun z => ne_fam rfl rfl (by decide) z.1)).trans (show mG M 126 29 = nh0 from enh0))))
      have lbm46_31 : mG M44 126 31 = nh1 := (show mG M44 126 31 = nh1 from ((st_ne hM44 (fun z => ne_fam rfl rfl (by decide) z.1)).trans ((st_ne hM6 (fun z => ne_fam rfl rfl (by decide) z.1)).trans (show mG M 126 31 = nh1 from enh1))))
      have lbm46_34 : mG M44 126 34 = nh2 := (show mG M44 126 34 = nh2 from ((st_ne hM44 (fun z => ne_fam rfl rfl (by decide) z.1)).trans ((st_ne hM6 (fun z => ne_fam rfl rfl (by decide) z.1)).trans (show mG M 126 34 = nh2 from enh2))))
      refine w_call (s_X9_token iM44) ?_
      intro v46 m46 pp46
      obtain ⟨im46, kk46, e46_0, -⟩ := pp46
      try dsimp only
      replace im46 : I n m46 := im46
      replace kk46 : Keep n W_X9_token M44 m46 := kk46
      have km46 : Keep n W_X9_readBinder M m46 := kM44.tr kk46 (fun b j z => Or.elim z (fun z => (Or.inr (Or.inr (Or.inl z)))) (fun z => Or.elim z (fun z => (Or.inr (Or.inr (Or.inr (Or.inl z))))) (fun z => Or.elim z (fun z => (Or.inr (Or.inr (Or.inr (Or.inr (Or.inl z)))))) (fun z => Or.elim z (fun z => (Or.inr (Or.inr (Or.inr (Or.inr (Or.inr (Or.inl z))))))) (fun z => (Or.inr (Or.inr (Or.inr (Or.inr (Or.inr (Or.inr (Or.inl z))))))))))))
      replace e46_0 : mG M44 126 29 ≤ mG m46 126 31 ∧ mG m46 126 31 ≤ mG m46 126 29 ∧ (mG m46 126 34 = 0 ∨ mG m46 126 31 < mG m46 126 29) := e46_0
      obtain ⟨hv46_29, ehv46_29⟩ : ∃ v, Is (mG m46 126 29) v := ⟨_, rfl⟩
      have lhv46_29 : mG m46 126 29 = hv46_29 := ehv46_29
      have rhv46_29 : 0 ≤ hv46_29 ∧ hv46_29 ≤ 400 := by rw [← ehv46_29.e]; exact rd_Model_29 im46 rfl
      obtain ⟨hv46_31, ehv46_31⟩ : ∃ v, Is (mG m46 126 31) v := ⟨_, rfl⟩
      have lhv46_31 : mG m46 126 31 = hv46_31 := ehv46_31
      have rhv46_31 : 0 ≤ hv46_31 ∧ hv46_31 ≤ 400 := by rw [← ehv46_31.e]; exact rd_Model_31 im46 rfl
      obtain ⟨hv46_34, ehv46_34⟩ : ∃ v, Is (mG m46 126 34) v := ⟨_, rfl⟩
      have lhv46_34 : mG m46 126 34 = hv46_34 := ehv46_34
      skip
      exact s_X9_readBinder_49 ⟨by omega, by omega⟩ ⟨by omega, by omega⟩ (by (try rw [(show mG m46 126 29 = hv46_29 from (show mG m46 126 29 = hv46_29 from ehv46_29))]); (try rw [(show mG m46 126 31 = hv46_31 from (show mG m46 126 31 = hv46_31 from ehv46_31))]); (try rw [(show mG m46 126 34 = hv46_34 from (show mG m46 126 34 = hv46_34 from ehv46_34))]); (try rw [(show mG m46 126 38 = nh3 from ((kk46.2.2 126 38 (by omega) (fun z => by unfold W_X9_token at z; (try unfold isWS at z); (try unfold isShape at z); (try unfold isTold at z); (try dsimp only at z); omega)).trans ((st_ne hM44 (fun z => ne_fam rfl rfl (by decide) z.1)).trans ((st_ne hM6 (fun z => ne_fam rfl rfl (by decide) z.1)).trans (show mG M 126 38 = nh3 from enh3)))))]); all_goals omega) (by (try rw [(show mG m46 126 29 = hv46_29 from (show mG m46 126 29 = hv46_29 from ehv46_29))]); (try rw [(show mG m46 126 31 = hv46_31 from (show mG m46 126 31 = hv46_31 from ehv46_31))]); (try rw [(show mG m46 126 34 = hv46_34 from (show mG m46 126 34 = hv46_34 from ehv46_34))]); (try rw [(show mG m46 126 38 = nh3 from ((kk46.2.2 126 38 (by omega) (fun z => by unfold W_X9_token at z; (try unfold isWS at z); (try unfold isShape at z); (try unfold isTold at z); (try dsimp only at z); omega)).trans ((st_ne hM44 (fun z => ne_fam rfl rfl (by decide) z.1)).trans ((st_ne hM6 (fun z => ne_fam rfl rfl (by decide) z.1)).trans (show mG M 126 38 = nh3 from enh3)))))]); all_goals omega) (by (try rw [(show mG m46 126 29 = hv46_29 from (show mG m46 126 29 = hv46_29 from ehv46_29))]); (try rw [(show mG m46 126 31 = hv46_31 from (show mG m46 126 31 = hv46_31 from ehv46_31))]); (try rw [(show mG m46 126 34 = hv46_34 from (show mG m46 126 34 = hv46_34 from ehv46_34))]); (try rw [(show mG m46 126 38 = nh3 from ((kk46.2.2 126 38 (by omega) (fun z => by unfold W_X9_token at z; (try unfold isWS at z); (try unfold isShape at z); (try unfold isTold at z); (try dsimp only at z); omega)).trans ((st_ne hM44 (fun z => ne_fam rfl rfl (by decide) z.1)).trans ((st_ne hM6 (fun z => ne_fam rfl rfl (by decide) z.1)).trans (show mG M 126 38 = nh3 from enh3)))))]); all_goals omega) (by (try rw [(show mG m46 126 29 = hv46_29 from (show mG m46 126 29 = hv46_29 from ehv46_29))]); (try rw [(show mG m46 126 31 = hv46_31 from (show mG m46 126 31 = hv46_31 from ehv46_31))]); (try rw [(show mG m46 126 34 = hv46_34 from (show mG m46 126 34 = hv46_34 from ehv46_34))]); (try rw [(show mG m46 126 38 = nh3 from ((kk46.2.2 126 38 (by omega) (fun z => by unfold W_X9_token at z; (try unfold isWS at z); (try unfold isShape at z); (try unfold isTold at z); (try dsimp only at z); omega)).trans ((st_ne hM44 (fun z => ne_fam rfl rfl (by decide) z.1)).trans ((st_ne hM6 (fun z => ne_fam rfl rfl (by decide) z.1)).trans (show mG M 126 38 = nh3 from enh3)))))]); all_goals omega) im46 km46
    · skip
      refine w_gFc (ji := 31) rfl (congrArg Prod.fst (kl_126 iM6)) (show mG M6 126 31 = nh1 from ((st_ne hM6 (fun z => ne_fam rfl rfl (by decide) z.1)).trans (show mG M 126 31 = nh1 from enh1))) ?_
      refine w_pF (ji := 35) rfl (congrArg Prod.fst (kl_126 iM6)) (fun M30 hM30 => ?_)
      replace hM30 : M30 = mS M6 126 35 nh1 := hM30
      have iM30 : I n M30 := wr_Model_35 iM6 rfl ⟨by omega, by omega⟩ hM30
      have kM30 : Keep n W_X9_readBinder M M30 := kM6.st hM30 (Or.inl (Or.inr (Or.inr (Or.inr (Or.inr (Or.inr (Or.inr (Or.inr (Or.inl ⟨rfl, rfl⟩)))))))))
      exact w_ret ⟨iM30, kM30, (show 0 ≤ 0 ∧ 0 ≤ 1 from ⟨by omega, by omega⟩), (show mG M 126 31 ≤ mG M30 126 31 ∧ mG M30 126 31 ≤ mG M30 126 29 ∧ (mG M30 126 34 = 0 ∨ mG M30 126 31 < mG M30 126 29) from (by (try rw [(show mG M30 126 29 = nh0 from ((st_ne hM30 (fun z => absurd z.2 (by decide))).trans ((st_ne hM6 (fun z => ne_fam rfl rfl (by decide) z.1)).trans (show mG M 126 29 = nh0 from enh0))))]); (try rw [(show mG M30 126 31 = nh1 from ((st_ne hM30 (fun z => absurd z.2 (by decide))).trans ((st_ne hM6 (fun z => ne_fam rfl rfl (by decide) z.1)).trans (show mG M 126 31 = nh1 from enh1))))]); (try rw [(show mG M30 126 34 = nh2 from ((st_ne hM30 (fun z => absurd z.2 (by decide))).trans ((st_ne hM6 (fun z => ne_fam rfl rfl (by decide) z.1)).trans (show mG M 126 34 = nh2 from enh2))))]); all_goals omega)), (show mG M30 126 38 ≤ mG M 126 38 + 1 from (by (try rw [(show mG M30 126 38 = nh3 from ((st_ne hM30 (fun z => absurd z.2 (by decide))).trans ((st_ne hM6 (fun z => ne_fam rfl rfl (by decide) z.1)).trans (show mG M 126 38 = nh3 from enh3))))]); all_goals omega)), trivial⟩
def W_X9_readPart (b j : Int) : Prop := (155 ≤ b ∧ b ≤ 159) ∨ (b = 126 ∧ j = 29) ∨ (b = 126 ∧ j = 31) ∨ (b = 126 ∧ j = 32) ∨ (b = 126 ∧ j = 33) ∨ (b = 126 ∧ j = 34) ∨ (b = 126 ∧ j = 35) ∨ (b = 126 ∧ j = 36) ∨ (b = 126 ∧ j = 37) ∨ (b = 126 ∧ j = 38) ∨ (b = 126 ∧ j = 40)
theorem s_X9_readPart_102 {n : Nat} {Me : Mem} {l1 l2 : Int} {M : Mem} (r_l1 : (-2147483648) ≤ l1 ∧ l1 ≤ 2147483647) (r_l2 : 0 ≤ l2 ∧ l2 ≤ 40) (y0 : mG M 126 29 = mG M 126 29) (y1 : mG M 126 31 ≤ mG M 126 29 ∧ mG Me 126 31 ≤ mG M 126 31) (y2 : ¬ mG M 126 34 = 0 ∧ (mG M 126 34 = 0 ∨ mG M 126 31 < mG M 126 29)) (y3 : mG M 126 38 = mG Me 126 38 ∧ mG M 126 38 ≤ 418) (y4 : mG M 126 40 = mG Me 126 40 + 1) (iM : I n M) (kM : Keep n W_X9_readPart Me M) : wp (mX9_readPart_102 126 l1 l2 M) (fun q => I n q.2 ∧ Keep n W_X9_readPart Me q.2 ∧ (0 ≤ q.1 ∧ q.1 ≤ 1) ∧ (mG Me 126 31 ≤ mG q.2 126 31 ∧ mG q.2 126 31 ≤ mG q.2 126 29 ∧ (mG q.2 126 34 = 0 ∨ mG q.2 126 31 < mG q.2 126 29)) ∧ (q.1 = 1 → mG Me 126 31 < mG q.2 126 31) ∧ (mG q.2 126 38 ≤ mG Me 126 38 + 2) ∧ (mG q.2 126 40 = mG Me 126 40 + 1) ∧ True) := by
  have hn : (169 : Int) ≤ (n : Int) := by have := iM.2.2.2.2.1; omega
  obtain ⟨nh0, enh0⟩ : ∃ v, Is (mG M 126 29) v := ⟨_, rfl⟩
  have rnh0 : 0 ≤ nh0 ∧ nh0 ≤ 400 := by rw [← enh0.e]; exact rd_Model_29 iM rfl
  have qnh0 : mG M 126 29 = nh0 := enh0
  (try rw [enh0.e] at y0); (try rw [enh0.e] at y1); (try rw [enh0.e] at y2); (try rw [enh0.e] at y3); (try rw [enh0.e] at y4)
  obtain ⟨nh1, enh1⟩ : ∃ v, Is (mG M 126 31) v := ⟨_, rfl⟩
  have rnh1 : 0 ≤ nh1 ∧ nh1 ≤ 400 := by rw [← enh1.e]; exact rd_Model_31 iM rfl
  have qnh1 : mG M 126 31 = nh1 := enh1
  (try rw [enh1.e] at y0); (try rw [enh1.e] at y1); (try rw [enh1.e] at y2); (try rw [enh1.e] at y3); (try rw [enh1.e] at y4)
  obtain ⟨nh2, enh2⟩ : ∃ v, Is (mG M 126 34) v := ⟨_, rfl⟩
  have qnh2 : mG M 126 34 = nh2 := enh2
  (try rw [enh2.e] at y0); (try rw [enh2.e] at y1); (try rw [enh2.e] at y2); (try rw [enh2.e] at y3); (try rw [enh2.e] at y4)
  obtain ⟨nh3, enh3⟩ : ∃ v, Is (mG M 126 38) v := ⟨_, rfl⟩
  have rnh3 : 0 ≤ nh3 ∧ nh3 ≤ 420 := by rw [← enh3.e]; exact rd_Model_38 iM rfl
  have qnh3 : mG M 126 38 = nh3 := enh3
  (try rw [enh3.e] at y0); (try rw [enh3.e] at y1); (try rw [enh3.e] at y2); (try rw [enh3.e] at y3); (try rw [enh3.e] at y4)
  obtain ⟨nh4, enh4⟩ : ∃ v, Is (mG M 126 40) v := ⟨_, rfl⟩
  have rnh4 : 0 ≤ nh4 ∧ nh4 ≤ 402 := by rw [← enh4.e]; exact rd_Model_40 iM rfl
  have qnh4 : mG M 126 40 = nh4 := enh4
  (try rw [enh4.e] at y0); (try rw [enh4.e] at y1); (try rw [enh4.e] at y2); (try rw [enh4.e] at y3); (try rw [enh4.e] at y4)
  unfold mX9_readPart_102
  refine w_gK (congrArg Prod.fst (kl_126 iM)) ?_
  have lbm103_29 : mG M 126 29 = nh0 := (show mG M 126 29 = nh0 from (show mG M 126 29 = nh0 from enh0))
  have lbm103_31 : mG M 126 31 = nh1 := (show mG M 126 31 = nh1 from (show mG M 126 31 = nh1 from enh1))
  have lbm103_34 : mG M 126 34 = nh2 := (show mG M 126 34 = nh2 from (show mG M 126 34 = nh2 from enh2))
  refine w_call (s_X9_token iM) ?_
  intro v103 m103 pp103
  obtain ⟨im103, kk103, e103_0, -⟩ := pp103
  try dsimp only
  replace im103 : I n m103 := im103
  replace kk103 : Keep n W_X9_token M m103 := kk103
  have km103 : Keep n W_X9_readPart Me m103 := kM.tr kk103 (fun b j z => Or.elim z (fun z => (Or.inr (Or.inl z))) (fun z => Or.elim z (fun z => (Or.inr (Or.inr (Or.inl z)))) (fun z => Or.elim z (fun z => (Or.inr (Or.inr (Or.inr (Or.inl z))))) (fun z => Or.elim z (fun z => (Or.inr (Or.inr (Or.inr (Or.inr (Or.inl z)))))) (fun z => (Or.inr (Or.inr (Or.inr (Or.inr (Or.inr (Or.inl z)))))))))))
  replace e103_0 : mG M 126 29 ≤ mG m103 126 31 ∧ mG m103 126 31 ≤ mG m103 126 29 ∧ (mG m103 126 34 = 0 ∨ mG m103 126 31 < mG m103 126 29) := e103_0
  obtain ⟨hv103_29, ehv103_29⟩ : ∃ v, Is (mG m103 126 29) v := ⟨_, rfl⟩
  have lhv103_29 : mG m103 126 29 = hv103_29 := ehv103_29
  have rhv103_29 : 0 ≤ hv103_29 ∧ hv103_29 ≤ 400 := by rw [← ehv103_29.e]; exact rd_Model_29 im103 rfl
  obtain ⟨hv103_31, ehv103_31⟩ : ∃ v, Is (mG m103 126 31) v := ⟨_, rfl⟩
  have lhv103_31 : mG m103 126 31 = hv103_31 := ehv103_31
  have rhv103_31 : 0 ≤ hv103_31 ∧ hv103_31 ≤ 400 := by rw [← ehv103_31.e]; exact rd_Model_31 im103 rfl
  obtain ⟨hv103_34, ehv103_34⟩ : ∃ v, Is (mG m103 126 34) v := ⟨_, rfl⟩
  have lhv103_34 : mG m103 126 34 = hv103_34 := ehv103_34
  skip
  refine w_gFc (ji := 41) rfl (congrArg Prod.fst (kl_126 im103)) (show mG m103 126 41 = 156 from rd_Model_41 im103 (a := 126) rfl) ?_
  refine w_aG (kl_156 im103) (by omega) (by omega) (fun a111 ha111 => ?_)
  have ra111 : (-1) ≤ a111 ∧ a111 ≤ 12 := ha111.tr (P := fun z => (-1) ≤ z ∧ z ≤ 12) (rd_MnewAct im103 rfl)
  refine w_if (fun c1_ => ?_) (fun c1_ => ?_)
  · skip
    refine w_gFc (ji := 41) rfl (congrArg Prod.fst (kl_126 im103)) (show mG m103 126 41 = 156 from rd_Model_41 im103 (a := 126) rfl) ?_
    refine w_aGc (kl_156 im103) (by omega) (by omega) (show mG m103 156 l2 = a111 from (show mG m103 156 l2 = a111 from ha111)) ?_
    refine w_if (fun c2_ => ?_) (fun c2_ => ?_)
    · skip
      refine w_gK (congrArg Prod.fst (kl_126 im103)) ?_
      have lbm137_29 : mG m103 126 29 = hv103_29 := (show mG m103 126 29 = hv103_29 from (show mG m103 126 29 = hv103_29 from ehv103_29))
      have lbm137_31 : mG m103 126 31 = hv103_31 := (show mG m103 126 31 = hv103_31 from (show mG m103 126 31 = hv103_31 from ehv103_31))
      have lbm137_34 : mG m103 126 34 = hv103_34 := (show mG m103 126 34 = hv103_34 from (show mG m103 126 34 = hv103_34 from ehv103_34))
      refine w_call (s_X9_readSame ⟨by omega, by omega⟩ ⟨by omega, by omega⟩ (by (try rw [(show mG m103 126 29 = hv103_29 from (show mG m103 126 29 = hv103_29 from ehv103_29))]); (try rw [(show mG m103 126 31 = hv103_31 from (show mG m103 126 31 = hv103_31 from ehv103_31))]); (try rw [(show mG m103 126 34 = hv103_34 from (show mG m103 126 34 = hv103_34 from ehv103_34))]); all_goals omega) (by (try rw [(show mG m103 126 29 = hv103_29 from (show mG m103 126 29 = hv103_29 from ehv103_29))]); (try rw [(show mG m103 126 31 = hv103_31 from (show mG m103 126 31 = hv103_31 from ehv103_31))]); (try rw [(show mG m103 126 34 = hv103_34 from (show mG m103 126 34 = hv103_34 from ehv103_34))]); all_goals omega) (by (try rw [(show mG m103 126 29 = hv103_29 from (show mG m103 126 29 = hv103_29 from ehv103_29))]); (try rw [(show mG m103 126 31 = hv103_31 from (show mG m103 126 31 = hv103_31 from ehv103_31))]); (try rw [(show mG m103 126 34 = hv103_34 from (show mG m103 126 34 = hv103_34 from ehv103_34))]); all_goals omega) im103) ?_
      intro v137 m137 pp137
      obtain ⟨im137, kk137, e137_0, e137_1, -⟩ := pp137
      try dsimp only
      replace im137 : I n m137 := im137
      replace kk137 : Keep n W_X9_readSame m103 m137 := kk137
      have km137 : Keep n W_X9_readPart Me m137 := km103.tr kk137 (fun b j z => Or.elim z (fun z => (Or.inl ⟨by omega, by omega⟩)) (fun z => Or.elim z (fun z => (Or.inr (Or.inl z))) (fun z => Or.elim z (fun z => (Or.inr (Or.inr (Or.inl z)))) (fun z => Or.elim z (fun z => (Or.inr (Or.inr (Or.inr (Or.inl z))))) (fun z => Or.elim z (fun z => (Or.inr (Or.inr (Or.inr (Or.inr (Or.inl z)))))) (fun z => Or.elim z (fun z => (Or.inr (Or.inr (Or.inr (Or.inr (Or.inr (Or.inl z))))))) (fun z => Or.elim z (fun z => (Or.inr (Or.inr (Or.inr (Or.inr (Or.inr (Or.inr (Or.inl z)))))))) (fun z => Or.elim z (fun z => (Or.inr (Or.inr (Or.inr (Or.inr (Or.inr (Or.inr (Or.inr (Or.inl z))))))))) (fun z => (Or.inr (Or.inr (Or.inr (Or.inr (Or.inr (Or.inr (Or.inr (Or.inr (Or.inl z))))))))))))))))))
      replace e137_0 : 0 ≤ v137 ∧ v137 ≤ 1 := e137_0
      replace e137_1 : mG m103 126 31 ≤ mG m137 126 31 ∧ mG m137 126 31 ≤ mG m137 126 29 ∧ (mG m137 126 34 = 0 ∨ mG m137 126 31 < mG m137 126 29) := e137_1
      obtain ⟨hv137_29, ehv137_29⟩ : ∃ v, Is (mG m137 126 29) v := ⟨_, rfl⟩
      have lhv137_29 : mG m137 126 29 = hv137_29 := ehv137_29
      have rhv137_29 : 0 ≤ hv137_29 ∧ hv137_29 ≤ 400 := by rw [← ehv137_29.e]; exact rd_Model_29 im137 rfl
      obtain ⟨hv137_31, ehv137_31⟩ : ∃ v, Is (mG m137 126 31) v := ⟨_, rfl⟩
      have lhv137_31 : mG m137 126 31 = hv137_31 := ehv137_31
      have rhv137_31 : 0 ≤ hv137_31 ∧ hv137_31 ≤ 400 := by rw [← ehv137_31.e]; exact rd_Model_31 im137 rfl
      obtain ⟨hv137_34, ehv137_34⟩ : ∃ v, Is (mG m137 126 34) v := ⟨_, rfl⟩
      have lhv137_34 : mG m137 126 34 = hv137_34 := ehv137_34
      skip
      refine w_zR (by omega) (fun z hz => ?_)
      exact w_ret ⟨im137, km137, (show 0 ≤ z ∧ z ≤ 1 from ⟨by omega, by omega⟩), (show mG Me 126 31 ≤ mG m137 126 31 ∧ mG m137 126 31 ≤ mG m137 126 29 ∧ (mG m137 126 34 = 0 ∨ mG m137 126 31 < mG m137 126 29) from (by (try rw [(show mG m137 126 29 = hv137_29 from (show mG m137 126 29 = hv137_29 from ehv137_29))]); (try rw [(show mG m137 126 31 = hv137_31 from (show mG m137 126 31 = hv137_31 from ehv137_31))]); (try rw [(show mG m137 126 34 = hv137_34 from (show mG m137 126 34 = hv137_34 from ehv137_34))]); all_goals omega)), (show z = 1 → mG Me 126 31 < mG m137 126 31 from (fun z => (by (try rw [(show mG m137 126 29 = hv137_29 from (show mG m137 126 29 = hv137_29 from ehv137_29))]); (try rw [(show mG m137 126 31 = hv137_31 from (show mG m137 126 31 = hv137_31 from ehv137_31))]); (try rw [(show mG m137 126 34 = hv137_34 from (show mG m137 126 34 = hv137_34 from ehv137_34))]); all_goals omega))), (show mG m137 126 38 ≤ mG Me 126 38 + 2 from (by (try rw [(show mG m137 126 38 = nh3 from ((kk137.2.2 126 38 (by omega) (fun z => by unfold W_X9_readSame at z; (try unfold isWS at z); (try unfold isShape at z); (try unfold isTold at z); (try dsimp only at z); omega)).trans ((kk103.2.2 126 38 (by omega) (fun z => by unfold W_X9_token at z; (try unfold isWS at z); (try unfold isShape at z); (try unfold isTold at z); (try dsimp only at z); omega)).trans (show mG M 126 38 = nh3 from enh3))))]); all_goals omega)), (show mG m137 126 40 = mG Me 126 40 + 1 from (by (try rw [(show mG m137 126 40 = nh4 from ((kk137.2.2 126 40 (by omega) (fun z => by unfold W_X9_readSame at z; (try unfold isWS at z); (try unfold isShape at z); (try unfold isTold at z); (try dsimp only at z); omega)).trans ((kk103.2.2 126 40 (by omega) (fun z => by unfold W_X9_token at z; (try unfold isWS at z); (try unfold isShape at z); (try unfold isTold at z); (try dsimp only at z); omega)).trans (show mG M 126 40 = nh4 from enh4))))]); all_goals omega)), trivial⟩
    · skip
      refine w_gFc (ji := 41) rfl (congrArg Prod.fst (kl_126 im103)) (show mG m103 126 41 = 156 from rd_Model_41 im103 (a := 126) rfl) ?_
      refine w_aGc (kl_156 im103) (by omega) (by omega) (show mG m103 156 l2 = a111 from (show mG m103 156 l2 = a111 from ha111)) ?_
      refine w_if (fun c3_ => ?_) (fun c3_ => ?_)
      · skip
        refine w_gK (congrArg Prod.fst (kl_126 im103)) ?_
        have lbm161_38 : mG m103 126 38 = nh3 := (show mG m103 126 38 = nh3 from ((kk103.2.2 126 38 (by omega) (fun z => by unfold W_X9_token at z; (try unfold isWS at z); (try unfold isShape at z); (try unfold isTold at z); (try dsimp only at z); omega)).trans (show mG M 126 38 = nh3 from enh3)))
        refine w_call (s_X9_wait ⟨by omega, by omega⟩ (by (try rw [(show mG m103 126 38 = nh3 from ((kk103.2.2 126 38 (by omega) (fun z => by unfold W_X9_token at z; (try unfold isWS at z); (try unfold isShape at z); (try unfold isTold at z); (try dsimp only at z); omega)).trans (show mG M 126 38 = nh3 from enh3)))]); all_goals omega) im103) ?_
        intro v161 m161 pp161
        obtain ⟨im161, kk161, e161_0, -⟩ := pp161
        try dsimp only
        replace im161 : I n m161 := im161
        replace kk161 : Keep n W_X9_wait m103 m161 := kk161
        have km161 : Keep n W_X9_readPart Me m161 := km103.tr kk161 (fun b j z => Or.elim z (fun z => (Or.inl ⟨by omega, by omega⟩)) (fun z => (Or.inr (Or.inr (Or.inr (Or.inr (Or.inr (Or.inr (Or.inr (Or.inr (Or.inr (Or.inl z))))))))))))
        replace e161_0 : mG m161 126 38 = mG m103 126 38 + 1 := e161_0
        obtain ⟨hv161_38, ehv161_38⟩ : ∃ v, Is (mG m161 126 38) v := ⟨_, rfl⟩
        have lhv161_38 : mG m161 126 38 = hv161_38 := ehv161_38
        have rhv161_38 : 0 ≤ hv161_38 ∧ hv161_38 ≤ 420 := by rw [← ehv161_38.e]; exact rd_Model_38 im161 rfl
        refine w_gFc (ji := 41) rfl (congrArg Prod.fst (kl_126 im161)) (show mG m161 126 41 = 156 from rd_Model_41 im161 (a := 126) rfl) ?_
        refine w_aGc (kl_156 im161) (by omega) (by omega) (show mG m161 156 l2 = a111 from ((kk161.2.2 156 l2 (by omega) (fun z => by unfold W_X9_wait at z; (try unfold isWS at z); (try unfold isShape at z); (try unfold isTold at z); (try dsimp only at z); omega)).trans (show mG m103 156 l2 = a111 from ha111))) ?_
        refine w_if (fun c4_ => ?_) (fun c4_ => ?_)
        · skip
          exact w_ret ⟨im161, km161, (show 0 ≤ 1 ∧ 1 ≤ 1 from ⟨by omega, by omega⟩), (show mG Me 126 31 ≤ mG m161 126 31 ∧ mG m161 126 31 ≤ mG m161 126 29 ∧ (mG m161 126 34 = 0 ∨ mG m161 126 31 < mG m161 126 29) from (by (try rw [(show mG m161 126 29 = hv103_29 from ((kk161.2.2 126 29 (by omega) (fun z => by unfold W_X9_wait at z; (try unfold isWS at z); (try unfold isShape at z); (try unfold isTold at z); (try dsimp only at z); omega)).trans (show mG m103 126 29 = hv103_29 from ehv103_29)))]); (try rw [(show mG m161 126 31 = hv103_31 from ((kk161.2.2 126 31 (by omega) (fun z => by unfold W_X9_wait at z; (try unfold isWS at z); (try unfold isShape at z); (try unfold isTold at z); (try dsimp only at z); omega)).trans (show mG m103 126 31 = hv103_31 from ehv103_31)))]); (try rw [(show mG m161 126 34 = hv103_34 from ((kk161.2.2 126 34 (by omega) (fun z => by unfold W_X9_wait at z; (try unfold isWS at z); (try unfold isShape at z); (try unfold isTold at z); (try dsimp only at z); omega)).trans (show mG m103 126 34 = hv103_34 from ehv103_34)))]); all_goals omega)), (show 1 = 1 → mG Me 126 31 < mG m161 126 31 from (fun z => (by (try rw [(show mG m161 126 29 = hv103_29 from ((kk161.2.2 126 29 (by omega) (fun z => by unfold W_X9_wait at z; (try unfold isWS at z); (try unfold isShape at z); (try unfold isTold at z); (try dsimp only at z); omega)).trans (show mG m103 126 29 = hv103_29 from ehv103_29)))]); (try rw [(show mG m161 126 31 = hv103_31 from ((kk161.2.2 126 31 (by omega) (fun z => by unfold W_X9_wait at z; (try unfold isWS at z); (try unfold isShape at z); (try unfold isTold at z); (try dsimp only at z); omega)).trans (show mG m103 126 31 = hv103_31 from ehv103_31)))]); (try rw [(show mG m161 126 34 = hv103_34 from ((kk161.2.2 126 34 (by omega) (fun z => by unfold W_X9_wait at z; (try unfold isWS at z); (try unfold isShape at z); (try unfold isTold at z); (try dsimp only at z); omega)).trans (show mG m103 126 34 = hv103_34 from ehv103_34)))]); all_goals omega))), (show mG m161 126 38 ≤ mG Me 126 38 + 2 from (by (try rw [(show mG m161 126 38 = hv161_38 from (show mG m161 126 38 = hv161_38 from ehv161_38))]); all_goals omega)), (show mG m161 126 40 = mG Me 126 40 + 1 from (by (try rw [(show mG m161 126 40 = nh4 from ((kk161.2.2 126 40 (by omega) (fun z => by unfold W_X9_wait at z; (try unfold isWS at z); (try unfold isShape at z); (try unfold isTold at z); (try dsimp only at z); omega)).trans ((kk103.2.2 126 40 (by omega) (fun z => by unfold W_X9_token at z; (try unfold isWS at z); (try unfold isShape at z); (try unfold isTold at z); (try dsimp only at z); omega)).trans (show mG M 126 40 = nh4 from enh4))))]); all_goals omega)), trivial⟩
        · skip
          refine w_gK (congrArg Prod.fst (kl_126 im161)) ?_
          have lbm176_38 : mG m161 126 38 = hv161_38 := (show mG m161 126 38 = hv161_38 from (show mG m161 126 38 = hv161_38 from ehv161_38))
          refine w_call (s_X9_wait ⟨by omega, by omega⟩ (by (try rw [(show mG m161 126 38 = hv161_38 from (show mG m161 126 38 = hv161_38 from ehv161_38))]); all_goals omega) im161) ?_
          intro v176 m176 pp176
          obtain ⟨im176, kk176, e176_0, -⟩ := pp176
          try dsimp only
          replace im176 : I n m176 := im176
          replace kk176 : Keep n W_X9_wait m161 m176 := kk176
          have km176 : Keep n W_X9_readPart Me m176 := km161.tr kk176 (fun b j z => Or.elim z (fun z => (Or.inl ⟨by omega, by omega⟩)) (fun z => (Or.inr (Or.inr (Or.inr (Or.inr (Or.inr (Or.inr (Or.inr (Or.inr (Or.inr (Or.inl z))))))))))))
          replace e176_0 : mG m176 126 38 = mG m161 126 38 + 1 := e176_0
          obtain ⟨hv176_38, ehv176_38⟩ : ∃ v, Is (mG m176 126 38) v := ⟨_, rfl⟩
          have lhv176_38 : mG m176 126 38 = hv176_38 := ehv176_38
          have rhv176_38 : 0 ≤ hv176_38 ∧ hv176_38 ≤ 420 := by rw [← ehv176_38.e]; exact rd_Model_38 im176 rfl
          exact w_ret ⟨im176, km176, (show 0 ≤ 1 ∧ 1 ≤ 1 from ⟨by omega, by omega⟩), (show mG Me 126 31 ≤ mG m176 126 31 ∧ mG m176 126 31 ≤ mG m176 126 29 ∧ (mG m176 126 34 = 0 ∨ mG m176 126 31 < mG m176 126 29) from (by (try rw [(show mG m176 126 29 = hv103_29 from ((kk176.2.2 126 29 (by omega) (fun z => by unfold W_X9_wait at z; (try unfold isWS at z); (try unfold isShape at z); (try unfold isTold at z); (try dsimp only at z); omega)).trans ((kk161.2.2 126 29 (by omega) (fun z => by unfold W_X9_wait at z; (try unfold isWS at z); (try unfold isShape at z); (try unfold isTold at z); (try dsimp only at z); omega)).trans (show mG m103 126 29 = hv103_29 from ehv103_29))))]); (try rw [(show mG m176 126 31 = hv103_31 from ((kk176.2.2 126 31 (by omega) (fun z => by unfold W_X9_wait at z; (try unfold isWS at z); (try unfold isShape at z); (try unfold isTold at z); (try dsimp only at z); omega)).trans ((kk161.2.2 126 31 (by omega) (fun z => by unfold W_X9_wait at z; (try unfold isWS at z); (try unfold isShape at z); (try unfold isTold at z); (try dsimp only at z); omega)).trans (show mG m103 126 31 = hv103_31 from ehv103_31))))]); (try rw [(show mG m176 126 34 = hv103_34 from ((kk176.2.2 126 34 (by omega) (fun z => by unfold W_X9_wait at z; (try unfold isWS at z); (try unfold isShape at z); (try unfold isTold at z); (try dsimp only at z); omega)).trans ((kk161.2.2 126 34 (by omega) (fun z => by unfold W_X9_wait at z; (try unfold isWS at z); (try unfold isShape at z); (try unfold isTold at z); (try dsimp only at z); omega)).trans (show mG m103 126 34 = hv103_34 from ehv103_34))))]); all_goals omega)), (show 1 = 1 → mG Me 126 31 < mG m176 126 31 from (fun z => (by (try rw [(show mG m176 126 29 = hv103_29 from ((kk176.2.2 126 29 (by omega) (fun z => by unfold W_X9_wait at z; (try unfold isWS at z); (try unfold isShape at z); (try unfold isTold at z); (try dsimp only at z); omega)).trans ((kk161.2.2 126 29 (by omega) (fun z => by unfold W_X9_wait at z; (try unfold isWS at z); (try unfold isShape at z); (try unfold isTold at z); (try dsimp only at z); omega)).trans (show mG m103 126 29 = hv103_29 from ehv103_29))))]); (try rw [(show mG m176 126 31 = hv103_31 from ((kk176.2.2 126 31 (by omega) (fun z => by unfold W_X9_wait at z; (try unfold isWS at z); (try unfold isShape at z); (try unfold isTold at z); (try dsimp only at z); omega)).trans ((kk161.2.2 126 31 (by omega) (fun z => by unfold W_X9_wait at z; (try unfold isWS at z); (try unfold isShape at z); (try unfold isTold at z); (try dsimp only at z); omega)).trans (show mG m103 126 31 = hv103_31 from ehv103_31))))]); (try rw [(show mG m176 126 34 = hv103_34 from ((kk176.2.2 126 34 (by omega) (fun z => by unfold W_X9_wait at z; (try unfold isWS at z); (try unfold isShape at z); (try unfold isTold at z); (try dsimp only at z); omega)).trans ((kk161.2.2 126 34 (by omega) (fun z => by unfold W_X9_wait at z; (try unfold isWS at z); (try unfold isShape at z); (try unfold isTold at z); (try dsimp only at z); omega)).trans (show mG m103 126 34 = hv103_34 from ehv103_34))))]); all_goals omega))), (show mG m176 126 38 ≤ mG Me 126 38 + 2 from (by (try rw [(show mG m176 126 38 = hv176_38 from (show mG m176 126 38 = hv176_38 from ehv176_38))]); all_goals omega)), (show mG m176 126 40 = mG Me 126 40 + 1 from (by (try rw [(show mG m176 126 40 = nh4 from ((kk176.2.2 126 40 (by omega) (fun z => by unfold W_X9_wait at z; (try unfold isWS at z); (try unfold isShape at z); (try unfold isTold at z); (try dsimp only at z); omega)).trans ((kk161.2.2 126 40 (by omega) (fun z => by unfold W_X9_wait at z; (try unfold isWS at z); (try unfold isShape at z); (try unfold isTold at z); (try dsimp only at z); omega)).trans ((kk103.2.2 126 40 (by omega) (fun z => by unfold W_X9_token at z; (try unfold isWS at z); (try unfold isShape at z); (try unfold isTold at z); (try dsimp only at z); omega)).trans (show mG M 126 40 = nh4 from enh4)))))]); all_goals omega)), trivial⟩
      · skip
        refine w_gK (congrArg Prod.fst (kl_126 im103)) ?_
        have lbm155_29 : mG m103 126 29 = hv103_29 := (show mG m103 126 29 = hv103_29 from (show mG m103 126 29 = hv103_29 from ehv103_29))
        have lbm155_31 : mG m103 126 31 = hv103_31 := (show mG m103 126 31 = hv103_31 from (show mG m103 126 31 = hv103_31 from ehv103_31))
        have lbm155_34 : mG m103 126 34 = hv103_34 := (show mG m103 126 34 = hv103_34 from (show mG m103 126 34 = hv103_34 from ehv103_34))
        refine w_call (s_X9_readRelation ⟨by omega, by omega⟩ ⟨by omega, by omega⟩ (by (try rw [(show mG m103 126 29 = hv103_29 from (show mG m103 126 29 = hv103_29 from ehv103_29))]); (try rw [(show mG m103 126 31 = hv103_31 from (show mG m103 126 31 = hv103_31 from ehv103_31))]); (try rw [(show mG m103 126 34 = hv103_34 from (show mG m103 126 34 = hv103_34 from ehv103_34))]); all_goals omega) (by (try rw [(show mG m103 126 29 = hv103_29 from (show mG m103 126 29 = hv103_29 from ehv103_29))]); (try rw [(show mG m103 126 31 = hv103_31 from (show mG m103 126 31 = hv103_31 from ehv103_31))]); (try rw [(show mG m103 126 34 = hv103_34 from (show mG m103 126 34 = hv103_34 from ehv103_34))]); all_goals omega) (by (try rw [(show mG m103 126 29 = hv103_29 from (show mG m103 126 29 = hv103_29 from ehv103_29))]); (try rw [(show mG m103 126 31 = hv103_31 from (show mG m103 126 31 = hv103_31 from ehv103_31))]); (try rw [(show mG m103 126 34 = hv103_34 from (show mG m103 126 34 = hv103_34 from ehv103_34))]); all_goals omega) im103) ?_
        intro v155 m155 pp155
        obtain ⟨im155, kk155, e155_0, e155_1, e155_2, -⟩ := pp155
        try dsimp only
        replace im155 : I n m155 := im155
        replace kk155 : Keep n W_X9_readRelation m103 m155 := kk155
        have km155 : Keep n W_X9_readPart Me m155 := km103.tr kk155 (fun b j z => Or.elim z (fun z => (Or.inl ⟨by omega, by omega⟩)) (fun z => Or.elim z (fun z => (Or.inr (Or.inl z))) (fun z => Or.elim z (fun z => (Or.inr (Or.inr (Or.inl z)))) (fun z => Or.elim z (fun z => (Or.inr (Or.inr (Or.inr (Or.inl z))))) (fun z => Or.elim z (fun z => (Or.inr (Or.inr (Or.inr (Or.inr (Or.inl z)))))) (fun z => Or.elim z (fun z => (Or.inr (Or.inr (Or.inr (Or.inr (Or.inr (Or.inl z))))))) (fun z => Or.elim z (fun z => (Or.inr (Or.inr (Or.inr (Or.inr (Or.inr (Or.inr (Or.inl z)))))))) (fun z => Or.elim z (fun z => (Or.inr (Or.inr (Or.inr (Or.inr (Or.inr (Or.inr (Or.inr (Or.inl z))))))))) (fun z => (Or.inr (Or.inr (Or.inr (Or.inr (Or.inr (Or.inr (Or.inr (Or.inr (Or.inl z))))))))))))))))))
        replace e155_0 : 0 ≤ v155 ∧ v155 ≤ 1 := e155_0
        replace e155_1 : mG m103 126 31 ≤ mG m155 126 31 ∧ mG m155 126 31 ≤ mG m155 126 29 ∧ (mG m155 126 34 = 0 ∨ mG m155 126 31 < mG m155 126 29) := e155_1
        replace e155_2 : v155 = 1 → mG m103 126 31 < mG m155 126 31 := e155_2
        obtain ⟨hv155_29, ehv155_29⟩ : ∃ v, Is (mG m155 126 29) v := ⟨_, rfl⟩
        have lhv155_29 : mG m155 126 29 = hv155_29 := ehv155_29
        have rhv155_29 : 0 ≤ hv155_29 ∧ hv155_29 ≤ 400 := by rw [← ehv155_29.e]; exact rd_Model_29 im155 rfl
        obtain ⟨hv155_31, ehv155_31⟩ : ∃ v, Is (mG m155 126 31) v := ⟨_, rfl⟩
        have lhv155_31 : mG m155 126 31 = hv155_31 := ehv155_31
        have rhv155_31 : 0 ≤ hv155_31 ∧ hv155_31 ≤ 400 := by rw [← ehv155_31.e]; exact rd_Model_31 im155 rfl
        obtain ⟨hv155_34, ehv155_34⟩ : ∃ v, Is (mG m155 126 34) v := ⟨_, rfl⟩
        have lhv155_34 : mG m155 126 34 = hv155_34 := ehv155_34
        skip
        refine w_zR (by omega) (fun z hz => ?_)
        exact w_ret ⟨im155, km155, (show 0 ≤ z ∧ z ≤ 1 from ⟨by omega, by omega⟩), (show mG Me 126 31 ≤ mG m155 126 31 ∧ mG m155 126 31 ≤ mG m155 126 29 ∧ (mG m155 126 34 = 0 ∨ mG m155 126 31 < mG m155 126 29) from (by (try rw [(show mG m155 126 29 = hv155_29 from (show mG m155 126 29 = hv155_29 from ehv155_29))]); (try rw [(show mG m155 126 31 = hv155_31 from (show mG m155 126 31 = hv155_31 from ehv155_31))]); (try rw [(show mG m155 126 34 = hv155_34 from (show mG m155 126 34 = hv155_34 from ehv155_34))]); all_goals omega)), (show z = 1 → mG Me 126 31 < mG m155 126 31 from (fun z => (by (try rw [(show mG m155 126 29 = hv155_29 from (show mG m155 126 29 = hv155_29 from ehv155_29))]); (try rw [(show mG m155 126 31 = hv155_31 from (show mG m155 126 31 = hv155_31 from ehv155_31))]); (try rw [(show mG m155 126 34 = hv155_34 from (show mG m155 126 34 = hv155_34 from ehv155_34))]); all_goals omega))), (show mG m155 126 38 ≤ mG Me 126 38 + 2 from (by (try rw [(show mG m155 126 38 = nh3 from ((kk155.2.2 126 38 (by omega) (fun z => by unfold W_X9_readRelation at z; (try unfold isWS at z); (try unfold isShape at z); (try unfold isTold at z); (try dsimp only at z); omega)).trans ((kk103.2.2 126 38 (by omega) (fun z => by unfold W_X9_token at z; (try unfold isWS at z); (try unfold isShape at z); (try unfold isTold at z); (try dsimp only at z); omega)).trans (show mG M 126 38 = nh3 from enh3))))]); all_goals omega)), (show mG m155 126 40 = mG Me 126 40 + 1 from (by (try rw [(show mG m155 126 40 = nh4 from ((kk155.2.2 126 40 (by omega) (fun z => by unfold W_X9_readRelation at z; (try unfold isWS at z); (try unfold isShape at z); (try unfold isTold at z); (try dsimp only at z); omega)).trans ((kk103.2.2 126 40 (by omega) (fun z => by unfold W_X9_token at z; (try unfold isWS at z); (try unfold isShape at z); (try unfold isTold at z); (try dsimp only at z); omega)).trans (show mG M 126 40 = nh4 from enh4))))]); all_goals omega)), trivial⟩
  · skip
    refine w_gK (congrArg Prod.fst (kl_126 im103)) ?_
    have lbm119_29 : mG m103 126 29 = hv103_29 := (show mG m103 126 29 = hv103_29 from (show mG m103 126 29 = hv103_29 from ehv103_29))
    have lbm119_31 : mG m103 126 31 = hv103_31 := (show mG m103 126 31 = hv103_31 from (show mG m103 126 31 = hv103_31 from ehv103_31))
    have lbm119_34 : mG m103 126 34 = hv103_34 := (show mG m103 126 34 = hv103_34 from (show mG m103 126 34 = hv103_34 from ehv103_34))
    have lbm119_38 : mG m103 126 38 = nh3 := (show mG m103 126 38 = nh3 from ((kk103.2.2 126 38 (by omega) (fun z => by unfold W_X9_token at z; (try unfold isWS at z); (try unfold isShape at z); (try unfold isTold at z); (try dsimp only at z); omega)).trans (show mG M 126 38 = nh3 from enh3)))
    refine w_call (s_X9_readBinder ⟨by omega, by omega⟩ ⟨by omega, by omega⟩ (by (try rw [(show mG m103 126 29 = hv103_29 from (show mG m103 126 29 = hv103_29 from ehv103_29))]); (try rw [(show mG m103 126 31 = hv103_31 from (show mG m103 126 31 = hv103_31 from ehv103_31))]); (try rw [(show mG m103 126 34 = hv103_34 from (show mG m103 126 34 = hv103_34 from ehv103_34))]); (try rw [(show mG m103 126 38 = nh3 from ((kk103.2.2 126 38 (by omega) (fun z => by unfold W_X9_token at z; (try unfold isWS at z); (try unfold isShape at z); (try unfold isTold at z); (try dsimp only at z); omega)).trans (show mG M 126 38 = nh3 from enh3)))]); all_goals omega) (by (try rw [(show mG m103 126 29 = hv103_29 from (show mG m103 126 29 = hv103_29 from ehv103_29))]); (try rw [(show mG m103 126 31 = hv103_31 from (show mG m103 126 31 = hv103_31 from ehv103_31))]); (try rw [(show mG m103 126 34 = hv103_34 from (show mG m103 126 34 = hv103_34 from ehv103_34))]); (try rw [(show mG m103 126 38 = nh3 from ((kk103.2.2 126 38 (by omega) (fun z => by unfold W_X9_token at z; (try unfold isWS at z); (try unfold isShape at z); (try unfold isTold at z); (try dsimp only at z); omega)).trans (show mG M 126 38 = nh3 from enh3)))]); all_goals omega) (by (try rw [(show mG m103 126 29 = hv103_29 from (show mG m103 126 29 = hv103_29 from ehv103_29))]); (try rw [(show mG m103 126 31 = hv103_31 from (show mG m103 126 31 = hv103_31 from ehv103_31))]); (try rw [(show mG m103 126 34 = hv103_34 from (show mG m103 126 34 = hv103_34 from ehv103_34))]); (try rw [(show mG m103 126 38 = nh3 from ((kk103.2.2 126 38 (by omega) (fun z => by unfold W_X9_token at z; (try unfold isWS at z); (try unfold isShape at z); (try unfold isTold at z); (try dsimp only at z); omega)).trans (show mG M 126 38 = nh3 from enh3)))]); all_goals omega) (by (try rw [(show mG m103 126 29 = hv103_29 from (show mG m103 126 29 = hv103_29 from ehv103_29))]); (try rw [(show mG m103 126 31 = hv103_31 from (show mG m103 126 31 = hv103_31 from ehv103_31))]); (try rw [(show mG m103 126 34 = hv103_34 from (show mG m103 126 34 = hv103_34 from ehv103_34))]); (try rw [(show mG m103 126 38 = nh3 from ((kk103.2.2 126 38 (by omega) (fun z => by unfold W_X9_token at z; (try unfold isWS at z); (try unfold isShape at z); (try unfold isTold at z); (try dsimp only at z); omega)).trans (show mG M 126 38 = nh3 from enh3)))]); all_goals omega) im103) ?_
    intro v119 m119 pp119
    obtain ⟨im119, kk119, e119_0, e119_1, e119_2, -⟩ := pp119
    try dsimp only
    replace im119 : I n m119 := im119
    replace kk119 : Keep n W_X9_readBinder m103 m119 := kk119
    have km119 : Keep n W_X9_readPart Me m119 := km103.tr kk119 (fun b j z => Or.elim z (fun z => (Or.inl ⟨by omega, by omega⟩)) (fun z => Or.elim z (fun z => (Or.inl ⟨by omega, by omega⟩)) (fun z => Or.elim z (fun z => (Or.inr (Or.inl z))) (fun z => Or.elim z (fun z => (Or.inr (Or.inr (Or.inl z)))) (fun z => Or.elim z (fun z => (Or.inr (Or.inr (Or.inr (Or.inl z))))) (fun z => Or.elim z (fun z => (Or.inr (Or.inr (Or.inr (Or.inr (Or.inl z)))))) (fun z => Or.elim z (fun z => (Or.inr (Or.inr (Or.inr (Or.inr (Or.inr (Or.inl z))))))) (fun z => Or.elim z (fun z => (Or.inr (Or.inr (Or.inr (Or.inr (Or.inr (Or.inr (Or.inl z)))))))) (fun z => (Or.inr (Or.inr (Or.inr (Or.inr (Or.inr (Or.inr (Or.inr (Or.inr (Or.inr (Or.inl z)))))))))))))))))))
    replace e119_0 : 0 ≤ v119 ∧ v119 ≤ 1 := e119_0
    replace e119_1 : mG m103 126 31 ≤ mG m119 126 31 ∧ mG m119 126 31 ≤ mG m119 126 29 ∧ (mG m119 126 34 = 0 ∨ mG m119 126 31 < mG m119 126 29) := e119_1
    replace e119_2 : mG m119 126 38 ≤ mG m103 126 38 + 1 := e119_2
    obtain ⟨hv119_29, ehv119_29⟩ : ∃ v, Is (mG m119 126 29) v := ⟨_, rfl⟩
    have lhv119_29 : mG m119 126 29 = hv119_29 := ehv119_29
    have rhv119_29 : 0 ≤ hv119_29 ∧ hv119_29 ≤ 400 := by rw [← ehv119_29.e]; exact rd_Model_29 im119 rfl
    obtain ⟨hv119_31, ehv119_31⟩ : ∃ v, Is (mG m119 126 31) v := ⟨_, rfl⟩
    have lhv119_31 : mG m119 126 31 = hv119_31 := ehv119_31
    have rhv119_31 : 0 ≤ hv119_31 ∧ hv119_31 ≤ 400 := by rw [← ehv119_31.e]; exact rd_Model_31 im119 rfl
    obtain ⟨hv119_34, ehv119_34⟩ : ∃ v, Is (mG m119 126 34) v := ⟨_, rfl⟩
    have lhv119_34 : mG m119 126 34 = hv119_34 := ehv119_34
    skip
    obtain ⟨hv119_38, ehv119_38⟩ : ∃ v, Is (mG m119 126 38) v := ⟨_, rfl⟩
    have lhv119_38 : mG m119 126 38 = hv119_38 := ehv119_38
    have rhv119_38 : 0 ≤ hv119_38 ∧ hv119_38 ≤ 420 := by rw [← ehv119_38.e]; exact rd_Model_38 im119 rfl
    refine w_zR (by omega) (fun z hz => ?_)
    exact w_ret ⟨im119, km119, (show 0 ≤ z ∧ z ≤ 1 from ⟨by omega, by omega⟩), (show mG Me 126 31 ≤ mG m119 126 31 ∧ mG m119 126 31 ≤ mG m119 126 29 ∧ (mG m119 126 34 = 0 ∨ mG m119 126 31 < mG m119 126 29) from (by (try rw [(show mG m119 126 29 = hv119_29 from (show mG m119 126 29 = hv119_29 from ehv119_29))]); (try rw [(show mG m119 126 31 = hv119_31 from (show mG m119 126 31 = hv119_31 from ehv119_31))]); (try rw [(show mG m119 126 34 = hv119_34 from (show mG m119 126 34 = hv119_34 from ehv119_34))]); all_goals omega)), (show z = 1 → mG Me 126 31 < mG m119 126 31 from (fun z => (by (try rw [(show mG m119 126 29 = hv119_29 from (show mG m119 126 29 = hv119_29 from ehv119_29))]); (try rw [(show mG m119 126 31 = hv119_31 from (show mG m119 126 31 = hv119_31 from ehv119_31))]); (try rw [(show mG m119 126 34 = hv119_34 from (show mG m119 126 34 = hv119_34 from ehv119_34))]); all_goals omega))), (show mG m119 126 38 ≤ mG Me 126 38 + 2 from (by (try rw [(show mG m119 126 38 = hv119_38 from (show mG m119 126 38 = hv119_38 from ehv119_38))]); all_goals omega)), (show mG m119 126 40 = mG Me 126 40 + 1 from (by (try rw [(show mG m119 126 40 = nh4 from ((kk119.2.2 126 40 (by omega) (fun z => by unfold W_X9_readBinder at z; (try unfold isWS at z); (try unfold isShape at z); (try unfold isTold at z); (try dsimp only at z); omega)).trans ((kk103.2.2 126 40 (by omega) (fun z => by unfold W_X9_token at z; (try unfold isWS at z); (try unfold isShape at z); (try unfold isTold at z); (try dsimp only at z); omega)).trans (show mG M 126 40 = nh4 from enh4))))]); all_goals omega)), trivial⟩
theorem s_X9_readPart_36 {n : Nat} {Me : Mem} {l1 s0 : Int} {M : Mem} (r_l1 : (-2147483648) ≤ l1 ∧ l1 ≤ 2147483647) (r_s0 : 0 ≤ s0 ∧ s0 ≤ 40) (y0 : mG M 126 29 = mG M 126 29) (y1 : mG M 126 31 ≤ mG M 126 29 ∧ mG Me 126 31 ≤ mG M 126 31) (y2 : (mG M 126 34 = 0 ∨ mG M 126 31 < mG M 126 29)) (y3 : mG M 126 38 = mG Me 126 38 ∧ mG M 126 38 ≤ 418) (y4 : mG M 126 40 = mG Me 126 40 ∧ mG M 126 40 ≤ 401) (iM : I n M) (kM : Keep n W_X9_readPart Me M) : wp (mX9_readPart_36 126 l1 s0 M) (fun q => I n q.2 ∧ Keep n W_X9_readPart Me q.2 ∧ (0 ≤ q.1 ∧ q.1 ≤ 1) ∧ (mG Me 126 31 ≤ mG q.2 126 31 ∧ mG q.2 126 31 ≤ mG q.2 126 29 ∧ (mG q.2 126 34 = 0 ∨ mG q.2 126 31 < mG q.2 126 29)) ∧ (q.1 = 1 → mG Me 126 31 < mG q.2 126 31) ∧ (mG q.2 126 38 ≤ mG Me 126 38 + 2) ∧ (mG q.2 126 40 = mG Me 126 40 + 1) ∧ True) := by
  have hn : (169 : Int) ≤ (n : Int) := by have := iM.2.2.2.2.1; omega
  obtain ⟨nh0, enh0⟩ : ∃ v, Is (mG M 126 29) v := ⟨_, rfl⟩
  have rnh0 : 0 ≤ nh0 ∧ nh0 ≤ 400 := by rw [← enh0.e]; exact rd_Model_29 iM rfl
  have qnh0 : mG M 126 29 = nh0 := enh0
  (try rw [enh0.e] at y0); (try rw [enh0.e] at y1); (try rw [enh0.e] at y2); (try rw [enh0.e] at y3); (try rw [enh0.e] at y4)
  obtain ⟨nh1, enh1⟩ : ∃ v, Is (mG M 126 31) v := ⟨_, rfl⟩
  have rnh1 : 0 ≤ nh1 ∧ nh1 ≤ 400 := by rw [← enh1.e]; exact rd_Model_31 iM rfl
  have qnh1 : mG M 126 31 = nh1 := enh1
  (try rw [enh1.e] at y0); (try rw [enh1.e] at y1); (try rw [enh1.e] at y2); (try rw [enh1.e] at y3); (try rw [enh1.e] at y4)
  obtain ⟨nh2, enh2⟩ : ∃ v, Is (mG M 126 34) v := ⟨_, rfl⟩
  have qnh2 : mG M 126 34 = nh2 := enh2
  (try rw [enh2.e] at y0); (try rw [enh2.e] at y1); (try rw [enh2.e] at y2); (try rw [enh2.e] at y3); (try rw [enh2.e] at y4)
  obtain ⟨nh3, enh3⟩ : ∃ v, Is (mG M 126 38) v := ⟨_, rfl⟩
  have rnh3 : 0 ≤ nh3 ∧ nh3 ≤ 420 := by rw [← enh3.e]; exact rd_Model_38 iM rfl
  have qnh3 : mG M 126 38 = nh3 := enh3
  (try rw [enh3.e] at y0); (try rw [enh3.e] at y1); (try rw [enh3.e] at y2); (try rw [enh3.e] at y3); (try rw [enh3.e] at y4)
  obtain ⟨nh4, enh4⟩ : ∃ v, Is (mG M 126 40) v := ⟨_, rfl⟩
  have rnh4 : 0 ≤ nh4 ∧ nh4 ≤ 402 := by rw [← enh4.e]; exact rd_Model_40 iM rfl
  have qnh4 : mG M 126 40 = nh4 := enh4
  (try rw [enh4.e] at y0); (try rw [enh4.e] at y1); (try rw [enh4.e] at y2); (try rw [enh4.e] at y3); (try rw [enh4.e] at y4)
  unfold mX9_readPart_36
  refine w_gFc (ji := 40) rfl (congrArg Prod.fst (kl_126 iM)) (show mG M 126 40 = nh4 from (show mG M 126 40 = nh4 from enh4)) ?_
  have w1_ := wI_id (x := (nh4 + 1)) (by omega) (by omega)
  refine w_pF (ji := 40) rfl (congrArg Prod.fst (kl_126 iM)) (fun M44 hM44 => ?_)
  replace hM44 : M44 = mS M 126 40 (wI (nh4 + 1)) := hM44
  have iM44 : I n M44 := wr_Model_40 iM rfl ⟨by omega, by omega⟩ hM44
  have kM44 : Keep n W_X9_readPart Me M44 := kM.st hM44 (Or.inl (Or.inr (Or.inr (Or.inr (Or.inr (Or.inr (Or.inr (Or.inr (Or.inr (Or.inr (Or.inr ⟨rfl, rfl⟩)))))))))))
  obtain ⟨svM44, esvM44⟩ : ∃ z, z = (wI (nh4 + 1)) := ⟨_, rfl⟩
  refine w_gFc (ji := 41) rfl (congrArg Prod.fst (kl_126 iM44)) (show mG M44 126 41 = 156 from rd_Model_41 iM44 (a := 126) rfl) ?_
  refine w_gK (congrArg Prod.fst (kl_126 iM44)) ?_
  refine w_call (s_X9_actOf (by (try rw [(show mG M44 126 34 = nh2 from ((st_ne hM44 (fun z => absurd z.2 (by decide))).trans (show mG M 126 34 = nh2 from enh2)))]); all_goals omega) iM44) ?_
  intro v53 m53 pp53
  obtain ⟨im53, kk53, e53_0, e53_1, -⟩ := pp53
  try dsimp only
  replace im53 : I n m53 := im53
  replace kk53 : Keep n W_X9_actOf M44 m53 := kk53
  have km53 : Keep n W_X9_readPart Me m53 := kM44.tr kk53 (fun b j z => z.elim)
  replace e53_0 : (-1) ≤ v53 ∧ v53 ≤ 10 := e53_0
  replace e53_1 : v53 = -1 ∨ ¬ mG m53 126 34 = 0 := e53_1
  have lk53 : mG m53 126 34 = nh2 := ((kk53.2.2 126 34 (by omega) (fun z => z)).trans ((st_ne hM44 (fun z => absurd z.2 (by decide))).trans (show mG M 126 34 = nh2 from enh2)))
  refine w_aS (kl_156 im53) (by omega) (by omega) (fun M56 hM56 => ?_)
  replace hM56 : M56 = mS m53 156 s0 v53 := hM56
  have iM56 : I n M56 := wr_MnewAct im53 rfl ⟨by omega, by omega⟩ hM56
  have kM56 : Keep n W_X9_readPart Me M56 := km53.st hM56 (Or.inl (Or.inl ⟨by decide, by decide⟩))
  refine w_gFc (ji := 41) rfl (congrArg Prod.fst (kl_126 iM56)) (show mG M56 126 41 = 156 from rd_Model_41 iM56 (a := 126) rfl) ?_
  refine w_aGc (kl_156 iM56) (by omega) (by omega) (show mG M56 156 s0 = v53 from (show mG M56 156 s0 = v53 from (st_eq hM56))) ?_
  refine w_if (fun c2_ => ?_) (fun c2_ => ?_)
  · skip
    refine w_gK (congrArg Prod.fst (kl_126 iM56)) ?_
    have lbm70_29 : mG M56 126 29 = nh0 := (show mG M56 126 29 = nh0 from ((st_ne hM56 (fun z => ne_fam rfl rfl (by decide) z.1)).trans ((kk53.2.2 126 29 (by omega) (fun z => z)).trans ((st_ne hM44 (fun z => absurd z.2 (by decide))).trans (show mG M 126 29 = nh0 from enh0)))))
    have lbm70_31 : mG M56 126 31 = nh1 := (show mG M56 126 31 = nh1 from ((st_ne hM56 (fun z => ne_fam rfl rfl (by decide) z.1)).trans ((kk53.2.2 126 31 (by omega) (fun z => z)).trans ((st_ne hM44 (fun z => absurd z.2 (by decide))).trans (show mG M 126 31 = nh1 from enh1)))))
    have lbm70_34 : mG M56 126 34 = nh2 := (show mG M56 126 34 = nh2 from ((st_ne hM56 (fun z => ne_fam rfl rfl (by decide) z.1)).trans ((kk53.2.2 126 34 (by omega) (fun z => z)).trans ((st_ne hM44 (fun z => absurd z.2 (by decide))).trans (show mG M 126 34 = nh2 from enh2)))))
    refine w_call (s_X9_readRelation ⟨by omega, by omega⟩ ⟨by omega, by omega⟩ (by (try rw [(show mG M56 126 29 = nh0 from ((st_ne hM56 (fun z => ne_fam rfl rfl (by decide) z.1)).trans ((kk53.2.2 126 29 (by omega) (fun z => z)).trans ((st_ne hM44 (fun z => absurd z.2 (by decide))).trans (show mG M 126 29 = nh0 from enh0)))))]); (try rw [(show mG M56 126 31 = nh1 from ((st_ne hM56 (fun z => ne_fam rfl rfl (by decide) z.1)).trans ((kk53.2.2 126 31 (by omega) (fun z => z)).trans ((st_ne hM44 (fun z => absurd z.2 (by decide))).trans (show mG M 126 31 = nh1 from enh1)))))]); (try rw [(show mG M56 126 34 = nh2 from ((st_ne hM56 (fun z => ne_fam rfl rfl (by decide) z.1)).trans ((kk53.2.2 126 34 (by omega) (fun z => z)).trans ((st_ne hM44 (fun z => absurd z.2 (by decide))).trans (show mG M 126 34 = nh2 from enh2)))))]); all_goals omega) (by (try rw [(show mG M56 126 29 = nh0 from ((st_ne hM56 (fun z => ne_fam rfl rfl (by decide) z.1)).trans ((kk53.2.2 126 29 (by omega) (fun z => z)).trans ((st_ne hM44 (fun z => absurd z.2 (by decide))).trans (show mG M 126 29 = nh0 from enh0)))))]); (try rw [(show mG M56 126 31 = nh1 from ((st_ne hM56 (fun z => ne_fam rfl rfl (by decide) z.1)).trans ((kk53.2.2 126 31 (by omega) (fun z => z)).trans ((st_ne hM44 (fun z => absurd z.2 (by decide))).trans (show mG M 126 31 = nh1 from enh1)))))]); (try rw [(show mG M56 126 34 = nh2 from ((st_ne hM56 (fun z => ne_fam rfl rfl (by decide) z.1)).trans ((kk53.2.2 126 34 (by omega) (fun z => z)).trans ((st_ne hM44 (fun z => absurd z.2 (by decide))).trans (show mG M 126 34 = nh2 from enh2)))))]); all_goals omega) (by (try rw [(show mG M56 126 29 = nh0 from ((st_ne hM56 (fun z => ne_fam rfl rfl (by decide) z.1)).trans ((kk53.2.2 126 29 (by omega) (fun z => z)).trans ((st_ne hM44 (fun z => absurd z.2 (by decide))).trans (show mG M 126 29 = nh0 from enh0)))))]); (try rw [(show mG M56 126 31 = nh1 from ((st_ne hM56 (fun z => ne_fam rfl rfl (by decide) z.1)).trans ((kk53.2.2 126 31 (by omega) (fun z => z)).trans ((st_ne hM44 (fun z => absurd z.2 (by decide))).trans (show mG M 126 31 = nh1 from enh1)))))]); (try rw [(show mG M56 126 34 = nh2 from ((st_ne hM56 (fun z => ne_fam rfl rfl (by decide) z.1)).trans ((kk53.2.2 126 34 (by omega) (fun z => z)).trans ((st_ne hM44 (fun z => absurd z.2 (by decide))).trans (show mG M 126 34 = nh2 from enh2)))))]); all_goals omega) iM56) ?_
    intro v70 m70 pp70
    obtain ⟨im70, kk70, e70_0, e70_1, e70_2, -⟩ := pp70
    try dsimp only
    replace im70 : I n m70 := im70
    replace kk70 : Keep n W_X9_readRelation M56 m70 := kk70
    have km70 : Keep n W_X9_readPart Me m70 := kM56.tr kk70 (fun b j z => Or.elim z (fun z => (Or.inl ⟨by omega, by omega⟩)) (fun z => Or.elim z (fun z => (Or.inr (Or.inl z))) (fun z => Or.elim z (fun z => (Or.inr (Or.inr (Or.inl z)))) (fun z => Or.elim z (fun z => (Or.inr (Or.inr (Or.inr (Or.inl z))))) (fun z => Or.elim z (fun z => (Or.inr (Or.inr (Or.inr (Or.inr (Or.inl z)))))) (fun z => Or.elim z (fun z => (Or.inr (Or.inr (Or.inr (Or.inr (Or.inr (Or.inl z))))))) (fun z => Or.elim z (fun z => (Or.inr (Or.inr (Or.inr (Or.inr (Or.inr (Or.inr (Or.inl z)))))))) (fun z => Or.elim z (fun z => (Or.inr (Or.inr (Or.inr (Or.inr (Or.inr (Or.inr (Or.inr (Or.inl z))))))))) (fun z => (Or.inr (Or.inr (Or.inr (Or.inr (Or.inr (Or.inr (Or.inr (Or.inr (Or.inl z))))))))))))))))))
    replace e70_0 : 0 ≤ v70 ∧ v70 ≤ 1 := e70_0
    replace e70_1 : mG M56 126 31 ≤ mG m70 126 31 ∧ mG m70 126 31 ≤ mG m70 126 29 ∧ (mG m70 126 34 = 0 ∨ mG m70 126 31 < mG m70 126 29) := e70_1
    replace e70_2 : v70 = 1 → mG M56 126 31 < mG m70 126 31 := e70_2
    obtain ⟨hv70_29, ehv70_29⟩ : ∃ v, Is (mG m70 126 29) v := ⟨_, rfl⟩
    have lhv70_29 : mG m70 126 29 = hv70_29 := ehv70_29
    have rhv70_29 : 0 ≤ hv70_29 ∧ hv70_29 ≤ 400 := by rw [← ehv70_29.e]; exact rd_Model_29 im70 rfl
    obtain ⟨hv70_31, ehv70_31⟩ : ∃ v, Is (mG m70 126 31) v := ⟨_, rfl⟩
    have lhv70_31 : mG m70 126 31 = hv70_31 := ehv70_31
    have rhv70_31 : 0 ≤ hv70_31 ∧ hv70_31 ≤ 400 := by rw [← ehv70_31.e]; exact rd_Model_31 im70 rfl
    obtain ⟨hv70_34, ehv70_34⟩ : ∃ v, Is (mG m70 126 34) v := ⟨_, rfl⟩
    have lhv70_34 : mG m70 126 34 = hv70_34 := ehv70_34
    skip
    refine w_zR (by omega) (fun z hz => ?_)
    exact w_ret ⟨im70, km70, (show 0 ≤ z ∧ z ≤ 1 from ⟨by omega, by omega⟩), (show mG Me 126 31 ≤ mG m70 126 31 ∧ mG m70 126 31 ≤ mG m70 126 29 ∧ (mG m70 126 34 = 0 ∨ mG m70 126 31 < mG m70 126 29) from (by (try rw [(show mG m70 126 29 = hv70_29 from (show mG m70 126 29 = hv70_29 from ehv70_29))]); (try rw [(show mG m70 126 31 = hv70_31 from (show mG m70 126 31 = hv70_31 from ehv70_31))]); (try rw [(show mG m70 126 34 = hv70_34 from (show mG m70 126 34 = hv70_34 from ehv70_34))]); all_goals omega)), (show z = 1 → mG Me 126 31 < mG m70 126 31 from (fun z => (by (try rw [(show mG m70 126 29 = hv70_29 from (show mG m70 126 29 = hv70_29 from ehv70_29))]); (try rw [(show mG m70 126 31 = hv70_31 from (show mG m70 126 31 = hv70_31 from ehv70_31))]); (try rw [(show mG m70 126 34 = hv70_34 from (show mG m70 126 34 = hv70_34 from ehv70_34))]); all_goals omega))), (show mG m70 126 38 ≤ mG Me 126 38 + 2 from (by (try rw [(show mG m70 126 38 = nh3 from ((kk70.2.2 126 38 (by omega) (fun z => by unfold W_X9_readRelation at z; (try unfold isWS at z); (try unfold isShape at z); (try unfold isTold at z); (try dsimp only at z); omega)).trans ((st_ne hM56 (fun z => ne_fam rfl rfl (by decide) z.1)).trans ((kk53.2.2 126 38 (by omega) (fun z => z)).trans ((st_ne hM44 (fun z => absurd z.2 (by decide))).trans (show mG M 126 38 = nh3 from enh3))))))]); all_goals omega)), (show mG m70 126 40 = mG Me 126 40 + 1 from (by (try rw [(show mG m70 126 40 = svM44 from ((kk70.2.2 126 40 (by omega) (fun z => by unfold W_X9_readRelation at z; (try unfold isWS at z); (try unfold isShape at z); (try unfold isTold at z); (try dsimp only at z); omega)).trans ((st_ne hM56 (fun z => ne_fam rfl rfl (by decide) z.1)).trans ((kk53.2.2 126 40 (by omega) (fun z => z)).trans (show mG M44 126 40 = svM44 from ((st_eq hM44).trans esvM44.symm))))))]); all_goals omega)), trivial⟩
  · skip
    refine w_gFc (ji := 41) rfl (congrArg Prod.fst (kl_126 iM56)) (show mG M56 126 41 = 156 from rd_Model_41 iM56 (a := 126) rfl) ?_
    refine w_aGc (kl_156 iM56) (by omega) (by omega) (show mG M56 156 s0 = v53 from (show mG M56 156 s0 = v53 from (st_eq hM56))) ?_
    refine w_if (fun c3_ => ?_) (fun c3_ => ?_)
    · skip
      exact s_X9_readPart_102 ⟨by omega, by omega⟩ ⟨by omega, by omega⟩ (by (try rw [(show mG M56 126 29 = nh0 from ((st_ne hM56 (fun z => ne_fam rfl rfl (by decide) z.1)).trans ((kk53.2.2 126 29 (by omega) (fun z => z)).trans ((st_ne hM44 (fun z => absurd z.2 (by decide))).trans (show mG M 126 29 = nh0 from enh0)))))]); (try rw [(show mG M56 126 31 = nh1 from ((st_ne hM56 (fun z => ne_fam rfl rfl (by decide) z.1)).trans ((kk53.2.2 126 31 (by omega) (fun z => z)).trans ((st_ne hM44 (fun z => absurd z.2 (by decide))).trans (show mG M 126 31 = nh1 from enh1)))))]); (try rw [(show mG M56 126 34 = nh2 from ((st_ne hM56 (fun z => ne_fam rfl rfl (by decide) z.1)).trans ((kk53.2.2 126 34 (by omega) (fun z => z)).trans ((st_ne hM44 (fun z => absurd z.2 (by decide))).trans (show mG M 126 34 = nh2 from enh2)))))]); (try rw [(show mG M56 126 38 = nh3 from ((st_ne hM56 (fun z => ne_fam rfl rfl (by decide) z.1)).trans ((kk53.2.2 126 38 (by omega) (fun z => z)).trans ((st_ne hM44 (fun z => absurd z.2 (by decide))).trans (show mG M 126 38 = nh3 from enh3)))))]); (try rw [(show mG M56 126 40 = svM44 from ((st_ne hM56 (fun z => ne_fam rfl rfl (by decide) z.1)).trans ((kk53.2.2 126 40 (by omega) (fun z => z)).trans (show mG M44 126 40 = svM44 from ((st_eq hM44).trans esvM44.symm)))))]); all_goals omega) (by (try rw [(show mG M56 126 29 = nh0 from ((st_ne hM56 (fun z => ne_fam rfl rfl (by decide) z.1)).trans ((kk53.2.2 126 29 (by omega) (fun z => z)).trans ((st_ne hM44 (fun z => absurd z.2 (by decide))).trans (show mG M 126 29 = nh0 from enh0)))))]); (try rw [(show mG M56 126 31 = nh1 from ((st_ne hM56 (fun z => ne_fam rfl rfl (by decide) z.1)).trans ((kk53.2.2 126 31 (by omega) (fun z => z)).trans ((st_ne hM44 (fun z => absurd z.2 (by decide))).trans (show mG M 126 31 = nh1 from enh1)))))]); (try rw [(show mG M56 126 34 = nh2 from ((st_ne hM56 (fun z => ne_fam rfl rfl (by decide) z.1)).trans ((kk53.2.2 126 34 (by omega) (fun z => z)).trans ((st_ne hM44 (fun z => absurd z.2 (by decide))).trans (show mG M 126 34 = nh2 from enh2)))))]); (try rw [(show mG M56 126 38 = nh3 from ((st_ne hM56 (fun z => ne_fam rfl rfl (by decide) z.1)).trans ((kk53.2.2 126 38 (by omega) (fun z => z)).trans ((st_ne hM44 (fun z => absurd z.2 (by decide))).trans (show mG M 126 38 = nh3 from enh3)))))]); (try rw [(show mG M56 126 40 = svM44 from ((st_ne hM56 (fun z => ne_fam rfl rfl (by decide) z.1)).trans ((kk53.2.2 126 40 (by omega) (fun z => z)).trans (show mG M44 126 40 = svM44 from ((st_eq hM44).trans esvM44.symm)))))]); all_goals omega) (by (try rw [(show mG M56 126 29 = nh0 from ((st_ne hM56 (fun z => ne_fam rfl rfl (by decide) z.1)).trans ((kk53.2.2 126 29 (by omega) (fun z => z)).trans ((st_ne hM44 (fun z => absurd z.2 (by decide))).trans (show mG M 126 29 = nh0 from enh0)))))]); (try rw [(show mG M56 126 31 = nh1 from ((st_ne hM56 (fun z => ne_fam rfl rfl (by decide) z.1)).trans ((kk53.2.2 126 31 (by omega) (fun z => z)).trans ((st_ne hM44 (fun z => absurd z.2 (by decide))).trans (show mG M 126 31 = nh1 from enh1)))))]); (try rw [(show mG M56 126 34 = nh2 from ((st_ne hM56 (fun z => ne_fam rfl rfl (by decide) z.1)).trans ((kk53.2.2 126 34 (by omega) (fun z => z)).trans ((st_ne hM44 (fun z => absurd z.2 (by decide))).trans (show mG M 126 34 = nh2 from enh2)))))]); (try rw [(show mG M56 126 38 = nh3 from ((st_ne hM56 (fun z => ne_fam rfl rfl (by decide) z.1)).trans ((kk53.2.2 126 38 (by omega) (fun z => z)).trans ((st_ne hM44 (fun z => absurd z.2 (by decide))).trans (show mG M 126 38 = nh3 from enh3)))))]); (try rw [(show mG M56 126 40 = svM44 from ((st_ne hM56 (fun z => ne_fam rfl rfl (by decide) z.1)).trans ((kk53.2.2 126 40 (by omega) (fun z => z)).trans (show mG M44 126 40 = svM44 from ((st_eq hM44).trans esvM44.symm)))))]); all_goals omega) (by (try rw [(show mG M56 126 29 = nh0 from ((st_ne hM56 (fun z => ne_fam rfl rfl (by decide) z.1)).trans ((kk53.2.2 126 29 (by omega) (fun z => z)).trans ((st_ne hM44 (fun z => absurd z.2 (by decide))).trans (show mG M 126 29 = nh0 from enh0)))))]); (try rw [(show mG M56 126 31 = nh1 from ((st_ne hM56 (fun z => ne_fam rfl rfl (by decide) z.1)).trans ((kk53.2.2 126 31 (by omega) (fun z => z)).trans ((st_ne hM44 (fun z => absurd z.2 (by decide))).trans (show mG M 126 31 = nh1 from enh1)))))]); (try rw [(show mG M56 126 34 = nh2 from ((st_ne hM56 (fun z => ne_fam rfl rfl (by decide) z.1)).trans ((kk53.2.2 126 34 (by omega) (fun z => z)).trans ((st_ne hM44 (fun z => absurd z.2 (by decide))).trans (show mG M 126 34 = nh2 from enh2)))))]); (try rw [(show mG M56 126 38 = nh3 from ((st_ne hM56 (fun z => ne_fam rfl rfl (by decide) z.1)).trans ((kk53.2.2 126 38 (by omega) (fun z => z)).trans ((st_ne hM44 (fun z => absurd z.2 (by decide))).trans (show mG M 126 38 = nh3 from enh3)))))]); (try rw [(show mG M56 126 40 = svM44 from ((st_ne hM56 (fun z => ne_fam rfl rfl (by decide) z.1)).trans ((kk53.2.2 126 40 (by omega) (fun z => z)).trans (show mG M44 126 40 = svM44 from ((st_eq hM44).trans esvM44.symm)))))]); all_goals omega) (by (try rw [(show mG M56 126 29 = nh0 from ((st_ne hM56 (fun z => ne_fam rfl rfl (by decide) z.1)).trans ((kk53.2.2 126 29 (by omega) (fun z => z)).trans ((st_ne hM44 (fun z => absurd z.2 (by decide))).trans (show mG M 126 29 = nh0 from enh0)))))]); (try rw [(show mG M56 126 31 = nh1 from ((st_ne hM56 (fun z => ne_fam rfl rfl (by decide) z.1)).trans ((kk53.2.2 126 31 (by omega) (fun z => z)).trans ((st_ne hM44 (fun z => absurd z.2 (by decide))).trans (show mG M 126 31 = nh1 from enh1)))))]); (try rw [(show mG M56 126 34 = nh2 from ((st_ne hM56 (fun z => ne_fam rfl rfl (by decide) z.1)).trans ((kk53.2.2 126 34 (by omega) (fun z => z)).trans ((st_ne hM44 (fun z => absurd z.2 (by decide))).trans (show mG M 126 34 = nh2 from enh2)))))]); (try rw [(show mG M56 126 38 = nh3 from ((st_ne hM56 (fun z => ne_fam rfl rfl (by decide) z.1)).trans ((kk53.2.2 126 38 (by omega) (fun z => z)).trans ((st_ne hM44 (fun z => absurd z.2 (by decide))).trans (show mG M 126 38 = nh3 from enh3)))))]); (try rw [(show mG M56 126 40 = svM44 from ((st_ne hM56 (fun z => ne_fam rfl rfl (by decide) z.1)).trans ((kk53.2.2 126 40 (by omega) (fun z => z)).trans (show mG M44 126 40 = svM44 from ((st_eq hM44).trans esvM44.symm)))))]); all_goals omega) iM56 kM56
    · skip
      refine w_dQ (by omega) (fun a88 ha88 => ?_)
      have ra88 : (-2147483648) ≤ a88 ∧ a88 < 2147483648 := by rw [ha88]; exact idiv_in _ _
      refine w_if (fun c4_ => ?_) (fun c4_ => ?_)
      · skip
        exact s_X9_readPart_102 ⟨by omega, by omega⟩ ⟨by omega, by omega⟩ (by (try rw [(show mG M56 126 29 = nh0 from ((st_ne hM56 (fun z => ne_fam rfl rfl (by decide) z.1)).trans ((kk53.2.2 126 29 (by omega) (fun z => z)).trans ((st_ne hM44 (fun z => absurd z.2 (by decide))).trans (show mG M 126 29 = nh0 from enh0)))))]); (try rw [(show mG M56 126 31 = nh1 from ((st_ne hM56 (fun z => ne_fam rfl rfl (by decide) z.1)).trans ((kk53.2.2 126 31 (by omega) (fun z => z)).trans ((st_ne hM44 (fun z => absurd z.2 (by decide))).trans (show mG M 126 31 = nh1 from enh1)))))]); (try rw [(show mG M56 126 34 = nh2 from ((st_ne hM56 (fun z => ne_fam rfl rfl (by decide) z.1)).trans ((kk53.2.2 126 34 (by omega) (fun z => z)).trans ((st_ne hM44 (fun z => absurd z.2 (by decide))).trans (show mG M 126 34 = nh2 from enh2)))))]); (try rw [(show mG M56 126 38 = nh3 from ((st_ne hM56 (fun z => ne_fam rfl rfl (by decide) z.1)).trans ((kk53.2.2 126 38 (by omega) (fun z => z)).trans ((st_ne hM44 (fun z => absurd z.2 (by decide))).trans (show mG M 126 38 = nh3 from enh3)))))]); (try rw [(show mG M56 126 40 = svM44 from ((st_ne hM56 (fun z => ne_fam rfl rfl (by decide) z.1)).trans ((kk53.2.2 126 40 (by omega) (fun z => z)).trans (show mG M44 126 40 = svM44 from ((st_eq hM44).trans esvM44.symm)))))]); all_goals omega) (by (try rw [(show mG M56 126 29 = nh0 from ((st_ne hM56 (fun z => ne_fam rfl rfl (by decide) z.1)).trans ((kk53.2.2 126 29 (by omega) (fun z => z)).trans ((st_ne hM44 (fun z => absurd z.2 (by decide))).trans (show mG M 126 29 = nh0 from enh0)))))]); (try rw [(show mG M56 126 31 = nh1 from ((st_ne hM56 (fun z => ne_fam rfl rfl (by decide) z.1)).trans ((kk53.2.2 126 31 (by omega) (fun z => z)).trans ((st_ne hM44 (fun z => absurd z.2 (by decide))).trans (show mG M 126 31 = nh1 from enh1)))))]); (try rw [(show mG M56 126 34 = nh2 from ((st_ne hM56 (fun z => ne_fam rfl rfl (by decide) z.1)).trans ((kk53.2.2 126 34 (by omega) (fun z => z)).trans ((st_ne hM44 (fun z => absurd z.2 (by decide))).trans (show mG M 126 34 = nh2 from enh2)))))]); (try rw [(show mG M56 126 38 = nh3 from ((st_ne hM56 (fun z => ne_fam rfl rfl (by decide) z.1)).trans ((kk53.2.2 126 38 (by omega) (fun z => z)).trans ((st_ne hM44 (fun z => absurd z.2 (by decide))).trans (show mG M 126 38 = nh3 from enh3)))))]); (try rw [(show mG M56 126 40 = svM44 from ((st_ne hM56 (fun z => ne_fam rfl rfl (by decide) z.1)).trans ((kk53.2.2 126 40 (by omega) (fun z => z)).trans (show mG M44 126 40 = svM44 from ((st_eq hM44).trans esvM44.symm)))))]); all_goals omega) (by (try rw [(show mG M56 126 29 = nh0 from ((st_ne hM56 (fun z => ne_fam rfl rfl (by decide) z.1)).trans ((kk53.2.2 126 29 (by omega) (fun z => z)).trans ((st_ne hM44 (fun z => absurd z.2 (by decide))).trans (show mG M 126 29 = nh0 from enh0)))))]); (try rw [(show mG M56 126 31 = nh1 from ((st_ne hM56 (fun z => ne_fam rfl rfl (by decide) z.1)).trans ((kk53.2.2 126 31 (by omega) (fun z => z)).trans ((st_ne hM44 (fun z => absurd z.2 (by decide))).trans (show mG M 126 31 = nh1 from enh1)))))]); (try rw [(show mG M56 126 34 = nh2 from ((st_ne hM56 (fun z => ne_fam rfl rfl (by decide) z.1)).trans ((kk53.2.2 126 34 (by omega) (fun z => z)).trans ((st_ne hM44 (fun z => absurd z.2 (by decide))).trans (show mG M 126 34 = nh2 from enh2)))))]); (try rw [(show mG M56 126 38 = nh3 from ((st_ne hM56 (fun z => ne_fam rfl rfl (by decide) z.1)).trans ((kk53.2.2 126 38 (by omega) (fun z => z)).trans ((st_ne hM44 (fun z => absurd z.2 (by decide))).trans (show mG M 126 38 = nh3 from enh3)))))]); (try rw [(show mG M56 126 40 = svM44 from ((st_ne hM56 (fun z => ne_fam rfl rfl (by decide) z.1)).trans ((kk53.2.2 126 40 (by omega) (fun z => z)).trans (show mG M44 126 40 = svM44 from ((st_eq hM44).trans esvM44.symm)))))]); all_goals omega) (by (try rw [(show mG M56 126 29 = nh0 from ((st_ne hM56 (fun z => ne_fam rfl rfl (by decide) z.1)).trans ((kk53.2.2 126 29 (by omega) (fun z => z)).trans ((st_ne hM44 (fun z => absurd z.2 (by decide))).trans (show mG M 126 29 = nh0 from enh0)))))]); (try rw [(show mG M56 126 31 = nh1 from ((st_ne hM56 (fun z => ne_fam rfl rfl (by decide) z.1)).trans ((kk53.2.2 126 31 (by omega) (fun z => z)).trans ((st_ne hM44 (fun z => absurd z.2 (by decide))).trans (show mG M 126 31 = nh1 from enh1)))))]); (try rw [(show mG M56 126 34 = nh2 from ((st_ne hM56 (fun z => ne_fam rfl rfl (by decide) z.1)).trans ((kk53.2.2 126 34 (by omega) (fun z => z)).trans ((st_ne hM44 (fun z => absurd z.2 (by decide))).trans (show mG M 126 34 = nh2 from enh2)))))]); (try rw [(show mG M56 126 38 = nh3 from ((st_ne hM56 (fun z => ne_fam rfl rfl (by decide) z.1)).trans ((kk53.2.2 126 38 (by omega) (fun z => z)).trans ((st_ne hM44 (fun z => absurd z.2 (by decide))).trans (show mG M 126 38 = nh3 from enh3)))))]); (try rw [(show mG M56 126 40 = svM44 from ((st_ne hM56 (fun z => ne_fam rfl rfl (by decide) z.1)).trans ((kk53.2.2 126 40 (by omega) (fun z => z)).trans (show mG M44 126 40 = svM44 from ((st_eq hM44).trans esvM44.symm)))))]); all_goals omega) (by (try rw [(show mG M56 126 29 = nh0 from ((st_ne hM56 (fun z => ne_fam rfl rfl (by decide) z.1)).trans ((kk53.2.2 126 29 (by omega) (fun z => z)).trans ((st_ne hM44 (fun z => absurd z.2 (by decide))).trans (show mG M 126 29 = nh0 from enh0)))))]); (try rw [(show mG M56 126 31 = nh1 from ((st_ne hM56 (fun z => ne_fam rfl rfl (by decide) z.1)).trans ((kk53.2.2 126 31 (by omega) (fun z => z)).trans ((st_ne hM44 (fun z => absurd z.2 (by decide))).trans (show mG M 126 31 = nh1 from enh1)))))]); (try rw [(show mG M56 126 34 = nh2 from ((st_ne hM56 (fun z => ne_fam rfl rfl (by decide) z.1)).trans ((kk53.2.2 126 34 (by omega) (fun z => z)).trans ((st_ne hM44 (fun z => absurd z.2 (by decide))).trans (show mG M 126 34 = nh2 from enh2)))))]); (try rw [(show mG M56 126 38 = nh3 from ((st_ne hM56 (fun z => ne_fam rfl rfl (by decide) z.1)).trans ((kk53.2.2 126 38 (by omega) (fun z => z)).trans ((st_ne hM44 (fun z => absurd z.2 (by decide))).trans (show mG M 126 38 = nh3 from enh3)))))]); (try rw [(show mG M56 126 40 = svM44 from ((st_ne hM56 (fun z => ne_fam rfl rfl (by decide) z.1)).trans ((kk53.2.2 126 40 (by omega) (fun z => z)).trans (show mG M44 126 40 = svM44 from ((st_eq hM44).trans esvM44.symm)))))]); all_goals omega) iM56 kM56
      · skip
        refine w_gFc (ji := 31) rfl (congrArg Prod.fst (kl_126 iM56)) (show mG M56 126 31 = nh1 from ((st_ne hM56 (fun z => ne_fam rfl rfl (by decide) z.1)).trans ((kk53.2.2 126 31 (by omega) (fun z => z)).trans ((st_ne hM44 (fun z => absurd z.2 (by decide))).trans (show mG M 126 31 = nh1 from enh1))))) ?_
        refine w_gK (congrArg Prod.fst (kl_126 iM56)) ?_
        refine w_call (s_X9_later ⟨by omega, by omega⟩ ⟨by omega, by omega⟩ iM56) ?_
        intro v99 m99 pp99
        obtain ⟨im99, kk99, -⟩ := pp99
        try dsimp only
        replace im99 : I n m99 := im99
        replace kk99 : Keep n W_X9_later M56 m99 := kk99
        have km99 : Keep n W_X9_readPart Me m99 := kM56.tr kk99 (fun b j z => Or.elim z (fun z => (Or.inr (Or.inr (Or.inr (Or.inr (Or.inr (Or.inr (Or.inr (Or.inl z))))))))) (fun z => (Or.inr (Or.inr (Or.inr (Or.inr (Or.inr (Or.inr (Or.inr (Or.inr (Or.inl z)))))))))))
        exact s_X9_readPart_102 ⟨by omega, by omega⟩ ⟨by omega, by omega⟩ (by (try rw [(show mG m99 126 29 = nh0 from ((kk99.2.2 126 29 (by omega) (fun z => by unfold W_X9_later at z; (try unfold isWS at z); (try unfold isShape at z); (try unfold isTold at z); (try dsimp only at z); omega)).trans ((st_ne hM56 (fun z => ne_fam rfl rfl (by decide) z.1)).trans ((kk53.2.2 126 29 (by omega) (fun z => z)).trans ((st_ne hM44 (fun z => absurd z.2 (by decide))).trans (show mG M 126 29 = nh0 from enh0))))))]); (try rw [(show mG m99 126 31 = nh1 from ((kk99.2.2 126 31 (by omega) (fun z => by unfold W_X9_later at z; (try unfold isWS at z); (try unfold isShape at z); (try unfold isTold at z); (try dsimp only at z); omega)).trans ((st_ne hM56 (fun z => ne_fam rfl rfl (by decide) z.1)).trans ((kk53.2.2 126 31 (by omega) (fun z => z)).trans ((st_ne hM44 (fun z => absurd z.2 (by decide))).trans (show mG M 126 31 = nh1 from enh1))))))]); (try rw [(show mG m99 126 34 = nh2 from ((kk99.2.2 126 34 (by omega) (fun z => by unfold W_X9_later at z; (try unfold isWS at z); (try unfold isShape at z); (try unfold isTold at z); (try dsimp only at z); omega)).trans ((st_ne hM56 (fun z => ne_fam rfl rfl (by decide) z.1)).trans ((kk53.2.2 126 34 (by omega) (fun z => z)).trans ((st_ne hM44 (fun z => absurd z.2 (by decide))).trans (show mG M 126 34 = nh2 from enh2))))))]); (try rw [(show mG m99 126 38 = nh3 from ((kk99.2.2 126 38 (by omega) (fun z => by unfold W_X9_later at z; (try unfold isWS at z); (try unfold isShape at z); (try unfold isTold at z); (try dsimp only at z); omega)).trans ((st_ne hM56 (fun z => ne_fam rfl rfl (by decide) z.1)).trans ((kk53.2.2 126 38 (by omega) (fun z => z)).trans ((st_ne hM44 (fun z => absurd z.2 (by decide))).trans (show mG M 126 38 = nh3 from enh3))))))]); (try rw [(show mG m99 126 40 = svM44 from ((kk99.2.2 126 40 (by omega) (fun z => by unfold W_X9_later at z; (try unfold isWS at z); (try unfold isShape at z); (try unfold isTold at z); (try dsimp only at z); omega)).trans ((st_ne hM56 (fun z => ne_fam rfl rfl (by decide) z.1)).trans ((kk53.2.2 126 40 (by omega) (fun z => z)).trans (show mG M44 126 40 = svM44 from ((st_eq hM44).trans esvM44.symm))))))]); all_goals omega) (by (try rw [(show mG m99 126 29 = nh0 from ((kk99.2.2 126 29 (by omega) (fun z => by unfold W_X9_later at z; (try unfold isWS at z); (try unfold isShape at z); (try unfold isTold at z); (try dsimp only at z); omega)).trans ((st_ne hM56 (fun z => ne_fam rfl rfl (by decide) z.1)).trans ((kk53.2.2 126 29 (by omega) (fun z => z)).trans ((st_ne hM44 (fun z => absurd z.2 (by decide))).trans (show mG M 126 29 = nh0 from enh0))))))]); (try rw [(show mG m99 126 31 = nh1 from ((kk99.2.2 126 31 (by omega) (fun z => by unfold W_X9_later at z; (try unfold isWS at z); (try unfold isShape at z); (try unfold isTold at z); (try dsimp only at z); omega)).trans ((st_ne hM56 (fun z => ne_fam rfl rfl (by decide) z.1)).trans ((kk53.2.2 126 31 (by omega) (fun z => z)).trans ((st_ne hM44 (fun z => absurd z.2 (by decide))).trans (show mG M 126 31 = nh1 from enh1))))))]); (try rw [(show mG m99 126 34 = nh2 from ((kk99.2.2 126 34 (by omega) (fun z => by unfold W_X9_later at z; (try unfold isWS at z); (try unfold isShape at z); (try unfold isTold at z); (try dsimp only at z); omega)).trans ((st_ne hM56 (fun z => ne_fam rfl rfl (by decide) z.1)).trans ((kk53.2.2 126 34 (by omega) (fun z => z)).trans ((st_ne hM44 (fun z => absurd z.2 (by decide))).trans (show mG M 126 34 = nh2 from enh2))))))]); (try rw [(show mG m99 126 38 = nh3 from ((kk99.2.2 126 38 (by omega) (fun z => by unfold W_X9_later at z; (try unfold isWS at z); (try unfold isShape at z); (try unfold isTold at z); (try dsimp only at z); omega)).trans ((st_ne hM56 (fun z => ne_fam rfl rfl (by decide) z.1)).trans ((kk53.2.2 126 38 (by omega) (fun z => z)).trans ((st_ne hM44 (fun z => absurd z.2 (by decide))).trans (show mG M 126 38 = nh3 from enh3))))))]); (try rw [(show mG m99 126 40 = svM44 from ((kk99.2.2 126 40 (by omega) (fun z => by unfold W_X9_later at z; (try unfold isWS at z); (try unfold isShape at z); (try unfold isTold at z); (try dsimp only at z); omega)).trans ((st_ne hM56 (fun z => ne_fam rfl rfl (by decide) z.1)).trans ((kk53.2.2 126 40 (by omega) (fun z => z)).trans (show mG M44 126 40 = svM44 from ((st_eq hM44).trans esvM44.symm))))))]); all_goals omega) (by (try rw [(show mG m99 126 29 = nh0 from ((kk99.2.2 126 29 (by omega) (fun z => by unfold W_X9_later at z; (try unfold isWS at z); (try unfold isShape at z); (try unfold isTold at z); (try dsimp only at z); omega)).trans ((st_ne hM56 (fun z => ne_fam rfl rfl (by decide) z.1)).trans ((kk53.2.2 126 29 (by omega) (fun z => z)).trans ((st_ne hM44 (fun z => absurd z.2 (by decide))).trans (show mG M 126 29 = nh0 from enh0))))))]); (try rw [(show mG m99 126 31 = nh1 from ((kk99.2.2 126 31 (by omega) (fun z => by unfold W_X9_later at z; (try unfold isWS at z); (try unfold isShape at z); (try unfold isTold at z); (try dsimp only at z); omega)).trans ((st_ne hM56 (fun z => ne_fam rfl rfl (by decide) z.1)).trans ((kk53.2.2 126 31 (by omega) (fun z => z)).trans ((st_ne hM44 (fun z => absurd z.2 (by decide))).trans (show mG M 126 31 = nh1 from enh1))))))]); (try rw [(show mG m99 126 34 = nh2 from ((kk99.2.2 126 34 (by omega) (fun z => by unfold W_X9_later at z; (try unfold isWS at z); (try unfold isShape at z); (try unfold isTold at z); (try dsimp only at z); omega)).trans ((st_ne hM56 (fun z => ne_fam rfl rfl (by decide) z.1)).trans ((kk53.2.2 126 34 (by omega) (fun z => z)).trans ((st_ne hM44 (fun z => absurd z.2 (by decide))).trans (show mG M 126 34 = nh2 from enh2))))))]); (try rw [(show mG m99 126 38 = nh3 from ((kk99.2.2 126 38 (by omega) (fun z => by unfold W_X9_later at z; (try unfold isWS at z); (try unfold isShape at z); (try unfold isTold at z); (try dsimp only at z); omega)).trans ((st_ne hM56 (fun z => ne_fam rfl rfl (by decide) z.1)).trans ((kk53.2.2 126 38 (by omega) (fun z => z)).trans ((st_ne hM44 (fun z => absurd z.2 (by decide))).trans (show mG M 126 38 = nh3 from enh3))))))]); (try rw [(show mG m99 126 40 = svM44 from ((kk99.2.2 126 40 (by omega) (fun z => by unfold W_X9_later at z; (try unfold isWS at z); (try unfold isShape at z); (try unfold isTold at z); (try dsimp only at z); omega)).trans ((st_ne hM56 (fun z => ne_fam rfl rfl (by decide) z.1)).trans ((kk53.2.2 126 40 (by omega) (fun z => z)).trans (show mG M44 126 40 = svM44 from ((st_eq hM44).trans esvM44.symm))))))]); all_goals omega) (by (try rw [(show mG m99 126 29 = nh0 from ((kk99.2.2 126 29 (by omega) (fun z => by unfold W_X9_later at z; (try unfold isWS at z); (try unfold isShape at z); (try unfold isTold at z); (try dsimp only at z); omega)).trans ((st_ne hM56 (fun z => ne_fam rfl rfl (by decide) z.1)).trans ((kk53.2.2 126 29 (by omega) (fun z => z)).trans ((st_ne hM44 (fun z => absurd z.2 (by decide))).trans (show mG M 126 29 = nh0 from enh0))))))]); (try rw [(show mG m99 126 31 = nh1 from ((kk99.2.2 126 31 (by omega) (fun z => by unfold W_X9_later at z; (try unfold isWS at z); (try unfold isShape at z); (try unfold isTold at z); (try dsimp only at z); omega)).trans ((st_ne hM56 (fun z => ne_fam rfl rfl (by decide) z.1)).trans ((kk53.2.2 126 31 (by omega) (fun z => z)).trans ((st_ne hM44 (fun z => absurd z.2 (by decide))).trans (show mG M 126 31 = nh1 from enh1))))))]); (try rw [(show mG m99 126 34 = nh2 from ((kk99.2.2 126 34 (by omega) (fun z => by unfold W_X9_later at z; (try unfold isWS at z); (try unfold isShape at z); (try unfold isTold at z); (try dsimp only at z); omega)).trans ((st_ne hM56 (fun z => ne_fam rfl rfl (by decide) z.1)).trans ((kk53.2.2 126 34 (by omega) (fun z => z)).trans ((st_ne hM44 (fun z => absurd z.2 (by decide))).trans (show mG M 126 34 = nh2 from enh2))))))]); (try rw [(show mG m99 126 38 = nh3 from ((kk99.2.2 126 38 (by omega) (fun z => by unfold W_X9_later at z; (try unfold isWS at z); (try unfold isShape at z); (try unfold isTold at z); (try dsimp only at z); omega)).trans ((st_ne hM56 (fun z => ne_fam rfl rfl (by decide) z.1)).trans ((kk53.2.2 126 38 (by omega) (fun z => z)).trans ((st_ne hM44 (fun z => absurd z.2 (by decide))).trans (show mG M 126 38 = nh3 from enh3))))))]); (try rw [(show mG m99 126 40 = svM44 from ((kk99.2.2 126 40 (by omega) (fun z => by unfold W_X9_later at z; (try unfold isWS at z); (try unfold isShape at z); (try unfold isTold at z); (try dsimp only at z); omega)).trans ((st_ne hM56 (fun z => ne_fam rfl rfl (by decide) z.1)).trans ((kk53.2.2 126 40 (by omega) (fun z => z)).trans (show mG M44 126 40 = svM44 from ((st_eq hM44).trans esvM44.symm))))))]); all_goals omega) (by (try rw [(show mG m99 126 29 = nh0 from ((kk99.2.2 126 29 (by omega) (fun z => by unfold W_X9_later at z; (try unfold isWS at z); (try unfold isShape at z); (try unfold isTold at z); (try dsimp only at z); omega)).trans ((st_ne hM56 (fun z => ne_fam rfl rfl (by decide) z.1)).trans ((kk53.2.2 126 29 (by omega) (fun z => z)).trans ((st_ne hM44 (fun z => absurd z.2 (by decide))).trans (show mG M 126 29 = nh0 from enh0))))))]); (try rw [(show mG m99 126 31 = nh1 from ((kk99.2.2 126 31 (by omega) (fun z => by unfold W_X9_later at z; (try unfold isWS at z); (try unfold isShape at z); (try unfold isTold at z); (try dsimp only at z); omega)).trans ((st_ne hM56 (fun z => ne_fam rfl rfl (by decide) z.1)).trans ((kk53.2.2 126 31 (by omega) (fun z => z)).trans ((st_ne hM44 (fun z => absurd z.2 (by decide))).trans (show mG M 126 31 = nh1 from enh1))))))]); (try rw [(show mG m99 126 34 = nh2 from ((kk99.2.2 126 34 (by omega) (fun z => by unfold W_X9_later at z; (try unfold isWS at z); (try unfold isShape at z); (try unfold isTold at z); (try dsimp only at z); omega)).trans ((st_ne hM56 (fun z => ne_fam rfl rfl (by decide) z.1)).trans ((kk53.2.2 126 34 (by omega) (fun z => z)).trans ((st_ne hM44 (fun z => absurd z.2 (by decide))).trans (show mG M 126 34 = nh2 from enh2))))))]); (try rw [(show mG m99 126 38 = nh3 from ((kk99.2.2 126 38 (by omega) (fun z => by unfold W_X9_later at z; (try unfold isWS at z); (try unfold isShape at z); (try unfold isTold at z); (try dsimp only at z); omega)).trans ((st_ne hM56 (fun z => ne_fam rfl rfl (by decide) z.1)).trans ((kk53.2.2 126 38 (by omega) (fun z => z)).trans ((st_ne hM44 (fun z => absurd z.2 (by decide))).trans (show mG M 126 38 = nh3 from enh3))))))]); (try rw [(show mG m99 126 40 = svM44 from ((kk99.2.2 126 40 (by omega) (fun z => by unfold W_X9_later at z; (try unfold isWS at z); (try unfold isShape at z); (try unfold isTold at z); (try dsimp only at z); omega)).trans ((st_ne hM56 (fun z => ne_fam rfl rfl (by decide) z.1)).trans ((kk53.2.2 126 40 (by omega) (fun z => z)).trans (show mG M44 126 40 = svM44 from ((st_eq hM44).trans esvM44.symm))))))]); all_goals omega) im99 km99
theorem s_X9_readPart_18 {n : Nat} {Me : Mem} {l1 : Int} {M : Mem} (r_l1 : (-2147483648) ≤ l1 ∧ l1 ≤ 2147483647) (y0 : mG M 126 29 = mG M 126 29) (y1 : mG M 126 31 ≤ mG M 126 29 ∧ mG Me 126 31 ≤ mG M 126 31) (y2 : (mG M 126 34 = 0 ∨ mG M 126 31 < mG M 126 29)) (y3 : mG M 126 38 = mG Me 126 38 ∧ mG M 126 38 ≤ 418) (y4 : mG M 126 40 = mG Me 126 40 ∧ mG M 126 40 ≤ 401) (iM : I n M) (kM : Keep n W_X9_readPart Me M) : wp (mX9_readPart_18 126 l1 M) (fun q => I n q.2 ∧ Keep n W_X9_readPart Me q.2 ∧ (0 ≤ q.1 ∧ q.1 ≤ 1) ∧ (mG Me 126 31 ≤ mG q.2 126 31 ∧ mG q.2 126 31 ≤ mG q.2 126 29 ∧ (mG q.2 126 34 = 0 ∨ mG q.2 126 31 < mG q.2 126 29)) ∧ (q.1 = 1 → mG Me 126 31 < mG q.2 126 31) ∧ (mG q.2 126 38 ≤ mG Me 126 38 + 2) ∧ (mG q.2 126 40 = mG Me 126 40 + 1) ∧ True) := by
  have hn : (169 : Int) ≤ (n : Int) := by have := iM.2.2.2.2.1; omega
  obtain ⟨nh0, enh0⟩ : ∃ v, Is (mG M 126 29) v := ⟨_, rfl⟩
  have rnh0 : 0 ≤ nh0 ∧ nh0 ≤ 400 := by rw [← enh0.e]; exact rd_Model_29 iM rfl
  have qnh0 : mG M 126 29 = nh0 := enh0
  (try rw [enh0.e] at y0); (try rw [enh0.e] at y1); (try rw [enh0.e] at y2); (try rw [enh0.e] at y3); (try rw [enh0.e] at y4)
  obtain ⟨nh1, enh1⟩ : ∃ v, Is (mG M 126 31) v := ⟨_, rfl⟩
  have rnh1 : 0 ≤ nh1 ∧ nh1 ≤ 400 := by rw [← enh1.e]; exact rd_Model_31 iM rfl
  have qnh1 : mG M 126 31 = nh1 := enh1
  (try rw [enh1.e] at y0); (try rw [enh1.e] at y1); (try rw [enh1.e] at y2); (try rw [enh1.e] at y3); (try rw [enh1.e] at y4)
  obtain ⟨nh2, enh2⟩ : ∃ v, Is (mG M 126 34) v := ⟨_, rfl⟩
  have qnh2 : mG M 126 34 = nh2 := enh2
  (try rw [enh2.e] at y0); (try rw [enh2.e] at y1); (try rw [enh2.e] at y2); (try rw [enh2.e] at y3); (try rw [enh2.e] at y4)
  obtain ⟨nh3, enh3⟩ : ∃ v, Is (mG M 126 38) v := ⟨_, rfl⟩
  have rnh3 : 0 ≤ nh3 ∧ nh3 ≤ 420 := by rw [← enh3.e]; exact rd_Model_38 iM rfl
  have qnh3 : mG M 126 38 = nh3 := enh3
  (try rw [enh3.e] at y0); (try rw [enh3.e] at y1); (try rw [enh3.e] at y2); (try rw [enh3.e] at y3); (try rw [enh3.e] at y4)
  obtain ⟨nh4, enh4⟩ : ∃ v, Is (mG M 126 40) v := ⟨_, rfl⟩
  have rnh4 : 0 ≤ nh4 ∧ nh4 ≤ 402 := by rw [← enh4.e]; exact rd_Model_40 iM rfl
  have qnh4 : mG M 126 40 = nh4 := enh4
  (try rw [enh4.e] at y0); (try rw [enh4.e] at y1); (try rw [enh4.e] at y2); (try rw [enh4.e] at y3); (try rw [enh4.e] at y4)
  unfold mX9_readPart_18
  refine w_gFc (ji := 40) rfl (congrArg Prod.fst (kl_126 iM)) (show mG M 126 40 = nh4 from (show mG M 126 40 = nh4 from enh4)) ?_
  refine w_if (fun c1_ => ?_) (fun c1_ => ?_)
  · skip
    exact s_X9_readPart_36 ⟨by omega, by omega⟩ ⟨by omega, by omega⟩ (by (try rw [(show mG M 126 29 = nh0 from (show mG M 126 29 = nh0 from enh0))]); (try rw [(show mG M 126 31 = nh1 from (show mG M 126 31 = nh1 from enh1))]); (try rw [(show mG M 126 34 = nh2 from (show mG M 126 34 = nh2 from enh2))]); (try rw [(show mG M 126 38 = nh3 from (show mG M 126 38 = nh3 from enh3))]); (try rw [(show mG M 126 40 = nh4 from (show mG M 126 40 = nh4 from enh4))]); all_goals omega) (by (try rw [(show mG M 126 29 = nh0 from (show mG M 126 29 = nh0 from enh0))]); (try rw [(show mG M 126 31 = nh1 from (show mG M 126 31 = nh1 from enh1))]); (try rw [(show mG M 126 34 = nh2 from (show mG M 126 34 = nh2 from enh2))]); (try rw [(show mG M 126 38 = nh3 from (show mG M 126 38 = nh3 from enh3))]); (try rw [(show mG M 126 40 = nh4 from (show mG M 126 40 = nh4 from enh4))]); all_goals omega) (by (try rw [(show mG M 126 29 = nh0 from (show mG M 126 29 = nh0 from enh0))]); (try rw [(show mG M 126 31 = nh1 from (show mG M 126 31 = nh1 from enh1))]); (try rw [(show mG M 126 34 = nh2 from (show mG M 126 34 = nh2 from enh2))]); (try rw [(show mG M 126 38 = nh3 from (show mG M 126 38 = nh3 from enh3))]); (try rw [(show mG M 126 40 = nh4 from (show mG M 126 40 = nh4 from enh4))]); all_goals omega) (by (try rw [(show mG M 126 29 = nh0 from (show mG M 126 29 = nh0 from enh0))]); (try rw [(show mG M 126 31 = nh1 from (show mG M 126 31 = nh1 from enh1))]); (try rw [(show mG M 126 34 = nh2 from (show mG M 126 34 = nh2 from enh2))]); (try rw [(show mG M 126 38 = nh3 from (show mG M 126 38 = nh3 from enh3))]); (try rw [(show mG M 126 40 = nh4 from (show mG M 126 40 = nh4 from enh4))]); all_goals omega) (by (try rw [(show mG M 126 29 = nh0 from (show mG M 126 29 = nh0 from enh0))]); (try rw [(show mG M 126 31 = nh1 from (show mG M 126 31 = nh1 from enh1))]); (try rw [(show mG M 126 34 = nh2 from (show mG M 126 34 = nh2 from enh2))]); (try rw [(show mG M 126 38 = nh3 from (show mG M 126 38 = nh3 from enh3))]); (try rw [(show mG M 126 40 = nh4 from (show mG M 126 40 = nh4 from enh4))]); all_goals omega) iM kM
  · skip
    refine w_gFc (ji := 40) rfl (congrArg Prod.fst (kl_126 iM)) (show mG M 126 40 = nh4 from (show mG M 126 40 = nh4 from enh4)) ?_
    exact s_X9_readPart_36 ⟨by omega, by omega⟩ ⟨by omega, by omega⟩ (by (try rw [(show mG M 126 29 = nh0 from (show mG M 126 29 = nh0 from enh0))]); (try rw [(show mG M 126 31 = nh1 from (show mG M 126 31 = nh1 from enh1))]); (try rw [(show mG M 126 34 = nh2 from (show mG M 126 34 = nh2 from enh2))]); (try rw [(show mG M 126 38 = nh3 from (show mG M 126 38 = nh3 from enh3))]); (try rw [(show mG M 126 40 = nh4 from (show mG M 126 40 = nh4 from enh4))]); all_goals omega) (by (try rw [(show mG M 126 29 = nh0 from (show mG M 126 29 = nh0 from enh0))]); (try rw [(show mG M 126 31 = nh1 from (show mG M 126 31 = nh1 from enh1))]); (try rw [(show mG M 126 34 = nh2 from (show mG M 126 34 = nh2 from enh2))]); (try rw [(show mG M 126 38 = nh3 from (show mG M 126 38 = nh3 from enh3))]); (try rw [(show mG M 126 40 = nh4 from (show mG M 126 40 = nh4 from enh4))]); all_goals omega) (by (try rw [(show mG M 126 29 = nh0 from (show mG M 126 29 = nh0 from enh0))]); (try rw [(show mG M 126 31 = nh1 from (show mG M 126 31 = nh1 from enh1))]); (try rw [(show mG M 126 34 = nh2 from (show mG M 126 34 = nh2 from enh2))]); (try rw [(show mG M 126 38 = nh3 from (show mG M 126 38 = nh3 from enh3))]); (try rw [(show mG M 126 40 = nh4 from (show mG M 126 40 = nh4 from enh4))]); all_goals omega) (by (try rw [(show mG M 126 29 = nh0 from (show mG M 126 29 = nh0 from enh0))]); (try rw [(show mG M 126 31 = nh1 from (show mG M 126 31 = nh1 from enh1))]); (try rw [(show mG M 126 34 = nh2 from (show mG M 126 34 = nh2 from enh2))]); (try rw [(show mG M 126 38 = nh3 from (show mG M 126 38 = nh3 from enh3))]); (try rw [(show mG M 126 40 = nh4 from (show mG M 126 40 = nh4 from enh4))]); all_goals omega) (by (try rw [(show mG M 126 29 = nh0 from (show mG M 126 29 = nh0 from enh0))]); (try rw [(show mG M 126 31 = nh1 from (show mG M 126 31 = nh1 from enh1))]); (try rw [(show mG M 126 34 = nh2 from (show mG M 126 34 = nh2 from enh2))]); (try rw [(show mG M 126 38 = nh3 from (show mG M 126 38 = nh3 from enh3))]); (try rw [(show mG M 126 40 = nh4 from (show mG M 126 40 = nh4 from enh4))]); all_goals omega) iM kM
theorem s_X9_readPart {n : Nat} {l1 : Int} {M : Mem} (r_l1 : (-2147483648) ≤ l1 ∧ l1 ≤ 2147483647) (y0 : mG M 126 29 = mG M 126 29) (y1 : mG M 126 31 ≤ mG M 126 29) (y2 : mG M 126 34 = 0 ∨ mG M 126 31 < mG M 126 29) (y3 : mG M 126 38 ≤ 418) (y4 : mG M 126 40 ≤ 401) (iM : I n M) : wp (mX9_readPart 126 l1 M) (fun q => I n q.2 ∧ Keep n W_X9_readPart M q.2 ∧ (0 ≤ q.1 ∧ q.1 ≤ 1) ∧ (mG M 126 31 ≤ mG q.2 126 31 ∧ mG q.2 126 31 ≤ mG q.2 126 29 ∧ (mG q.2 126 34 = 0 ∨ mG q.2 126 31 < mG q.2 126 29)) ∧ (q.1 = 1 → mG M 126 31 < mG q.2 126 31) ∧ (mG q.2 126 38 ≤ mG M 126 38 + 2) ∧ (mG q.2 126 40 = mG M 126 40 + 1) ∧ True) := by
  have hn : (169 : Int) ≤ (n : Int) := by have := iM.2.2.2.2.1; omega
  have kM : Keep n W_X9_readPart M M := Keep.rf
  obtain ⟨nh0, enh0⟩ : ∃ v, Is (mG M 126 29) v := ⟨_, rfl⟩
  have rnh0 : 0 ≤ nh0 ∧ nh0 ≤ 400 := by rw [← enh0.e]; exact rd_Model_29 iM rfl
  have qnh0 : mG M 126 29 = nh0 := enh0
  (try rw [enh0.e] at y0); (try rw [enh0.e] at y1); (try rw [enh0.e] at y2); (try rw [enh0.e] at y3); (try rw [enh0.e] at y4)
  obtain ⟨nh1, enh1⟩ : ∃ v, Is (mG M 126 31) v := ⟨_, rfl⟩
  have rnh1 : 0 ≤ nh1 ∧ nh1 ≤ 400 := by rw [← enh1.e]; exact rd_Model_31 iM rfl
  have qnh1 : mG M 126 31 = nh1 := enh1
  (try rw [enh1.e] at y0); (try rw [enh1.e] at y1); (try rw [enh1.e] at y2); (try rw [enh1.e] at y3); (try rw [enh1.e] at y4)
  obtain ⟨nh2, enh2⟩ : ∃ v, Is (mG M 126 34) v := ⟨_, rfl⟩
  have qnh2 : mG M 126 34 = nh2 := enh2
  (try rw [enh2.e] at y0); (try rw [enh2.e] at y1); (try rw [enh2.e] at y2); (try rw [enh2.e] at y3); (try rw [enh2.e] at y4)
  obtain ⟨nh3, enh3⟩ : ∃ v, Is (mG M 126 38) v := ⟨_, rfl⟩
  have rnh3 : 0 ≤ nh3 ∧ nh3 ≤ 420 := by rw [← enh3.e]; exact rd_Model_38 iM rfl
  have qnh3 : mG M 126 38 = nh3 := enh3
  (try rw [enh3.e] at y0); (try rw [enh3.e] at y1); (try rw [enh3.e] at y2); (try rw [enh3.e] at y3); (try rw [enh3.e] at y4)
  obtain ⟨nh4, enh4⟩ : ∃ v, Is (mG M 126 40) v := ⟨_, rfl⟩
  have rnh4 : 0 ≤ nh4 ∧ nh4 ≤ 402 := by rw [← enh4.e]; exact rd_Model_40 iM rfl
  have qnh4 : mG M 126 40 = nh4 := enh4
  (try rw [enh4.e] at y0); (try rw [enh4.e] at y1); (try rw [enh4.e] at y2); (try rw [enh4.e] at y3); (try rw [enh4.e] at y4)
  unfold mX9_readPart
  refine w_gFc (ji := 40) rfl (congrArg Prod.fst (kl_126 iM)) (show mG M 126 40 = nh4 from (show mG M 126 40 = nh4 from enh4)) ?_
  refine w_if (fun c1_ => ?_) (fun c1_ => ?_)
  · skip
    refine w_gFc (ji := 31) rfl (congrArg Prod.fst (kl_126 iM)) (show mG M 126 31 = nh1 from (show mG M 126 31 = nh1 from enh1)) ?_
    refine w_gK (congrArg Prod.fst (kl_126 iM)) ?_
    refine w_call (s_X9_later ⟨by omega, by omega⟩ ⟨by omega, by omega⟩ iM) ?_
    intro v15 m15 pp15
    obtain ⟨im15, kk15, -⟩ := pp15
    try dsimp only
    replace im15 : I n m15 := im15
    replace kk15 : Keep n W_X9_later M m15 := kk15
    have km15 : Keep n W_X9_readPart M m15 := kM.tr kk15 (fun b j z => Or.elim z (fun z => (Or.inr (Or.inr (Or.inr (Or.inr (Or.inr (Or.inr (Or.inr (Or.inl z))))))))) (fun z => (Or.inr (Or.inr (Or.inr (Or.inr (Or.inr (Or.inr (Or.inr (Or.inr (Or.inl z)))))))))))
    exact s_X9_readPart_18 ⟨by omega, by omega⟩ (by (try rw [(show mG m15 126 29 = nh0 from ((kk15.2.2 126 29 (by omega) (fun z => by unfold W_X9_later at z; (try unfold isWS at z); (try unfold isShape at z); (try unfold isTold at z); (try dsimp only at z); omega)).trans (show mG M 126 29 = nh0 from enh0)))]); (try rw [(show mG m15 126 31 = nh1 from ((kk15.2.2 126 31 (by omega) (fun z => by unfold W_X9_later at z; (try unfold isWS at z); (try unfold isShape at z); (try unfold isTold at z); (try dsimp only at z); omega)).trans (show mG M 126 31 = nh1 from enh1)))]); (try rw [(show mG m15 126 34 = nh2 from ((kk15.2.2 126 34 (by omega) (fun z => by unfold W_X9_later at z; (try unfold isWS at z); (try unfold isShape at z); (try unfold isTold at z); (try dsimp only at z); omega)).trans (show mG M 126 34 = nh2 from enh2)))]); (try rw [(show mG m15 126 38 = nh3 from ((kk15.2.2 126 38 (by omega) (fun z => by unfold W_X9_later at z; (try unfold isWS at z); (try unfold isShape at z); (try unfold isTold at z); (try dsimp only at z); omega)).trans (show mG M 126 38 = nh3 from enh3)))]); (try rw [(show mG m15 126 40 = nh4 from ((kk15.2.2 126 40 (by omega) (fun z => by unfold W_X9_later at z; (try unfold isWS at z); (try unfold isShape at z); (try unfold isTold at z); (try dsimp only at z); omega)).trans (show mG M 126 40 = nh4 from enh4)))]); all_goals omega) (by (try rw [(show mG m15 126 29 = nh0 from ((kk15.2.2 126 29 (by omega) (fun z => by unfold W_X9_later at z; (try unfold isWS at z); (try unfold isShape at z); (try unfold isTold at z); (try dsimp only at z); omega)).trans (show mG M 126 29 = nh0 from enh0)))]); (try rw [(show mG m15 126 31 = nh1 from ((kk15.2.2 126 31 (by omega) (fun z => by unfold W_X9_later at z; (try unfold isWS at z); (try unfold isShape at z); (try unfold isTold at z); (try dsimp only at z); omega)).trans (show mG M 126 31 = nh1 from enh1)))]); (try rw [(show mG m15 126 34 = nh2 from ((kk15.2.2 126 34 (by omega) (fun z => by unfold W_X9_later at z; (try unfold isWS at z); (try unfold isShape at z); (try unfold isTold at z); (try dsimp only at z); omega)).trans (show mG M 126 34 = nh2 from enh2)))]); (try rw [(show mG m15 126 38 = nh3 from ((kk15.2.2 126 38 (by omega) (fun z => by unfold W_X9_later at z; (try unfold isWS at z); (try unfold isShape at z); (try unfold isTold at z); (try dsimp only at z); omega)).trans (show mG M 126 38 = nh3 from enh3)))]); (try rw [(show mG m15 126 40 = nh4 from ((kk15.2.2 126 40 (by omega) (fun z => by unfold W_X9_later at z; (try unfold isWS at z); (try unfold isShape at z); (try unfold isTold at z); (try dsimp only at z); omega)).trans (show mG M 126 40 = nh4 from enh4)))]); all_goals omega) (by (try rw [(show mG m15 126 29 = nh0 from ((kk15.2.2 126 29 (by omega) (fun z => by unfold W_X9_later at z; (try unfold isWS at z); (try unfold isShape at z); (try unfold isTold at z); (try dsimp only at z); omega)).trans (show mG M 126 29 = nh0 from enh0)))]); (try rw [(show mG m15 126 31 = nh1 from ((kk15.2.2 126 31 (by omega) (fun z => by unfold W_X9_later at z; (try unfold isWS at z); (try unfold isShape at z); (try unfold isTold at z); (try dsimp only at z); omega)).trans (show mG M 126 31 = nh1 from enh1)))]); (try rw [(show mG m15 126 34 = nh2 from ((kk15.2.2 126 34 (by omega) (fun z => by unfold W_X9_later at z; (try unfold isWS at z); (try unfold isShape at z); (try unfold isTold at z); (try dsimp only at z); omega)).trans (show mG M 126 34 = nh2 from enh2)))]); (try rw [(show mG m15 126 38 = nh3 from ((kk15.2.2 126 38 (by omega) (fun z => by unfold W_X9_later at z; (try unfold isWS at z); (try unfold isShape at z); (try unfold isTold at z); (try dsimp only at z); omega)).trans (show mG M 126 38 = nh3 from enh3)))]); (try rw [(show mG m15 126 40 = nh4 from ((kk15.2.2 126 40 (by omega) (fun z => by unfold W_X9_later at z; (try unfold isWS at z); (try unfold isShape at z); (try unfold isTold at z); (try dsimp only at z); omega)).trans (show mG M 126 40 = nh4 from enh4)))]); all_goals omega) (by (try rw [(show mG m15 126 29 = nh0 from ((kk15.2.2 126 29 (by omega) (fun z => by unfold W_X9_later at z; (try unfold isWS at z); (try unfold isShape at z); (try unfold isTold at z); (try dsimp only at z); omega)).trans (show mG M 126 29 = nh0 from enh0)))]); (try rw [(show mG m15 126 31 = nh1 from ((kk15.2.2 126 31 (by omega) (fun z => by unfold W_X9_later at z; (try unfold isWS at z); (try unfold isShape at z); (try unfold isTold at z); (try dsimp only at z); omega)).trans (show mG M 126 31 = nh1 from enh1)))]); (try rw [(show mG m15 126 34 = nh2 from ((kk15.2.2 126 34 (by omega) (fun z => by unfold W_X9_later at z; (try unfold isWS at z); (try unfold isShape at z); (try unfold isTold at z); (try dsimp only at z); omega)).trans (show mG M 126 34 = nh2 from enh2)))]); (try rw [(show mG m15 126 38 = nh3 from ((kk15.2.2 126 38 (by omega) (fun z => by unfold W_X9_later at z; (try unfold isWS at z); (try unfold isShape at z); (try unfold isTold at z); (try dsimp only at z); omega)).trans (show mG M 126 38 = nh3 from enh3)))]); (try rw [(show mG m15 126 40 = nh4 from ((kk15.2.2 126 40 (by omega) (fun z => by unfold W_X9_later at z; (try unfold isWS at z); (try unfold isShape at z); (try unfold isTold at z); (try dsimp only at z); omega)).trans (show mG M 126 40 = nh4 from enh4)))]); all_goals omega) (by (try rw [(show mG m15 126 29 = nh0 from ((kk15.2.2 126 29 (by omega) (fun z => by unfold W_X9_later at z; (try unfold isWS at z); (try unfold isShape at z); (try unfold isTold at z); (try dsimp only at z); omega)).trans (show mG M 126 29 = nh0 from enh0)))]); (try rw [(show mG m15 126 31 = nh1 from ((kk15.2.2 126 31 (by omega) (fun z => by unfold W_X9_later at z; (try unfold isWS at z); (try unfold isShape at z); (try unfold isTold at z); (try dsimp only at z); omega)).trans (show mG M 126 31 = nh1 from enh1)))]); (try rw [(show mG m15 126 34 = nh2 from ((kk15.2.2 126 34 (by omega) (fun z => by unfold W_X9_later at z; (try unfold isWS at z); (try unfold isShape at z); (try unfold isTold at z); (try dsimp only at z); omega)).trans (show mG M 126 34 = nh2 from enh2)))]); (try rw [(show mG m15 126 38 = nh3 from ((kk15.2.2 126 38 (by omega) (fun z => by unfold W_X9_later at z; (try unfold isWS at z); (try unfold isShape at z); (try unfold isTold at z); (try dsimp only at z); omega)).trans (show mG M 126 38 = nh3 from enh3)))]); (try rw [(show mG m15 126 40 = nh4 from ((kk15.2.2 126 40 (by omega) (fun z => by unfold W_X9_later at z; (try unfold isWS at z); (try unfold isShape at z); (try unfold isTold at z); (try dsimp only at z); omega)).trans (show mG M 126 40 = nh4 from enh4)))]); all_goals omega) im15 km15
  · skip
    exact s_X9_readPart_18 ⟨by omega, by omega⟩ (by (try rw [(show mG M 126 29 = nh0 from (show mG M 126 29 = nh0 from enh0))]); (try rw [(show mG M 126 31 = nh1 from (show mG M 126 31 = nh1 from enh1))]); (try rw [(show mG M 126 34 = nh2 from (show mG M 126 34 = nh2 from enh2))]); (try rw [(show mG M 126 38 = nh3 from (show mG M 126 38 = nh3 from enh3))]); (try rw [(show mG M 126 40 = nh4 from (show mG M 126 40 = nh4 from enh4))]); all_goals omega) (by (try rw [(show mG M 126 29 = nh0 from (show mG M 126 29 = nh0 from enh0))]); (try rw [(show mG M 126 31 = nh1 from (show mG M 126 31 = nh1 from enh1))]); (try rw [(show mG M 126 34 = nh2 from (show mG M 126 34 = nh2 from enh2))]); (try rw [(show mG M 126 38 = nh3 from (show mG M 126 38 = nh3 from enh3))]); (try rw [(show mG M 126 40 = nh4 from (show mG M 126 40 = nh4 from enh4))]); all_goals omega) (by (try rw [(show mG M 126 29 = nh0 from (show mG M 126 29 = nh0 from enh0))]); (try rw [(show mG M 126 31 = nh1 from (show mG M 126 31 = nh1 from enh1))]); (try rw [(show mG M 126 34 = nh2 from (show mG M 126 34 = nh2 from enh2))]); (try rw [(show mG M 126 38 = nh3 from (show mG M 126 38 = nh3 from enh3))]); (try rw [(show mG M 126 40 = nh4 from (show mG M 126 40 = nh4 from enh4))]); all_goals omega) (by (try rw [(show mG M 126 29 = nh0 from (show mG M 126 29 = nh0 from enh0))]); (try rw [(show mG M 126 31 = nh1 from (show mG M 126 31 = nh1 from enh1))]); (try rw [(show mG M 126 34 = nh2 from (show mG M 126 34 = nh2 from enh2))]); (try rw [(show mG M 126 38 = nh3 from (show mG M 126 38 = nh3 from enh3))]); (try rw [(show mG M 126 40 = nh4 from (show mG M 126 40 = nh4 from enh4))]); all_goals omega) (by (try rw [(show mG M 126 29 = nh0 from (show mG M 126 29 = nh0 from enh0))]); (try rw [(show mG M 126 31 = nh1 from (show mG M 126 31 = nh1 from enh1))]); (try rw [(show mG M 126 34 = nh2 from (show mG M 126 34 = nh2 from enh2))]); (try rw [(show mG M 126 38 = nh3 from (show mG M 126 38 = nh3 from enh3))]); (try rw [(show mG M 126 40 = nh4 from (show mG M 126 40 = nh4 from enh4))]); all_goals omega) iM kM
