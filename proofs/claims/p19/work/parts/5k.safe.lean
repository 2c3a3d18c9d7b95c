def W_X8_near (b j : Int) : Prop := (21 ≤ b ∧ b ≤ 23) ∨ b = 33 ∨ b = 35 ∨ isWS (b - 1) ∨ (b = 2 ∧ j = 4) ∨ (b = 20 ∧ j = 0) ∨ (b = 20 ∧ j = 1) ∨ (b = 20 ∧ j = 5) ∨ (b = 3 ∧ j = 1) ∨ (b = 32 ∧ j = 1) ∨ (b = 32 ∧ j = 2) ∨ (b = 34 ∧ j = 1) ∨ (b = 34 ∧ j = 2) ∨ (isWS b ∧ j = 1) ∨ (isWS b ∧ j = 2)
theorem s_X8_near {n : Nat} {M : Mem} (iM : I n M) : wp (mX8_near 1 M) (fun q => I n q.2 ∧ Keep n W_X8_near M q.2 ∧ ((-1) ≤ q.1 ∧ q.1 ≤ 127) ∧ True) := by
  have hn : (169 : Int) ≤ (n : Int) := by have := iM.2.2.2.2.1; omega
  have kM : Keep n W_X8_near M M := Keep.rf
  unfold mX8_near
  refine w_gFc (ji := 0) rfl (congrArg Prod.fst (kl_1 iM)) (show mG M 1 0 = 2 from rd_VS_0 iM (a := 1) rfl) ?_
  refine w_gK (congrArg Prod.fst (kl_2 iM)) ?_
  refine w_call (s_X4_nearestWorld iM) ?_
  intro v4 m4 pp4
  obtain ⟨im4, kk4, e4_0, -⟩ := pp4
  try dsimp only
  replace im4 : I n m4 := im4
  replace kk4 : Keep n W_X4_nearestWorld M m4 := kk4
  have km4 : Keep n W_X8_near M m4 := kM.tr kk4 (fun b j z => Or.elim z (fun z => (Or.inl z)) (fun z => Or.elim z (fun z => (Or.inr (Or.inl z))) (fun z => Or.elim z (fun z => (Or.inr (Or.inr (Or.inl z)))) (fun z => Or.elim z (fun z => (Or.inr (Or.inr (Or.inr (Or.inl z))))) (fun z => Or.elim z (fun z => (Or.inr (Or.inr (Or.inr (Or.inr (Or.inl z)))))) (fun z => Or.elim z (fun z => (Or.inr (Or.inr (Or.inr (Or.inr (Or.inr (Or.inl z))))))) (fun z => Or.elim z (fun z => (Or.inr (Or.inr (Or.inr (Or.inr (Or.inr (Or.inr (Or.inl z)))))))) (fun z => Or.elim z (fun z => (Or.inr (Or.inr (Or.inr (Or.inr (Or.inr (Or.inr (Or.inr (Or.inl z))))))))) (fun z => Or.elim z (fun z => (Or.inr (Or.inr (Or.inr (Or.inr (Or.inr (Or.inr (Or.inr (Or.inr (Or.inr (Or.inl z))))))))))) (fun z => Or.elim z (fun z => (Or.inr (Or.inr (Or.inr (Or.inr (Or.inr (Or.inr (Or.inr (Or.inr (Or.inr (Or.inr (Or.inl z)))))))))))) (fun z => Or.elim z (fun z => (Or.inr (Or.inr (Or.inr (Or.inr (Or.inr (Or.inr (Or.inr (Or.inr (Or.inr (Or.inr (Or.inr (Or.inl z))))))))))))) (fun z => Or.elim z (fun z => (Or.inr (Or.inr (Or.inr (Or.inr (Or.inr (Or.inr (Or.inr (Or.inr (Or.inr (Or.inr (Or.inr (Or.inr (Or.inl z)))))))))))))) (fun z => Or.elim z (fun z => (Or.inr (Or.inr (Or.inr (Or.inr (Or.inr (Or.inr (Or.inr (Or.inr (Or.inr (Or.inr (Or.inr (Or.inr (Or.inr (Or.inl z))))))))))))))) (fun z => (Or.inr (Or.inr (Or.inr (Or.inr (Or.inr (Or.inr (Or.inr (Or.inr (Or.inr (Or.inr (Or.inr (Or.inr (Or.inr (Or.inr z))))))))))))))))))))))))))))
  replace e4_0 : (-1) ≤ v4 ∧ v4 ≤ 4095 := e4_0
  refine w_if (fun c1_ => ?_) (fun c1_ => ?_)
  · skip
    exact w_ret ⟨im4, km4, (show (-1) ≤ (-1) ∧ (-1) ≤ 127 from ⟨by omega, by omega⟩), trivial⟩
  · skip
    refine w_gFc (ji := 1) rfl (congrArg Prod.fst (kl_1 im4)) (show mG m4 1 1 = 3 from rd_VS_1 im4 (a := 1) rfl) ?_
    refine w_gF (ji := 1) rfl (congrArg Prod.fst (kl_3 im4)) (fun a19 ha19 => ?_)
    have w2_ := (rfl : i2l v4 = v4)
    refine w_call (s_J13_bitCount_95d88 im4) ?_
    intro v25 m25 pp25
    obtain ⟨im25, kk25, e25_0, -⟩ := pp25
    try dsimp only
    replace im25 : I n m25 := im25
    replace kk25 : Keep n W_J13_bitCount_95d88 m4 m25 := kk25
    have km25 : Keep n W_X8_near M m25 := km4.tr kk25 (fun b j z => z.elim)
    replace e25_0 : 0 ≤ v25 ∧ v25 ≤ 127 := e25_0
    refine w_gFc (ji := 1) rfl (congrArg Prod.fst (kl_1 im25)) (show mG m25 1 1 = 3 from rd_VS_1 im25 (a := 1) rfl) ?_
    refine w_pF (ji := 1) rfl (congrArg Prod.fst (kl_3 im25)) (fun M35 hM35 => ?_)
    replace hM35 : M35 = mS m25 3 1 (i2l v4) := hM35
    have iM35 : I n M35 := wr_Told_1 im25 rfl hM35
    have kM35 : Keep n W_X8_near M M35 := km25.st hM35 (Or.inl (Or.inr (Or.inr (Or.inr (Or.inr (Or.inr (Or.inr (Or.inr (Or.inr (Or.inl ⟨rfl, rfl⟩))))))))))
    obtain ⟨svM35, esvM35⟩ : ∃ z, z = (i2l v4) := ⟨_, rfl⟩
    exact w_ret ⟨iM35, kM35, (show (-1) ≤ v25 ∧ v25 ≤ 127 from ⟨by omega, by omega⟩), trivial⟩
def W_X4_countGuessWorlds (b j : Int) : Prop := (21 ≤ b ∧ b ≤ 23) ∨ b = 33 ∨ b = 35 ∨ isWS (b - 1) ∨ (b = 2 ∧ j = 4) ∨ (b = 20 ∧ j = 0) ∨ (b = 20 ∧ j = 1) ∨ (b = 20 ∧ j = 5) ∨ (b = 32 ∧ j = 1) ∨ (b = 32 ∧ j = 2) ∨ (b = 34 ∧ j = 1) ∨ (b = 34 ∧ j = 2) ∨ (isWS b ∧ j = 1) ∨ (isWS b ∧ j = 2)
theorem s_X4_countGuessWorlds {n : Nat} {M : Mem} (iM : I n M) : wp (mX4_countGuessWorlds 2 M) (fun q => I n q.2 ∧ Keep n W_X4_countGuessWorlds M q.2 ∧ ((-1) ≤ q.1 ∧ q.1 ≤ 8128) ∧ True) := by
  have hn : (169 : Int) ≤ (n : Int) := by have := iM.2.2.2.2.1; omega
  have kM : Keep n W_X4_countGuessWorlds M M := Keep.rf
  unfold mX4_countGuessWorlds
  refine w_gFc (ji := 0) rfl (congrArg Prod.fst (kl_2 iM)) (show mG M 2 0 = 3 from rd_Solver_0 iM (a := 2) rfl) ?_
  refine w_gF (ji := 12) rfl (congrArg Prod.fst (kl_3 iM)) (fun a4 ha4 => ?_)
  have xa4 : TX n M a4 := by rw [← ha4.e]; exact iM.2.2.1.2.1 3 (by unfold isTold; omega)
  refine w_if (fun c1_ => ?_) (fun c1_ => ?_)
  · skip
    exact w_ret ⟨iM, kM, (show (-1) ≤ (-1) ∧ (-1) ≤ 8128 from ⟨by omega, by omega⟩), trivial⟩
  · skip
    obtain ⟨q2_, m3_, t4_⟩ := TX.nn xa4 c1_
    refine w_gK (congrArg Prod.fst (kl_2 iM)) ?_
    refine w_call (s_X4_lookUp iM) ?_
    intro v11 m11 pp11
    obtain ⟨im11, kk11, e11_0, -⟩ := pp11
    try dsimp only
    replace im11 : I n m11 := im11
    replace kk11 : Keep n W_X4_lookUp M m11 := kk11
    have km11 : Keep n W_X4_countGuessWorlds M m11 := kM.tr kk11 (fun b j z => Or.elim z (fun z => (Or.inl z)) (fun z => Or.elim z (fun z => (Or.inr (Or.inl z))) (fun z => Or.elim z (fun z => (Or.inr (Or.inr (Or.inl z)))) (fun z => Or.elim z (fun z => (Or.inr (Or.inr (Or.inr (Or.inl z))))) (fun z => Or.elim z (fun z => (Or.inr (Or.inr (Or.inr (Or.inr (Or.inl z)))))) (fun z => Or.elim z (fun z => (Or.inr (Or.inr (Or.inr (Or.inr (Or.inr (Or.inl z))))))) (fun z => Or.elim z (fun z => (Or.inr (Or.inr (Or.inr (Or.inr (Or.inr (Or.inr (Or.inl z)))))))) (fun z => Or.elim z (fun z => (Or.inr (Or.inr (Or.inr (Or.inr (Or.inr (Or.inr (Or.inr (Or.inl z))))))))) (fun z => Or.elim z (fun z => (Or.inr (Or.inr (Or.inr (Or.inr (Or.inr (Or.inr (Or.inr (Or.inr (Or.inl z)))))))))) (fun z => Or.elim z (fun z => (Or.inr (Or.inr (Or.inr (Or.inr (Or.inr (Or.inr (Or.inr (Or.inr (Or.inr (Or.inl z))))))))))) (fun z => Or.elim z (fun z => (Or.inr (Or.inr (Or.inr (Or.inr (Or.inr (Or.inr (Or.inr (Or.inr (Or.inr (Or.inr (Or.inl z)))))))))))) (fun z => Or.elim z (fun z => (Or.inr (Or.inr (Or.inr (Or.inr (Or.inr (Or.inr (Or.inr (Or.inr (Or.inr (Or.inr (Or.inr (Or.inl z))))))))))))) (fun z => Or.elim z (fun z => (Or.inr (Or.inr (Or.inr (Or.inr (Or.inr (Or.inr (Or.inr (Or.inr (Or.inr (Or.inr (Or.inr (Or.inr (Or.inl z)))))))))))))) (fun z => (Or.inr (Or.inr (Or.inr (Or.inr (Or.inr (Or.inr (Or.inr (Or.inr (Or.inr (Or.inr (Or.inr (Or.inr (Or.inr z)))))))))))))))))))))))))))
    replace e11_0 : 0 ≤ v11 ∧ v11 ≤ 1 := e11_0
    refine w_if (fun c5_ => ?_) (fun c5_ => ?_)
    · skip
      exact w_ret ⟨im11, km11, (show (-1) ≤ (-1) ∧ (-1) ≤ 8128 from ⟨by omega, by omega⟩), trivial⟩
    · skip
      refine w_gFc (ji := 6) rfl (congrArg Prod.fst (kl_2 im11)) (show mG m11 2 6 = 34 from rd_Solver_6 im11 (a := 2) rfl) ?_
      refine w_gFc (ji := 0) rfl (congrArg Prod.fst (kl_2 im11)) (show mG m11 2 0 = 3 from rd_Solver_0 im11 (a := 2) rfl) ?_
      refine w_gFc (ji := 12) rfl (congrArg Prod.fst (kl_3 im11)) (show mG m11 3 12 = a4 from ((kk11.2.2 3 12 (by omega) (fun z => by unfold W_X4_lookUp at z; (try unfold isWS at z); (try unfold isShape at z); (try unfold isTold at z); (try dsimp only at z); omega)).trans (show mG M 3 12 = a4 from ha4))) ?_
      refine w_gK (congrArg Prod.fst (kl_2 im11)) ?_
      have x6_ : TX n m11 a4 := (TX.ot xa4 (otx_kp kk11 (fun b j z => by unfold W_X4_lookUp at z; (try unfold isWS at z); (try unfold isShape at z); (try unfold isTold at z); (try dsimp only at z); omega)))
      refine w_call (s_X4_truth ⟨by omega, by omega⟩ x6_ im11) ?_
      intro v33 m33 pp33
      obtain ⟨im33, kk33, e33_0, -⟩ := pp33
      try dsimp only
      replace im33 : I n m33 := im33
      replace kk33 : Keep n W_X4_truth m11 m33 := kk33
      have km33 : Keep n W_X4_countGuessWorlds M m33 := km11.tr kk33 (fun b j z => Or.elim z (fun z => (Or.inl z)) (fun z => Or.elim z (fun z => (Or.inr (Or.inr (Or.inr (Or.inl z))))) (fun z => Or.elim z (fun z => (Or.inr (Or.inr (Or.inr (Or.inr (Or.inl z)))))) (fun z => Or.elim z (fun z => (Or.inr (Or.inr (Or.inr (Or.inr (Or.inr (Or.inl z))))))) (fun z => Or.elim z (fun z => (Or.inr (Or.inr (Or.inr (Or.inr (Or.inr (Or.inr (Or.inl z)))))))) (fun z => Or.elim z (fun z => (Or.inr (Or.inr (Or.inr (Or.inr (Or.inr (Or.inr (Or.inr (Or.inl z))))))))) (fun z => Or.elim z (fun z => (Or.inr (Or.inr (Or.inr (Or.inr (Or.inr (Or.inr (Or.inr (Or.inr (Or.inr (Or.inr (Or.inr (Or.inr (Or.inl z)))))))))))))) (fun z => (Or.inr (Or.inr (Or.inr (Or.inr (Or.inr (Or.inr (Or.inr (Or.inr (Or.inr (Or.inr (Or.inr (Or.inr (Or.inr z)))))))))))))))))))))
      replace e33_0 : isWS v33 := e33_0
      have u_v33 := e33_0
      unfold isWS at u_v33
      refine w_gK (congrArg Prod.fst (kl_34 im33)) ?_
      refine w_call (s_X7_keepOnly (by unfold isWS; omega) e33_0 im33) ?_
      intro v36 m36 pp36
      obtain ⟨im36, kk36, -⟩ := pp36
      try dsimp only
      replace im36 : I n m36 := im36
      replace kk36 : Keep n (W_X7_keepOnly 34 v33) m33 m36 := kk36
      have km36 : Keep n W_X4_countGuessWorlds M m36 := km33.tr kk36 (fun b j z => by unfold W_X7_keepOnly at z; exact (Or.inr (Or.inr (Or.inl (by omega)))))
      refine w_gFc (ji := 6) rfl (congrArg Prod.fst (kl_2 im36)) (show mG m36 2 6 = 34 from rd_Solver_6 im36 (a := 2) rfl) ?_
      refine w_gK (congrArg Prod.fst (kl_34 im36)) ?_
      refine w_call (s_X7_count (by unfold isWS; omega) im36) ?_
      intro v43 m43 pp43
      obtain ⟨im43, kk43, e43_0, -⟩ := pp43
      try dsimp only
      replace im43 : I n m43 := im43
      replace kk43 : Keep n (W_X7_count 34) m36 m43 := kk43
      have km43 : Keep n W_X4_countGuessWorlds M m43 := km36.tr kk43 (fun b j z => z.elim)
      replace e43_0 : 0 ≤ v43 ∧ v43 ≤ 8128 := e43_0
      exact w_ret ⟨im43, km43, (show (-1) ≤ v43 ∧ v43 ≤ 8128 from ⟨by omega, by omega⟩), trivial⟩
def W_X4_countGuessForms (b j : Int) : Prop := (21 ≤ b ∧ b ≤ 23) ∨ (25 ≤ b ∧ b ≤ 26) ∨ b = 28 ∨ b = 30 ∨ b = 33 ∨ b = 35 ∨ b = 37 ∨ isWS (b - 1) ∨ (b = 2 ∧ j = 4) ∨ (b = 20 ∧ j = 0) ∨ (b = 20 ∧ j = 1) ∨ (b = 20 ∧ j = 5) ∨ (b = 24 ∧ j = 4) ∨ (b = 24 ∧ j = 5) ∨ (b = 24 ∧ j = 6) ∨ (b = 24 ∧ j = 7) ∨ (b = 27 ∧ j = 1) ∨ (b = 27 ∧ j = 2) ∨ (b = 29 ∧ j = 1) ∨ (b = 29 ∧ j = 2) ∨ (b = 32 ∧ j = 1) ∨ (b = 32 ∧ j = 2) ∨ (b = 34 ∧ j = 1) ∨ (b = 34 ∧ j = 2) ∨ (b = 36 ∧ j = 1) ∨ (b = 36 ∧ j = 2) ∨ (isWS b ∧ j = 1) ∨ (isWS b ∧ j = 2)
theorem s_X4_countGuessForms {n : Nat} {M : Mem} (iM : I n M) : wp (mX4_countGuessForms 2 M) (fun q => I n q.2 ∧ Keep n W_X4_countGuessForms M q.2 ∧ ((-1) ≤ q.1 ∧ q.1 ≤ 8128) ∧ True) := by
  have hn : (169 : Int) ≤ (n : Int) := by have := iM.2.2.2.2.1; omega
  have kM : Keep n W_X4_countGuessForms M M := Keep.rf
  unfold mX4_countGuessForms
  refine w_gFc (ji := 0) rfl (congrArg Prod.fst (kl_2 iM)) (show mG M 2 0 = 3 from rd_Solver_0 iM (a := 2) rfl) ?_
  refine w_gF (ji := 12) rfl (congrArg Prod.fst (kl_3 iM)) (fun a4 ha4 => ?_)
  have xa4 : TX n M a4 := by rw [← ha4.e]; exact iM.2.2.1.2.1 3 (by unfold isTold; omega)
  refine w_if (fun c1_ => ?_) (fun c1_ => ?_)
  · skip
    exact w_ret ⟨iM, kM, (show (-1) ≤ (-1) ∧ (-1) ≤ 8128 from ⟨by omega, by omega⟩), trivial⟩
  · skip
    obtain ⟨q2_, m3_, t4_⟩ := TX.nn xa4 c1_
    refine w_gK (congrArg Prod.fst (kl_2 iM)) ?_
    refine w_call (s_X4_lookUp iM) ?_
    intro v11 m11 pp11
    obtain ⟨im11, kk11, e11_0, -⟩ := pp11
    try dsimp only
    replace im11 : I n m11 := im11
    replace kk11 : Keep n W_X4_lookUp M m11 := kk11
    have km11 : Keep n W_X4_countGuessForms M m11 := kM.tr kk11 (fun b j z => Or.elim z (fun z => (Or.inl z)) (fun z => Or.elim z (fun z => (Or.inr (Or.inr (Or.inr (Or.inr (Or.inl z)))))) (fun z => Or.elim z (fun z => (Or.inr (Or.inr (Or.inr (Or.inr (Or.inr (Or.inl z))))))) (fun z => Or.elim z (fun z => (Or.inr (Or.inr (Or.inr (Or.inr (Or.inr (Or.inr (Or.inr (Or.inl z))))))))) (fun z => Or.elim z (fun z => (Or.inr (Or.inr (Or.inr (Or.inr (Or.inr (Or.inr (Or.inr (Or.inr (Or.inl z)))))))))) (fun z => Or.elim z (fun z => (Or.inr (Or.inr (Or.inr (Or.inr (Or.inr (Or.inr (Or.inr (Or.inr (Or.inr (Or.inl z))))))))))) (fun z => Or.elim z (fun z => (Or.inr (Or.inr (Or.inr (Or.inr (Or.inr (Or.inr (Or.inr (Or.inr (Or.inr (Or.inr (Or.inl z)))))))))))) (fun z => Or.elim z (fun z => (Or.inr (Or.inr (Or.inr (Or.inr (Or.inr (Or.inr (Or.inr (Or.inr (Or.inr (Or.inr (Or.inr (Or.inl z))))))))))))) (fun z => Or.elim z (fun z => (Or.inr (Or.inr (Or.inr (Or.inr (Or.inr (Or.inr (Or.inr (Or.inr (Or.inr (Or.inr (Or.inr (Or.inr (Or.inr (Or.inr (Or.inr (Or.inr (Or.inr (Or.inr (Or.inr (Or.inr (Or.inl z)))))))))))))))))))))) (fun z => Or.elim z (fun z => (Or.inr (Or.inr (Or.inr (Or.inr (Or.inr (Or.inr (Or.inr (Or.inr (Or.inr (Or.inr (Or.inr (Or.inr (Or.inr (Or.inr (Or.inr (Or.inr (Or.inr (Or.inr (Or.inr (Or.inr (Or.inr (Or.inl z))))))))))))))))))))))) (fun z => Or.elim z (fun z => (Or.inr (Or.inr (Or.inr (Or.inr (Or.inr (Or.inr (Or.inr (Or.inr (Or.inr (Or.inr (Or.inr (Or.inr (Or.inr (Or.inr (Or.inr (Or.inr (Or.inr (Or.inr (Or.inr (Or.inr (Or.inr (Or.inr (Or.inl z)))))))))))))))))))))))) (fun z => Or.elim z (fun z => (Or.inr (Or.inr (Or.inr (Or.inr (Or.inr (Or.inr (Or.inr (Or.inr (Or.inr (Or.inr (Or.inr (Or.inr (Or.inr (Or.inr (Or.inr (Or.inr (Or.inr (Or.inr (Or.inr (Or.inr (Or.inr (Or.inr (Or.inr (Or.inl z))))))))))))))))))))))))) (fun z => Or.elim z (fun z => (Or.inr (Or.inr (Or.inr (Or.inr (Or.inr (Or.inr (Or.inr (Or.inr (Or.inr (Or.inr (Or.inr (Or.inr (Or.inr (Or.inr (Or.inr (Or.inr (Or.inr (Or.inr (Or.inr (Or.inr (Or.inr (Or.inr (Or.inr (Or.inr (Or.inr (Or.inr (Or.inl z)))))))))))))))))))))))))))) (fun z => (Or.inr (Or.inr (Or.inr (Or.inr (Or.inr (Or.inr (Or.inr (Or.inr (Or.inr (Or.inr (Or.inr (Or.inr (Or.inr (Or.inr (Or.inr (Or.inr (Or.inr (Or.inr (Or.inr (Or.inr (Or.inr (Or.inr (Or.inr (Or.inr (Or.inr (Or.inr (Or.inr z)))))))))))))))))))))))))))))))))))))))))
    replace e11_0 : 0 ≤ v11 ∧ v11 ≤ 1 := e11_0
    refine w_if (fun c5_ => ?_) (fun c5_ => ?_)
    · skip
      exact w_ret ⟨im11, km11, (show (-1) ≤ (-1) ∧ (-1) ≤ 8128 from ⟨by omega, by omega⟩), trivial⟩
    · skip
      refine w_gK (congrArg Prod.fst (kl_2 im11)) ?_
      refine w_call (s_X4_pickForms im11) ?_
      intro v20 m20 pp20
      obtain ⟨im20, kk20, -⟩ := pp20
      try dsimp only
      replace im20 : I n m20 := im20
      replace kk20 : Keep n W_X4_pickForms m11 m20 := kk20
      have km20 : Keep n W_X4_countGuessForms M m20 := km11.tr kk20 (fun b j z => Or.elim z (fun z => (Or.inr (Or.inl z))) (fun z => Or.elim z (fun z => (Or.inr (Or.inr (Or.inl z)))) (fun z => Or.elim z (fun z => (Or.inr (Or.inr (Or.inr (Or.inl z))))) (fun z => Or.elim z (fun z => (Or.inr (Or.inr (Or.inr (Or.inr (Or.inr (Or.inr (Or.inl z)))))))) (fun z => Or.elim z (fun z => (Or.inr (Or.inr (Or.inr (Or.inr (Or.inr (Or.inr (Or.inr (Or.inr (Or.inr (Or.inr (Or.inr (Or.inr (Or.inl z)))))))))))))) (fun z => Or.elim z (fun z => (Or.inr (Or.inr (Or.inr (Or.inr (Or.inr (Or.inr (Or.inr (Or.inr (Or.inr (Or.inr (Or.inr (Or.inr (Or.inr (Or.inl z))))))))))))))) (fun z => Or.elim z (fun z => (Or.inr (Or.inr (Or.inr (Or.inr (Or.inr (Or.inr (Or.inr (Or.inr (Or.inr (Or.inr (Or.inr (Or.inr (Or.inr (Or.inr (Or.inl z)))))))))))))))) (fun z => Or.elim z (fun z => (Or.inr (Or.inr (Or.inr (Or.inr (Or.inr (Or.inr (Or.inr (Or.inr (Or.inr (Or.inr (Or.inr (Or.inr (Or.inr (Or.inr (Or.inr (Or.inl z))))))))))))))))) (fun z => Or.elim z (fun z => (Or.inr (Or.inr (Or.inr (Or.inr (Or.inr (Or.inr (Or.inr (Or.inr (Or.inr (Or.inr (Or.inr (Or.inr (Or.inr (Or.inr (Or.inr (Or.inr (Or.inl z)))))))))))))))))) (fun z => Or.elim z (fun z => (Or.inr (Or.inr (Or.inr (Or.inr (Or.inr (Or.inr (Or.inr (Or.inr (Or.inr (Or.inr (Or.inr (Or.inr (Or.inr (Or.inr (Or.inr (Or.inr (Or.inr (Or.inl z))))))))))))))))))) (fun z => Or.elim z (fun z => (Or.inr (Or.inr (Or.inr (Or.inr (Or.inr (Or.inr (Or.inr (Or.inr (Or.inr (Or.inr (Or.inr (Or.inr (Or.inr (Or.inr (Or.inr (Or.inr (Or.inr (Or.inr (Or.inl z)))))))))))))))))))) (fun z => Or.elim z (fun z => (Or.inr (Or.inr (Or.inr (Or.inr (Or.inr (Or.inr (Or.inr (Or.inr (Or.inr (Or.inr (Or.inr (Or.inr (Or.inr (Or.inr (Or.inr (Or.inr (Or.inr (Or.inr (Or.inr (Or.inl z))))))))))))))))))))) (fun z => Or.elim z (fun z => (Or.inr (Or.inr (Or.inr (Or.inr (Or.inr (Or.inr (Or.inr (Or.inr (Or.inr (Or.inr (Or.inr (Or.inr (Or.inr (Or.inr (Or.inr (Or.inr (Or.inr (Or.inr (Or.inr (Or.inr (Or.inr (Or.inr (Or.inr (Or.inr (Or.inl z)))))))))))))))))))))))))) (fun z => (Or.inr (Or.inr (Or.inr (Or.inr (Or.inr (Or.inr (Or.inr (Or.inr (Or.inr (Or.inr (Or.inr (Or.inr (Or.inr (Or.inr (Or.inr (Or.inr (Or.inr (Or.inr (Or.inr (Or.inr (Or.inr (Or.inr (Or.inr (Or.inr (Or.inr (Or.inl z))))))))))))))))))))))))))))))))))))))))
      refine w_gFc (ji := 7) rfl (congrArg Prod.fst (kl_2 im20)) (show mG m20 2 7 = 36 from rd_Solver_7 im20 (a := 2) rfl) ?_
      refine w_gFc (ji := 0) rfl (congrArg Prod.fst (kl_2 im20)) (show mG m20 2 0 = 3 from rd_Solver_0 im20 (a := 2) rfl) ?_
      refine w_gFc (ji := 12) rfl (congrArg Prod.fst (kl_3 im20)) (show mG m20 3 12 = a4 from ((kk20.2.2 3 12 (by omega) (fun z => by unfold W_X4_pickForms at z; (try unfold isWS at z); (try unfold isShape at z); (try unfold isTold at z); (try dsimp only at z); omega)).trans ((kk11.2.2 3 12 (by omega) (fun z => by unfold W_X4_lookUp at z; (try unfold isWS at z); (try unfold isShape at z); (try unfold isTold at z); (try dsimp only at z); omega)).trans (show mG M 3 12 = a4 from ha4)))) ?_
      refine w_gK (congrArg Prod.fst (kl_2 im20)) ?_
      have x6_ : TX n m20 a4 := (TX.ot (TX.ot xa4 (otx_kp kk11 (fun b j z => by unfold W_X4_lookUp at z; (try unfold isWS at z); (try unfold isShape at z); (try unfold isTold at z); (try dsimp only at z); omega))) (otx_kp kk20 (fun b j z => by unfold W_X4_pickForms at z; (try unfold isWS at z); (try unfold isShape at z); (try unfold isTold at z); (try dsimp only at z); omega)))
      refine w_call (s_X4_truth ⟨by omega, by omega⟩ x6_ im20) ?_
      intro v37 m37 pp37
      obtain ⟨im37, kk37, e37_0, -⟩ := pp37
      try dsimp only
      replace im37 : I n m37 := im37
      replace kk37 : Keep n W_X4_truth m20 m37 := kk37
      have km37 : Keep n W_X4_countGuessForms M m37 := km20.tr kk37 (fun b j z => Or.elim z (fun z => (Or.inl z)) (fun z => Or.elim z (fun z => (Or.inr (Or.inr (Or.inr (Or.inr (Or.inr (Or.inr (Or.inr (Or.inl z))))))))) (fun z => Or.elim z (fun z => (Or.inr (Or.inr (Or.inr (Or.inr (Or.inr (Or.inr (Or.inr (Or.inr (Or.inl z)))))))))) (fun z => Or.elim z (fun z => (Or.inr (Or.inr (Or.inr (Or.inr (Or.inr (Or.inr (Or.inr (Or.inr (Or.inr (Or.inl z))))))))))) (fun z => Or.elim z (fun z => (Or.inr (Or.inr (Or.inr (Or.inr (Or.inr (Or.inr (Or.inr (Or.inr (Or.inr (Or.inr (Or.inl z)))))))))))) (fun z => Or.elim z (fun z => (Or.inr (Or.inr (Or.inr (Or.inr (Or.inr (Or.inr (Or.inr (Or.inr (Or.inr (Or.inr (Or.inr (Or.inl z))))))))))))) (fun z => Or.elim z (fun z => (Or.inr (Or.inr (Or.inr (Or.inr (Or.inr (Or.inr (Or.inr (Or.inr (Or.inr (Or.inr (Or.inr (Or.inr (Or.inr (Or.inr (Or.inr (Or.inr (Or.inr (Or.inr (Or.inr (Or.inr (Or.inr (Or.inr (Or.inr (Or.inr (Or.inr (Or.inr (Or.inl z)))))))))))))))))))))))))))) (fun z => (Or.inr (Or.inr (Or.inr (Or.inr (Or.inr (Or.inr (Or.inr (Or.inr (Or.inr (Or.inr (Or.inr (Or.inr (Or.inr (Or.inr (Or.inr (Or.inr (Or.inr (Or.inr (Or.inr (Or.inr (Or.inr (Or.inr (Or.inr (Or.inr (Or.inr (Or.inr (Or.inr z)))))))))))))))))))))))))))))))))))
      replace e37_0 : isWS v37 := e37_0
      have u_v37 := e37_0
      unfold isWS at u_v37
      refine w_gK (congrArg Prod.fst (kl_36 im37)) ?_
      refine w_call (s_X7_keepOnly (by unfold isWS; omega) e37_0 im37) ?_
      intro v40 m40 pp40
      obtain ⟨im40, kk40, -⟩ := pp40
      try dsimp only
      replace im40 : I n m40 := im40
      replace kk40 : Keep n (W_X7_keepOnly 36 v37) m37 m40 := kk40
      have km40 : Keep n W_X4_countGuessForms M m40 := km37.tr kk40 (fun b j z => by unfold W_X7_keepOnly at z; exact (Or.inr (Or.inr (Or.inr (Or.inr (Or.inr (Or.inr (Or.inl (by omega)))))))))
      refine w_gFc (ji := 7) rfl (congrArg Prod.fst (kl_2 im40)) (show mG m40 2 7 = 36 from rd_Solver_7 im40 (a := 2) rfl) ?_
      refine w_gK (congrArg Prod.fst (kl_36 im40)) ?_
      refine w_call (s_X7_count (by unfold isWS; omega) im40) ?_
      intro v47 m47 pp47
      obtain ⟨im47, kk47, e47_0, -⟩ := pp47
      try dsimp only
      replace im47 : I n m47 := im47
      replace kk47 : Keep n (W_X7_count 36) m40 m47 := kk47
      have km47 : Keep n W_X4_countGuessForms M m47 := km40.tr kk47 (fun b j z => z.elim)
      replace e47_0 : 0 ≤ v47 ∧ v47 ≤ 8128 := e47_0
      exact w_ret ⟨im47, km47, (show (-1) ≤ v47 ∧ v47 ≤ 8128 from ⟨by omega, by omega⟩), trivial⟩
def W_X8_holds (b j : Int) : Prop := (21 ≤ b ∧ b ≤ 23) ∨ (25 ≤ b ∧ b ≤ 26) ∨ b = 28 ∨ b = 30 ∨ b = 33 ∨ b = 35 ∨ b = 37 ∨ isWS (b - 1) ∨ (b = 2 ∧ j = 4) ∨ (b = 20 ∧ j = 0) ∨ (b = 20 ∧ j = 1) ∨ (b = 20 ∧ j = 5) ∨ (b = 24 ∧ j = 4) ∨ (b = 24 ∧ j = 5) ∨ (b = 24 ∧ j = 6) ∨ (b = 24 ∧ j = 7) ∨ (b = 27 ∧ j = 1) ∨ (b = 27 ∧ j = 2) ∨ (b = 29 ∧ j = 1) ∨ (b = 29 ∧ j = 2) ∨ (b = 32 ∧ j = 1) ∨ (b = 32 ∧ j = 2) ∨ (b = 34 ∧ j = 1) ∨ (b = 34 ∧ j = 2) ∨ (b = 36 ∧ j = 1) ∨ (b = 36 ∧ j = 2) ∨ (isWS b ∧ j = 1) ∨ (isWS b ∧ j = 2)
theorem s_X8_holds {n : Nat} {l1 : Int} {M : Mem} (r_l1 : (-2147483648) ≤ l1 ∧ l1 ≤ 2147483647) (iM : I n M) : wp (mX8_holds 1 l1 M) (fun q => I n q.2 ∧ Keep n W_X8_holds M q.2 ∧ ((-1) ≤ q.1 ∧ q.1 ≤ 8128) ∧ True) := by
  have hn : (169 : Int) ≤ (n : Int) := by have := iM.2.2.2.2.1; omega
  have kM : Keep n W_X8_holds M M := Keep.rf
  unfold mX8_holds
  refine w_if (fun c1_ => ?_) (fun c1_ => ?_)
  · skip
    refine w_gFc (ji := 0) rfl (congrArg Prod.fst (kl_1 iM)) (show mG M 1 0 = 2 from rd_VS_0 iM (a := 1) rfl) ?_
    refine w_gK (congrArg Prod.fst (kl_2 iM)) ?_
    refine w_call (s_X4_countGuessWorlds iM) ?_
    intro v32 m32 pp32
    obtain ⟨im32, kk32, e32_0, -⟩ := pp32
    try dsimp only
    replace im32 : I n m32 := im32
    replace kk32 : Keep n W_X4_countGuessWorlds M m32 := kk32
    have km32 : Keep n W_X8_holds M m32 := kM.tr kk32 (fun b j z => Or.elim z (fun z => (Or.inl z)) (fun z => Or.elim z (fun z => (Or.inr (Or.inr (Or.inr (Or.inr (Or.inl z)))))) (fun z => Or.elim z (fun z => (Or.inr (Or.inr (Or.inr (Or.inr (Or.inr (Or.inl z))))))) (fun z => Or.elim z (fun z => (Or.inr (Or.inr (Or.inr (Or.inr (Or.inr (Or.inr (Or.inr (Or.inl z))))))))) (fun z => Or.elim z (fun z => (Or.inr (Or.inr (Or.inr (Or.inr (Or.inr (Or.inr (Or.inr (Or.inr (Or.inl z)))))))))) (fun z => Or.elim z (fun z => (Or.inr (Or.inr (Or.inr (Or.inr (Or.inr (Or.inr (Or.inr (Or.inr (Or.inr (Or.inl z))))))))))) (fun z => Or.elim z (fun z => (Or.inr (Or.inr (Or.inr (Or.inr (Or.inr (Or.inr (Or.inr (Or.inr (Or.inr (Or.inr (Or.inl z)))))))))))) (fun z => Or.elim z (fun z => (Or.inr (Or.inr (Or.inr (Or.inr (Or.inr (Or.inr (Or.inr (Or.inr (Or.inr (Or.inr (Or.inr (Or.inl z))))))))))))) (fun z => Or.elim z (fun z => (Or.inr (Or.inr (Or.inr (Or.inr (Or.inr (Or.inr (Or.inr (Or.inr (Or.inr (Or.inr (Or.inr (Or.inr (Or.inr (Or.inr (Or.inr (Or.inr (Or.inr (Or.inr (Or.inr (Or.inr (Or.inl z)))))))))))))))))))))) (fun z => Or.elim z (fun z => (Or.inr (Or.inr (Or.inr (Or.inr (Or.inr (Or.inr (Or.inr (Or.inr (Or.inr (Or.inr (Or.inr (Or.inr (Or.inr (Or.inr (Or.inr (Or.inr (Or.inr (Or.inr (Or.inr (Or.inr (Or.inr (Or.inl z))))))))))))))))))))))) (fun z => Or.elim z (fun z => (Or.inr (Or.inr (Or.inr (Or.inr (Or.inr (Or.inr (Or.inr (Or.inr (Or.inr (Or.inr (Or.inr (Or.inr (Or.inr (Or.inr (Or.inr (Or.inr (Or.inr (Or.inr (Or.inr (Or.inr (Or.inr (Or.inr (Or.inl z)))))))))))))))))))))))) (fun z => Or.elim z (fun z => (Or.inr (Or.inr (Or.inr (Or.inr (Or.inr (Or.inr (Or.inr (Or.inr (Or.inr (Or.inr (Or.inr (Or.inr (Or.inr (Or.inr (Or.inr (Or.inr (Or.inr (Or.inr (Or.inr (Or.inr (Or.inr (Or.inr (Or.inr (Or.inl z))))))))))))))))))))))))) (fun z => Or.elim z (fun z => (Or.inr (Or.inr (Or.inr (Or.inr (Or.inr (Or.inr (Or.inr (Or.inr (Or.inr (Or.inr (Or.inr (Or.inr (Or.inr (Or.inr (Or.inr (Or.inr (Or.inr (Or.inr (Or.inr (Or.inr (Or.inr (Or.inr (Or.inr (Or.inr (Or.inr (Or.inr (Or.inl z)))))))))))))))))))))))))))) (fun z => (Or.inr (Or.inr (Or.inr (Or.inr (Or.inr (Or.inr (Or.inr (Or.inr (Or.inr (Or.inr (Or.inr (Or.inr (Or.inr (Or.inr (Or.inr (Or.inr (Or.inr (Or.inr (Or.inr (Or.inr (Or.inr (Or.inr (Or.inr (Or.inr (Or.inr (Or.inr (Or.inr z)))))))))))))))))))))))))))))))))))))))))
    replace e32_0 : (-1) ≤ v32 ∧ v32 ≤ 8128 := e32_0
    exact w_ret ⟨im32, km32, (show (-1) ≤ v32 ∧ v32 ≤ 8128 from ⟨by omega, by omega⟩), trivial⟩
  · skip
    refine w_if (fun c2_ => ?_) (fun c2_ => ?_)
    · skip
      refine w_gFc (ji := 0) rfl (congrArg Prod.fst (kl_1 iM)) (show mG M 1 0 = 2 from rd_VS_0 iM (a := 1) rfl) ?_
      refine w_gK (congrArg Prod.fst (kl_2 iM)) ?_
      refine w_call (s_X4_countGuessForms iM) ?_
      intro v40 m40 pp40
      obtain ⟨im40, kk40, e40_0, -⟩ := pp40
      try dsimp only
      replace im40 : I n m40 := im40
      replace kk40 : Keep n W_X4_countGuessForms M m40 := kk40
      have km40 : Keep n W_X8_holds M m40 := kM.tr kk40 (fun b j z => Or.elim z (fun z => (Or.inl z)) (fun z => Or.elim z (fun z => (Or.inr (Or.inl z))) (fun z => Or.elim z (fun z => (Or.inr (Or.inr (Or.inl z)))) (fun z => Or.elim z (fun z => (Or.inr (Or.inr (Or.inr (Or.inl z))))) (fun z => Or.elim z (fun z => (Or.inr (Or.inr (Or.inr (Or.inr (Or.inl z)))))) (fun z => Or.elim z (fun z => (Or.inr (Or.inr (Or.inr (Or.inr (Or.inr (Or.inl z))))))) (fun z => Or.elim z (fun z => (Or.inr (Or.inr (Or.inr (Or.inr (Or.inr (Or.inr (Or.inl z)))))))) (fun z => Or.elim z (fun z => (Or.inr (Or.inr (Or.inr (Or.inr (Or.inr (Or.inr (Or.inr (Or.inl z))))))))) (fun z => Or.elim z (fun z => (Or.inr (Or.inr (Or.inr (Or.inr (Or.inr (Or.inr (Or.inr (Or.inr (Or.inl z)))))))))) (fun z => Or.elim z (fun z => (Or.inr (Or.inr (Or.inr (Or.inr (Or.inr (Or.inr (Or.inr (Or.inr (Or.inr (Or.inl z))))))))))) (fun z => Or.elim z (fun z => (Or.inr (Or.inr (Or.inr (Or.inr (Or.inr (Or.inr (Or.inr (Or.inr (Or.inr (Or.inr (Or.inl z)))))))))))) (fun z => Or.elim z (fun z => (Or.inr (Or.inr (Or.inr (Or.inr (Or.inr (Or.inr (Or.inr (Or.inr (Or.inr (Or.inr (Or.inr (Or.inl z))))))))))))) (fun z => Or.elim z (fun z => (Or.inr (Or.inr (Or.inr (Or.inr (Or.inr (Or.inr (Or.inr (Or.inr (Or.inr (Or.inr (Or.inr (Or.inr (Or.inl z)))))))))))))) (fun z => Or.elim z (fun z => (Or.inr (Or.inr (Or.inr (Or.inr (Or.inr (Or.inr (Or.inr (Or.inr (Or.inr (Or.inr (Or.inr (Or.inr (Or.inr (Or.inl z))))))))))))))) (fun z => Or.elim z (fun z => (Or.inr (Or.inr (Or.inr (Or.inr (Or.inr (Or.inr (Or.inr (Or.inr (Or.inr (Or.inr (Or.inr (Or.inr (Or.inr (Or.inr (Or.inl z)))))))))))))))) (fun z => Or.elim z (fun z => (Or.inr (Or.inr (Or.inr (Or.inr (Or.inr (Or.inr (Or.inr (Or.inr (Or.inr (Or.inr (Or.inr (Or.inr (Or.inr (Or.inr (Or.inr (Or.inl z))))))))))))))))) (fun z => Or.elim z (fun z => (Or.inr (Or.inr (Or.inr (Or.inr (Or.inr (Or.inr (Or.inr (Or.inr (Or.inr (Or.inr (Or.inr (Or.inr (Or.inr (Or.inr (Or.inr (Or.inr (Or.inl z)))))))))))))))))) (fun z => Or.elim z (fun z => (Or.inr (Or.inr (Or.inr (Or.inr (Or.inr (Or.inr (Or.inr (Or.inr (Or.inr (Or.inr (Or.inr (Or.inr (Or.inr (Or.inr (Or.inr (Or.inr (Or.inr (Or.inl z))))))))))))))))))) (fun z => Or.elim z (fun z => (Or.inr (Or.inr (Or.inr (Or.inr (Or.inr (Or.inr (Or.inr (Or.inr (Or.inr (Or.inr (Or.inr (Or.inr (Or.inr (Or.inr (Or.inr (Or.inr (Or.inr (Or.inr (Or.inl z)))))))))))))))))))) (fun z => Or.elim z (fun z => (Or.inr (Or.inr (Or.inr (Or.inr (Or.inr (Or.inr (Or.inr (Or.inr (Or.inr (Or.inr (Or.inr (Or.inr (Or.inr (Or.inr (Or.inr (Or.inr (Or.inr (Or.inr (Or.inr (Or.inl z))))))))))))))))))))) (fun z => Or.elim z (fun z => (Or.inr (Or.inr (Or.inr (Or.inr (Or.inr (Or.inr (Or.inr (Or.inr (Or.inr (Or.inr (Or.inr (Or.inr (Or.inr (Or.inr (Or.inr (Or.inr (Or.inr (Or.inr (Or.inr (Or.inr (Or.inl z)))))))))))))))))))))) (fun z => Or.elim z (fun z => (Or.inr (Or.inr (Or.inr (Or.inr (Or.inr (Or.inr (Or.inr (Or.inr (Or.inr (Or.inr (Or.inr (Or.inr (Or.inr (Or.inr (Or.inr (Or.inr (Or.inr (Or.inr (Or.inr (Or.inr (Or.inr (Or.inl z))))))))))))))))))))))) (fun z => Or.elim z (fun z => (Or.inr (Or.inr (Or.inr (Or.inr (Or.inr (Or.inr (Or.inr (Or.inr (Or.inr (Or.inr (Or.inr (Or.inr (Or.inr (Or.inr (Or.inr (Or.inr (Or.inr (Or.inr (Or.inr (Or.inr (Or.inr (Or.inr (Or.inl z)))))))))))))))))))))))) (fun z => Or.elim z (fun z => (Or.inr (Or.inr (Or.inr (Or.inr (Or.inr (Or.inr (Or.inr (Or.inr (Or.inr (Or.inr (Or.inr (Or.inr (Or.inr (Or.inr (Or.inr (Or.inr (Or.inr (Or.inr (Or.inr (Or.inr (Or.inr (Or.inr (Or.inr (Or.inl z))))))))))))))))))))))))) (fun z => Or.elim z (fun z => (Or.inr (Or.inr (Or.inr (Or.inr (Or.inr (Or.inr (Or.inr (Or.inr (Or.inr (Or.inr (Or.inr (Or.inr (Or.inr (Or.inr (Or.inr (Or.inr (Or.inr (Or.inr (Or.inr (Or.inr (Or.inr (Or.inr (Or.inr (Or.inr (Or.inl z)))))))))))))))))))))))))) (fun z => Or.elim z (fun z => (Or.inr (Or.inr (Or.inr (Or.inr (Or.inr (Or.inr (Or.inr (Or.inr (Or.inr (Or.inr (Or.inr (Or.inr (Or.inr (Or.inr (Or.inr (Or.inr (Or.inr (Or.inr (Or.inr (Or.inr (Or.inr (Or.inr (Or.inr (Or.inr (Or.inr (Or.inl z))))))))))))))))))))))))))) (fun z => Or.elim z (fun z => (Or.inr (Or.inr (Or.inr (Or.inr (Or.inr (Or.inr (Or.inr (Or.inr (Or.inr (Or.inr (Or.inr (Or.inr (Or.inr (Or.inr (Or.inr (Or.inr (Or.inr (Or.inr (Or.inr (Or.inr (Or.inr (Or.inr (Or.inr (Or.inr (Or.inr (Or.inr (Or.inl z)))))))))))))))))))))))))))) (fun z => (Or.inr (Or.inr (Or.inr (Or.inr (Or.inr (Or.inr (Or.inr (Or.inr (Or.inr (Or.inr (Or.inr (Or.inr (Or.inr (Or.inr (Or.inr (Or.inr (Or.inr (Or.inr (Or.inr (Or.inr (Or.inr (Or.inr (Or.inr (Or.inr (Or.inr (Or.inr (Or.inr z)))))))))))))))))))))))))))))))))))))))))))))))))))))))
      replace e40_0 : (-1) ≤ v40 ∧ v40 ≤ 8128 := e40_0
      exact w_ret ⟨im40, km40, (show (-1) ≤ v40 ∧ v40 ≤ 8128 from ⟨by omega, by omega⟩), trivial⟩
    · skip
      exact w_ret ⟨iM, kM, (show (-1) ≤ (-1) ∧ (-1) ≤ 8128 from ⟨by omega, by omega⟩), trivial⟩
def W_X7_drop (l0 : Int) (l1 : Int) (b j : Int) : Prop := b = (l0 + 1)
theorem sb_X7_drop_2 {n : Nat} {Me : Mem} {l0 l1 : Int} (h_l0 : isWS l0) (h_l1 : isWS l1) {k2 : Int → Int → Int → Mem → Option (Int × Mem)} {fu2 : Nat} (hk2 : ∀ (l2 : Int) (M : Mem), (0 ≤ l2 ∧ l2 ≤ 64) → 65 - l2 < (fu2 : Int) → I n M → Keep n (W_X7_drop l0 l1) Me M → wp (k2 l0 l1 l2 M) (fun q => I n q.2 ∧ Keep n (W_X7_drop l0 l1) Me q.2 ∧ True)) {l2 : Int} {M : Mem} (r_l2 : 0 ≤ l2 ∧ l2 ≤ 64) (hf2 : 65 - l2 < (fu2 : Int) + 1) (iM : I n M) (kM : Keep n (W_X7_drop l0 l1) Me M) : wp (bX7_drop_2 k2 l0 l1 l2 M) (fun q => I n q.2 ∧ Keep n (W_X7_drop l0 l1) Me q.2 ∧ True) := by
  have hn : (169 : Int) ≤ (n : Int) := by have := iM.2.2.2.2.1; omega
  have u_l0 := h_l0
  unfold isWS at u_l0
  have u_l1 := h_l1
  unfold isWS at u_l1
  unfold bX7_drop_2
  refine w_gF (ji := 1) rfl (congrArg Prod.fst (k_WS iM h_l0)) (fun a4 ha4 => ?_)
  have ra4 : 0 ≤ a4 ∧ a4 ≤ 64 := ha4.tr (P := fun z => 0 ≤ z ∧ z ≤ 64) (rd_WS_1 iM (f_WS h_l0))
  refine w_if (fun c1_ => ?_) (fun c1_ => ?_)
  · skip
    exact w_ret ⟨iM, kM, trivial⟩
  · skip
    refine w_gFc (ji := 0) rfl (congrArg Prod.fst (k_WS iM h_l0)) (show mG M l0 0 = (l0 + 1) from rd_WS_0 iM (a := l0) (f_WS h_l0)) ?_
    refine w_aG (k_Wwords iM h_l0) (by omega) (by omega) (fun a16 ha16 => ?_)
    refine w_gFc (ji := 0) rfl (congrArg Prod.fst (k_WS iM h_l1)) (show mG M l1 0 = (l1 + 1) from rd_WS_0 iM (a := l1) (f_WS h_l1)) ?_
    refine w_aG (k_Wwords iM h_l1) (by omega) (by omega) (fun a22 ha22 => ?_)
    refine w_aS (k_Wwords iM h_l0) (by omega) (by omega) (fun M28 hM28 => ?_)
    replace hM28 : M28 = mS M (l0 + 1) l2 (land a16 (lxor a22 (-1))) := hM28
    have iM28 : I n M28 := wr_Wwords iM (f_Wwords h_l0) hM28
    have kM28 : Keep n (W_X7_drop l0 l1) Me M28 := kM.st hM28 (Or.inl rfl)
    obtain ⟨svM28, esvM28⟩ : ∃ z, z = (land a16 (lxor a22 (-1))) := ⟨_, rfl⟩
    have w4_ := wI_id (x := (l2 + 1)) (by omega) (by omega)
    exact hk2 _ _ ⟨by omega, by omega⟩ (by omega) iM28 kM28
theorem s_X7_drop_2 {n : Nat} {Me : Mem} {l0 l1 : Int} (h_l0 : isWS l0) (h_l1 : isWS l1) : ∀ (fu : Nat) (l2 : Int) (M : Mem), (0 ≤ l2 ∧ l2 ≤ 64) → 65 - l2 < (fu : Int) → I n M → Keep n (W_X7_drop l0 l1) Me M → wp (mX7_drop_2 fu l0 l1 l2 M) (fun q => I n q.2 ∧ Keep n (W_X7_drop l0 l1) Me q.2 ∧ True) := by
  intro fu
  induction fu with
  | zero =>
    intro l2 M r_l2 hf iM kM
    exfalso
    omega
  | succ fu ih =>
    intro l2 M r_l2 hf iM kM
    exact sb_X7_drop_2 h_l0 h_l1 ih r_l2 (by have e : ((fu + 1 : Nat) : Int) = (fu : Int) + 1 := rfl; rw [e] at hf; exact hf) iM kM
theorem s_X7_drop {n : Nat} {l0 l1 : Int} {M : Mem} (h_l0 : isWS l0) (h_l1 : isWS l1) (iM : I n M) : wp (mX7_drop l0 l1 M) (fun q => I n q.2 ∧ Keep n (W_X7_drop l0 l1) M q.2 ∧ True) := by
  have hn : (169 : Int) ≤ (n : Int) := by have := iM.2.2.2.2.1; omega
  have kM : Keep n (W_X7_drop l0 l1) M M := Keep.rf
  have u_l0 := h_l0
  unfold isWS at u_l0
  have u_l1 := h_l1
  unfold isWS at u_l1
  unfold mX7_drop
  exact s_X7_drop_2 h_l0 h_l1 FU _ _ ⟨by omega, by omega⟩ (by show _ < (70000 : Int); omega) iM kM
def W_X4_formAgainst (b j : Int) : Prop := (21 ≤ b ∧ b ≤ 23) ∨ (25 ≤ b ∧ b ≤ 26) ∨ b = 28 ∨ b = 30 ∨ b = 33 ∨ b = 35 ∨ b = 37 ∨ isWS (b - 1) ∨ (b = 2 ∧ j = 4) ∨ (b = 20 ∧ j = 0) ∨ (b = 20 ∧ j = 1) ∨ (b = 20 ∧ j = 5) ∨ (b = 24 ∧ j = 4) ∨ (b = 24 ∧ j = 5) ∨ (b = 24 ∧ j = 6) ∨ (b = 24 ∧ j = 7) ∨ (b = 27 ∧ j = 1) ∨ (b = 27 ∧ j = 2) ∨ (b = 29 ∧ j = 1) ∨ (b = 29 ∧ j = 2) ∨ (b = 32 ∧ j = 1) ∨ (b = 32 ∧ j = 2) ∨ (b = 34 ∧ j = 1) ∨ (b = 34 ∧ j = 2) ∨ (b = 36 ∧ j = 1) ∨ (b = 36 ∧ j = 2) ∨ (isWS b ∧ j = 1) ∨ (isWS b ∧ j = 2)
theorem s_X4_formAgainst {n : Nat} {M : Mem} (iM : I n M) : wp (mX4_formAgainst 2 M) (fun q => I n q.2 ∧ Keep n W_X4_formAgainst M q.2 ∧ ((-1) ≤ q.1 ∧ q.1 ≤ 4095) ∧ True) := by
  have hn : (169 : Int) ≤ (n : Int) := by have := iM.2.2.2.2.1; omega
  have kM : Keep n W_X4_formAgainst M M := Keep.rf
  unfold mX4_formAgainst
  refine w_gFc (ji := 0) rfl (congrArg Prod.fst (kl_2 iM)) (show mG M 2 0 = 3 from rd_Solver_0 iM (a := 2) rfl) ?_
  refine w_gF (ji := 12) rfl (congrArg Prod.fst (kl_3 iM)) (fun a4 ha4 => ?_)
  have xa4 : TX n M a4 := by rw [← ha4.e]; exact iM.2.2.1.2.1 3 (by unfold isTold; omega)
  refine w_if (fun c1_ => ?_) (fun c1_ => ?_)
  · skip
    exact w_ret ⟨iM, kM, (show (-1) ≤ (-1) ∧ (-1) ≤ 4095 from ⟨by omega, by omega⟩), trivial⟩
  · skip
    obtain ⟨q2_, m3_, t4_⟩ := TX.nn xa4 c1_
    refine w_gK (congrArg Prod.fst (kl_2 iM)) ?_
    refine w_call (s_X4_lookUp iM) ?_
    intro v11 m11 pp11
    obtain ⟨im11, kk11, e11_0, -⟩ := pp11
    try dsimp only
    replace im11 : I n m11 := im11
    replace kk11 : Keep n W_X4_lookUp M m11 := kk11
    have km11 : Keep n W_X4_formAgainst M m11 := kM.tr kk11 (fun b j z => Or.elim z (fun z => (Or.inl z)) (fun z => Or.elim z (fun z => (Or.inr (Or.inr (Or.inr (Or.inr (Or.inl z)))))) (fun z => Or.elim z (fun z => (Or.inr (Or.inr (Or.inr (Or.inr (Or.inr (Or.inl z))))))) (fun z => Or.elim z (fun z => (Or.inr (Or.inr (Or.inr (Or.inr (Or.inr (Or.inr (Or.inr (Or.inl z))))))))) (fun z => Or.elim z (fun z => (Or.inr (Or.inr (Or.inr (Or.inr (Or.inr (Or.inr (Or.inr (Or.inr (Or.inl z)))))))))) (fun z => Or.elim z (fun z => (Or.inr (Or.inr (Or.inr (Or.inr (Or.inr (Or.inr (Or.inr (Or.inr (Or.inr (Or.inl z))))))))))) (fun z => Or.elim z (fun z => (Or.inr (Or.inr (Or.inr (Or.inr (Or.inr (Or.inr (Or.inr (Or.inr (Or.inr (Or.inr (Or.inl z)))))))))))) (fun z => Or.elim z (fun z => (Or.inr (Or.inr (Or.inr (Or.inr (Or.inr (Or.inr (Or.inr (Or.inr (Or.inr (Or.inr (Or.inr (Or.inl z))))))))))))) (fun z => Or.elim z (fun z => (Or.inr (Or.inr (Or.inr (Or.inr (Or.inr (Or.inr (Or.inr (Or.inr (Or.inr (Or.inr (Or.inr (Or.inr (Or.inr (Or.inr (Or.inr (Or.inr (Or.inr (Or.inr (Or.inr (Or.inr (Or.inl z)))))))))))))))))))))) (fun z => Or.elim z (fun z => (Or.inr (Or.inr (Or.inr (Or.inr (Or.inr (Or.inr (Or.inr (Or.inr (Or.inr (Or.inr (Or.inr (Or.inr (Or.inr (Or.inr (Or.inr (Or.inr (Or.inr (Or.inr (Or.inr (Or.inr (Or.inr (Or.inl z))))))))))))))))))))))) (fun z => Or.elim z (fun z => (Or.inr (Or.inr (Or.inr (Or.inr (Or.inr (Or.inr (Or.inr (Or.inr (Or.inr (Or.inr (Or.inr (Or.inr (Or.inr (Or.inr (Or.inr (Or.inr (Or.inr (Or.inr (Or.inr (Or.inr (Or.inr (Or.inr (Or.inl z)))))))))))))))))))))))) (fun z => Or.elim z (fun z => (Or.inr (Or.inr (Or.inr (Or.inr (Or.inr (Or.inr (Or.inr (Or.inr (Or.inr (Or.inr (Or.inr (Or.inr (Or.inr (Or.inr (Or.inr (Or.inr (Or.inr (Or.inr (Or.inr (Or.inr (Or.inr (Or.inr (Or.inr (Or.inl z))))))))))))))))))))))))) (fun z => Or.elim z (fun z => (Or.inr (Or.inr (Or.inr (Or.inr (Or.inr (Or.inr (Or.inr (Or.inr (Or.inr (Or.inr (Or.inr (Or.inr (Or.inr (Or.inr (Or.inr (Or.inr (Or.inr (Or.inr (Or.inr (Or.inr (Or.inr (Or.inr (Or.inr (Or.inr (Or.inr (Or.inr (Or.inl z)))))))))))))))))))))))))))) (fun z => (Or.inr (Or.inr (Or.inr (Or.inr (Or.inr (Or.inr (Or.inr (Or.inr (Or.inr (Or.inr (Or.inr (Or.inr (Or.inr (Or.inr (Or.inr (Or.inr (Or.inr (Or.inr (Or.inr (Or.inr (Or.inr (Or.inr (Or.inr (Or.inr (Or.inr (Or.inr (Or.inr z)))))))))))))))))))))))))))))))))))))))))
    replace e11_0 : 0 ≤ v11 ∧ v11 ≤ 1 := e11_0
    refine w_if (fun c5_ => ?_) (fun c5_ => ?_)
    · skip
      exact w_ret ⟨im11, km11, (show (-1) ≤ (-1) ∧ (-1) ≤ 4095 from ⟨by omega, by omega⟩), trivial⟩
    · skip
      refine w_gK (congrArg Prod.fst (kl_2 im11)) ?_
      refine w_call (s_X4_pickForms im11) ?_
      intro v20 m20 pp20
      obtain ⟨im20, kk20, -⟩ := pp20
      try dsimp only
      replace im20 : I n m20 := im20
      replace kk20 : Keep n W_X4_pickForms m11 m20 := kk20
      have km20 : Keep n W_X4_formAgainst M m20 := km11.tr kk20 (fun b j z => Or.elim z (fun z => (Or.inr (Or.inl z))) (fun z => Or.elim z (fun z => (Or.inr (Or.inr (Or.inl z)))) (fun z => Or.elim z (fun z => (Or.inr (Or.inr (Or.inr (Or.inl z))))) (fun z => Or.elim z (fun z => (Or.inr (Or.inr (Or.inr (Or.inr (Or.inr (Or.inr (Or.inl z)))))))) (fun z => Or.elim z (fun z => (Or.inr (Or.inr (Or.inr (Or.inr (Or.inr (Or.inr (Or.inr (Or.inr (Or.inr (Or.inr (Or.inr (Or.inr (Or.inl z)))))))))))))) (fun z => Or.elim z (fun z => (Or.inr (Or.inr (Or.inr (Or.inr (Or.inr (Or.inr (Or.inr (Or.inr (Or.inr (Or.inr (Or.inr (Or.inr (Or.inr (Or.inl z))))))))))))))) (fun z => Or.elim z (fun z => (Or.inr (Or.inr (Or.inr (Or.inr (Or.inr (Or.inr (Or.inr (Or.inr (Or.inr (Or.inr (Or.inr (Or.inr (Or.inr (Or.inr (Or.inl z)))))))))))))))) (fun z => Or.elim z (fun z => (Or.inr (Or.inr (Or.inr (Or.inr (Or.inr (Or.inr (Or.inr (Or.inr (Or.inr (Or.inr (Or.inr (Or.inr (Or.inr (Or.inr (Or.inr (Or.inl z))))))))))))))))) (fun z => Or.elim z (fun z => (Or.inr (Or.inr (Or.inr (Or.inr (Or.inr (Or.inr (Or.inr (Or.inr (Or.inr (Or.inr (Or.inr (Or.inr (Or.inr (Or.inr (Or.inr (Or.inr (Or.inl z)))))))))))))))))) (fun z => Or.elim z (fun z => (Or.inr (Or.inr (Or.inr (Or.inr (Or.inr (Or.inr (Or.inr (Or.inr (Or.inr (Or.inr (Or.inr (Or.inr (Or.inr (Or.inr (Or.inr (Or.inr (Or.inr (Or.inl z))))))))))))))))))) (fun z => Or.elim z (fun z => (Or.inr (Or.inr (Or.inr (Or.inr (Or.inr (Or.inr (Or.inr (Or.inr (Or.inr (Or.inr (Or.inr (Or.inr (Or.inr (Or.inr (Or.inr (Or.inr (Or.inr (Or.inr (Or.inl z)))))))))))))))))))) (fun z => Or.elim z (fun z => (Or.inr (Or.inr (Or.inr (Or.inr (Or.inr (Or.inr (Or.inr (Or.inr (Or.inr (Or.inr (Or.inr (Or.inr (Or.inr (Or.inr (Or.inr (Or.inr (Or.inr (Or.inr (Or.inr (Or.inl z))))))))))))))))))))) (fun z => Or.elim z (fun z => (Or.inr (Or.inr (Or.inr (Or.inr (Or.inr (Or.inr (Or.inr (Or.inr (Or.inr (Or.inr (Or.inr (Or.inr (Or.inr (Or.inr (Or.inr (Or.inr (Or.inr (Or.inr (Or.inr (Or.inr (Or.inr (Or.inr (Or.inr (Or.inr (Or.inl z)))))))))))))))))))))))))) (fun z => (Or.inr (Or.inr (Or.inr (Or.inr (Or.inr (Or.inr (Or.inr (Or.inr (Or.inr (Or.inr (Or.inr (Or.inr (Or.inr (Or.inr (Or.inr (Or.inr (Or.inr (Or.inr (Or.inr (Or.inr (Or.inr (Or.inr (Or.inr (Or.inr (Or.inr (Or.inl z))))))))))))))))))))))))))))))))))))))))
      refine w_gFc (ji := 7) rfl (congrArg Prod.fst (kl_2 im20)) (show mG m20 2 7 = 36 from rd_Solver_7 im20 (a := 2) rfl) ?_
      refine w_gFc (ji := 0) rfl (congrArg Prod.fst (kl_2 im20)) (show mG m20 2 0 = 3 from rd_Solver_0 im20 (a := 2) rfl) ?_
      refine w_gFc (ji := 12) rfl (congrArg Prod.fst (kl_3 im20)) (show mG m20 3 12 = a4 from ((kk20.2.2 3 12 (by omega) (fun z => by unfold W_X4_pickForms at z; (try unfold isWS at z); (try unfold isShape at z); (try unfold isTold at z); (try dsimp only at z); omega)).trans ((kk11.2.2 3 12 (by omega) (fun z => by unfold W_X4_lookUp at z; (try unfold isWS at z); (try unfold isShape at z); (try unfold isTold at z); (try dsimp only at z); omega)).trans (show mG M 3 12 = a4 from ha4)))) ?_
      refine w_gK (congrArg Prod.fst (kl_2 im20)) ?_
      have x6_ : TX n m20 a4 := (TX.ot (TX.ot xa4 (otx_kp kk11 (fun b j z => by unfold W_X4_lookUp at z; (try unfold isWS at z); (try unfold isShape at z); (try unfold isTold at z); (try dsimp only at z); omega))) (otx_kp kk20 (fun b j z => by unfold W_X4_pickForms at z; (try unfold isWS at z); (try unfold isShape at z); (try unfold isTold at z); (try dsimp only at z); omega)))
      refine w_call (s_X4_truth ⟨by omega, by omega⟩ x6_ im20) ?_
      intro v37 m37 pp37
      obtain ⟨im37, kk37, e37_0, -⟩ := pp37
      try dsimp only
      replace im37 : I n m37 := im37
      replace kk37 : Keep n W_X4_truth m20 m37 := kk37
      have km37 : Keep n W_X4_formAgainst M m37 := km20.tr kk37 (fun b j z => Or.elim z (fun z => (Or.inl z)) (fun z => Or.elim z (fun z => (Or.inr (Or.inr (Or.inr (Or.inr (Or.inr (Or.inr (Or.inr (Or.inl z))))))))) (fun z => Or.elim z (fun z => (Or.inr (Or.inr (Or.inr (Or.inr (Or.inr (Or.inr (Or.inr (Or.inr (Or.inl z)))))))))) (fun z => Or.elim z (fun z => (Or.inr (Or.inr (Or.inr (Or.inr (Or.inr (Or.inr (Or.inr (Or.inr (Or.inr (Or.inl z))))))))))) (fun z => Or.elim z (fun z => (Or.inr (Or.inr (Or.inr (Or.inr (Or.inr (Or.inr (Or.inr (Or.inr (Or.inr (Or.inr (Or.inl z)))))))))))) (fun z => Or.elim z (fun z => (Or.inr (Or.inr (Or.inr (Or.inr (Or.inr (Or.inr (Or.inr (Or.inr (Or.inr (Or.inr (Or.inr (Or.inl z))))))))))))) (fun z => Or.elim z (fun z => (Or.inr (Or.inr (Or.inr (Or.inr (Or.inr (Or.inr (Or.inr (Or.inr (Or.inr (Or.inr (Or.inr (Or.inr (Or.inr (Or.inr (Or.inr (Or.inr (Or.inr (Or.inr (Or.inr (Or.inr (Or.inr (Or.inr (Or.inr (Or.inr (Or.inr (Or.inr (Or.inl z)))))))))))))))))))))))))))) (fun z => (Or.inr (Or.inr (Or.inr (Or.inr (Or.inr (Or.inr (Or.inr (Or.inr (Or.inr (Or.inr (Or.inr (Or.inr (Or.inr (Or.inr (Or.inr (Or.inr (Or.inr (Or.inr (Or.inr (Or.inr (Or.inr (Or.inr (Or.inr (Or.inr (Or.inr (Or.inr (Or.inr z)))))))))))))))))))))))))))))))))))
      replace e37_0 : isWS v37 := e37_0
      have u_v37 := e37_0
      unfold isWS at u_v37
      refine w_gK (congrArg Prod.fst (kl_36 im37)) ?_
      refine w_call (s_X7_drop (by unfold isWS; omega) e37_0 im37) ?_
      intro v40 m40 pp40
      obtain ⟨im40, kk40, -⟩ := pp40
      try dsimp only
      replace im40 : I n m40 := im40
      replace kk40 : Keep n (W_X7_drop 36 v37) m37 m40 := kk40
      have km40 : Keep n W_X4_formAgainst M m40 := km37.tr kk40 (fun b j z => by unfold W_X7_drop at z; exact (Or.inr (Or.inr (Or.inr (Or.inr (Or.inr (Or.inr (Or.inl (by omega)))))))))
      refine w_gFc (ji := 7) rfl (congrArg Prod.fst (kl_2 im40)) (show mG m40 2 7 = 36 from rd_Solver_7 im40 (a := 2) rfl) ?_
      refine w_gK (congrArg Prod.fst (kl_36 im40)) ?_
      refine w_call (s_X7_nth (by unfold isWS; omega) ⟨by omega, by omega⟩ im40) ?_
      intro v48 m48 pp48
      obtain ⟨im48, kk48, e48_0, -⟩ := pp48
      try dsimp only
      replace im48 : I n m48 := im48
      replace kk48 : Keep n (W_X7_nth 36) m40 m48 := kk48
      have km48 : Keep n W_X4_formAgainst M m48 := km40.tr kk48 (fun b j z => z.elim)
      replace e48_0 : (-1) ≤ v48 ∧ v48 ≤ 4095 := e48_0
      exact w_ret ⟨im48, km48, (show (-1) ≤ v48 ∧ v48 ≤ 4095 from ⟨by omega, by omega⟩), trivial⟩
def W_X8_against (b j : Int) : Prop := (21 ≤ b ∧ b ≤ 23) ∨ (25 ≤ b ∧ b ≤ 26) ∨ b = 28 ∨ b = 30 ∨ b = 33 ∨ b = 35 ∨ b = 37 ∨ isWS (b - 1) ∨ (b = 2 ∧ j = 4) ∨ (b = 20 ∧ j = 0) ∨ (b = 20 ∧ j = 1) ∨ (b = 20 ∧ j = 5) ∨ (b = 24 ∧ j = 4) ∨ (b = 24 ∧ j = 5) ∨ (b = 24 ∧ j = 6) ∨ (b = 24 ∧ j = 7) ∨ (b = 27 ∧ j = 1) ∨ (b = 27 ∧ j = 2) ∨ (b = 29 ∧ j = 1) ∨ (b = 29 ∧ j = 2) ∨ (b = 3 ∧ j = 1) ∨ (b = 32 ∧ j = 1) ∨ (b = 32 ∧ j = 2) ∨ (b = 34 ∧ j = 1) ∨ (b = 34 ∧ j = 2) ∨ (b = 36 ∧ j = 1) ∨ (b = 36 ∧ j = 2) ∨ (isWS b ∧ j = 1) ∨ (isWS b ∧ j = 2)
theorem s_X8_against {n : Nat} {M : Mem} (iM : I n M) : wp (mX8_against 1 M) (fun q => I n q.2 ∧ Keep n W_X8_against M q.2 ∧ (0 ≤ q.1 ∧ q.1 ≤ 1) ∧ True) := by
  have hn : (169 : Int) ≤ (n : Int) := by have := iM.2.2.2.2.1; omega
  have kM : Keep n W_X8_against M M := Keep.rf
  unfold mX8_against
  refine w_gFc (ji := 0) rfl (congrArg Prod.fst (kl_1 iM)) (show mG M 1 0 = 2 from rd_VS_0 iM (a := 1) rfl) ?_
  refine w_gK (congrArg Prod.fst (kl_2 iM)) ?_
  refine w_call (s_X4_formAgainst iM) ?_
  intro v5 m5 pp5
  obtain ⟨im5, kk5, e5_0, -⟩ := pp5
  try dsimp only
  replace im5 : I n m5 := im5
  replace kk5 : Keep n W_X4_formAgainst M m5 := kk5
  have km5 : Keep n W_X8_against M m5 := kM.tr kk5 (fun b j z => Or.elim z (fun z => (Or.inl z)) (fun z => Or.elim z (fun z => (Or.inr (Or.inl z))) (fun z => Or.elim z (fun z => (Or.inr (Or.inr (Or.inl z)))) (fun z => Or.elim z (fun z => (Or.inr (Or.inr (Or.inr (Or.inl z))))) (fun z => Or.elim z (fun z => (Or.inr (Or.inr (Or.inr (Or.inr (Or.inl z)))))) (fun z => Or.elim z (fun z => (Or.inr (Or.inr (Or.inr (Or.inr (Or.inr (Or.inl z))))))) (fun z => Or.elim z (fun z => (Or.inr (Or.inr (Or.inr (Or.inr (Or.inr (Or.inr (Or.inl z)))))))) (fun z => Or.elim z (fun z => (Or.inr (Or.inr (Or.inr (Or.inr (Or.inr (Or.inr (Or.inr (Or.inl z))))))))) (fun z => Or.elim z (fun z => (Or.inr (Or.inr (Or.inr (Or.inr (Or.inr (Or.inr (Or.inr (Or.inr (Or.inl z)))))))))) (fun z => Or.elim z (fun z => (Or.inr (Or.inr (Or.inr (Or.inr (Or.inr (Or.inr (Or.inr (Or.inr (Or.inr (Or.inl z))))))))))) (fun z => Or.elim z (fun z => (Or.inr (Or.inr (Or.inr (Or.inr (Or.inr (Or.inr (Or.inr (Or.inr (Or.inr (Or.inr (Or.inl z)))))))))))) (fun z => Or.elim z (fun z => (Or.inr (Or.inr (Or.inr (Or.inr (Or.inr (Or.inr (Or.inr (Or.inr (Or.inr (Or.inr (Or.inr (Or.inl z))))))))))))) (fun z => Or.elim z (fun z => (Or.inr (Or.inr (Or.inr (Or.inr (Or.inr (Or.inr (Or.inr (Or.inr (Or.inr (Or.inr (Or.inr (Or.inr (Or.inl z)))))))))))))) (fun z => Or.elim z (fun z => (Or.inr (Or.inr (Or.inr (Or.inr (Or.inr (Or.inr (Or.inr (Or.inr (Or.inr (Or.inr (Or.inr (Or.inr (Or.inr (Or.inl z))))))))))))))) (fun z => Or.elim z (fun z => (Or.inr (Or.inr (Or.inr (Or.inr (Or.inr (Or.inr (Or.inr (Or.inr (Or.inr (Or.inr (Or.inr (Or.inr (Or.inr (Or.inr (Or.inl z)))))))))))))))) (fun z => Or.elim z (fun z => (Or.inr (Or.inr (Or.inr (Or.inr (Or.inr (Or.inr (Or.inr (Or.inr (Or.inr (Or.inr (Or.inr (Or.inr (Or.inr (Or.inr (Or.inr (Or.inl z))))))))))))))))) (fun z => Or.elim z (fun z => (Or.inr (Or.inr (Or.inr (Or.inr (Or.inr (Or.inr (Or.inr (Or.inr (Or.inr (Or.inr (Or.inr (Or.inr (Or.inr (Or.inr (Or.inr (Or.inr (Or.inl z)))))))))))))))))) (fun z => Or.elim z (fun z => (Or.inr (Or.inr (Or.inr (Or.inr (Or.inr (Or.inr (Or.inr (Or.inr (Or.inr (Or.inr (Or.inr (Or.inr (Or.inr (Or.inr (Or.inr (Or.inr (Or.inr (Or.inl z))))))))))))))))))) (fun z => Or.elim z (fun z => (Or.inr (Or.inr (Or.inr (Or.inr (Or.inr (Or.inr (Or.inr (Or.inr (Or.inr (Or.inr (Or.inr (Or.inr (Or.inr (Or.inr (Or.inr (Or.inr (Or.inr (Or.inr (Or.inl z)))))))))))))))))))) (fun z => Or.elim z (fun z => (Or.inr (Or.inr (Or.inr (Or.inr (Or.inr (Or.inr (Or.inr (Or.inr (Or.inr (Or.inr (Or.inr (Or.inr (Or.inr (Or.inr (Or.inr (Or.inr (Or.inr (Or.inr (Or.inr (Or.inl z))))))))))))))))))))) (fun z => Or.elim z (fun z => (Or.inr (Or.inr (Or.inr (Or.inr (Or.inr (Or.inr (Or.inr (Or.inr (Or.inr (Or.inr (Or.inr (Or.inr (Or.inr (Or.inr (Or.inr (Or.inr (Or.inr (Or.inr (Or.inr (Or.inr (Or.inr (Or.inl z))))))))))))))))))))))) (fun z => Or.elim z (fun z => (Or.inr (Or.inr (Or.inr (Or.inr (Or.inr (Or.inr (Or.inr (Or.inr (Or.inr (Or.inr (Or.inr (Or.inr (Or.inr (Or.inr (Or.inr (Or.inr (Or.inr (Or.inr (Or.inr (Or.inr (Or.inr (Or.inr (Or.inl z)))))))))))))))))))))))) (fun z => Or.elim z (fun z => (Or.inr (Or.inr (Or.inr (Or.inr (Or.inr (Or.inr (Or.inr (Or.inr (Or.inr (Or.inr (Or.inr (Or.inr (Or.inr (Or.inr (Or.inr (Or.inr (Or.inr (Or.inr (Or.inr (Or.inr (Or.inr (Or.inr (Or.inr (Or.inl z))))))))))))))))))))))))) (fun z => Or.elim z (fun z => (Or.inr (Or.inr (Or.inr (Or.inr (Or.inr (Or.inr (Or.inr (Or.inr (Or.inr (Or.inr (Or.inr (Or.inr (Or.inr (Or.inr (Or.inr (Or.inr (Or.inr (Or.inr (Or.inr (Or.inr (Or.inr (Or.inr (Or.inr (Or.inr (Or.inl z)))))))))))))))))))))))))) (fun z => Or.elim z (fun z => (Or.inr (Or.inr (Or.inr (Or.inr (Or.inr (Or.inr (Or.inr (Or.inr (Or.inr (Or.inr (Or.inr (Or.inr (Or.inr (Or.inr (Or.inr (Or.inr (Or.inr (Or.inr (Or.inr (Or.inr (Or.inr (Or.inr (Or.inr (Or.inr (Or.inr (Or.inl z))))))))))))))))))))))))))) (fun z => Or.elim z (fun z => (Or.inr (Or.inr (Or.inr (Or.inr (Or.inr (Or.inr (Or.inr (Or.inr (Or.inr (Or.inr (Or.inr (Or.inr (Or.inr (Or.inr (Or.inr (Or.inr (Or.inr (Or.inr (Or.inr (Or.inr (Or.inr (Or.inr (Or.inr (Or.inr (Or.inr (Or.inr (Or.inl z)))))))))))))))))))))))))))) (fun z => Or.elim z (fun z => (Or.inr (Or.inr (Or.inr (Or.inr (Or.inr (Or.inr (Or.inr (Or.inr (Or.inr (Or.inr (Or.inr (Or.inr (Or.inr (Or.inr (Or.inr (Or.inr (Or.inr (Or.inr (Or.inr (Or.inr (Or.inr (Or.inr (Or.inr (Or.inr (Or.inr (Or.inr (Or.inr (Or.inl z))))))))))))))))))))))))))))) (fun z => (Or.inr (Or.inr (Or.inr (Or.inr (Or.inr (Or.inr (Or.inr (Or.inr (Or.inr (Or.inr (Or.inr (Or.inr (Or.inr (Or.inr (Or.inr (Or.inr (Or.inr (Or.inr (Or.inr (Or.inr (Or.inr (Or.inr (Or.inr (Or.inr (Or.inr (Or.inr (Or.inr (Or.inr z))))))))))))))))))))))))))))))))))))))))))))))))))))))))
  replace e5_0 : (-1) ≤ v5 ∧ v5 ≤ 4095 := e5_0
  refine w_gK (congrArg Prod.fst (kl_1 im5)) ?_
  refine w_call (s_X8_becomes ⟨by omega, by omega⟩ im5) ?_
  intro v8 m8 pp8
  obtain ⟨im8, kk8, e8_0, -⟩ := pp8
  try dsimp only
  replace im8 : I n m8 := im8
  replace kk8 : Keep n W_X8_becomes m5 m8 := kk8
  have km8 : Keep n W_X8_against M m8 := km5.tr kk8 (fun b j z => by unfold W_X8_becomes at z; exact (Or.inr (Or.inr (Or.inr (Or.inr (Or.inr (Or.inr (Or.inr (Or.inr (Or.inr (Or.inr (Or.inr (Or.inr (Or.inr (Or.inr (Or.inr (Or.inr (Or.inr (Or.inr (Or.inr (Or.inr (Or.inl z))))))))))))))))))))))
  replace e8_0 : 0 ≤ v8 ∧ v8 ≤ 1 := e8_0
  refine w_zR (by omega) (fun z hz => ?_)
  exact w_ret ⟨im8, km8, (show 0 ≤ z ∧ z ≤ 1 from ⟨by omega, by omega⟩), trivial⟩
def W_X8_many (b j : Int) : Prop := False
theorem s_X8_many {n : Nat} {l1 : Int} {M : Mem} (r_l1 : (-2147483648) ≤ l1 ∧ l1 ≤ 2147483647) (iM : I n M) : wp (mX8_many 1 l1 M) (fun q => I n q.2 ∧ Keep n W_X8_many M q.2 ∧ ((-2) ≤ q.1 ∧ q.1 ≤ 999) ∧ True) := by
  have hn : (169 : Int) ≤ (n : Int) := by have := iM.2.2.2.2.1; omega
  have kM : Keep n W_X8_many M M := Keep.rf
  unfold mX8_many
  refine w_if (fun c1_ => ?_) (fun c1_ => ?_)
  · skip
    refine w_gFc (ji := 1) rfl (congrArg Prod.fst (kl_1 iM)) (show mG M 1 1 = 3 from rd_VS_1 iM (a := 1) rfl) ?_
    refine w_gFc (ji := 0) rfl (congrArg Prod.fst (kl_3 iM)) (show mG M 3 0 = 4 from rd_Told_0 iM (a := 3) rfl) ?_
    refine w_gFc (ji := 0) rfl (congrArg Prod.fst (kl_4 iM)) (show mG M 4 0 = 5 from rd_Shape_0 iM (a := 4) rfl) ?_
    refine w_aG (kl_5 iM) (by omega) (by omega) (fun a71 ha71 => ?_)
    have ra71 : 1 ≤ a71 ∧ a71 ≤ 3 := ha71.tr (P := fun z => 1 ≤ z ∧ z ≤ 3) (rd_Ssizes iM rfl (by omega) (by omega))
    exact w_ret ⟨iM, kM, (show (-2) ≤ a71 ∧ a71 ≤ 999 from ⟨by omega, by omega⟩), trivial⟩
  · skip
    refine w_if (fun c2_ => ?_) (fun c2_ => ?_)
    · skip
      refine w_gFc (ji := 1) rfl (congrArg Prod.fst (kl_1 iM)) (show mG M 1 1 = 3 from rd_VS_1 iM (a := 1) rfl) ?_
      refine w_gFc (ji := 0) rfl (congrArg Prod.fst (kl_3 iM)) (show mG M 3 0 = 4 from rd_Told_0 iM (a := 3) rfl) ?_
      refine w_gFc (ji := 0) rfl (congrArg Prod.fst (kl_4 iM)) (show mG M 4 0 = 5 from rd_Shape_0 iM (a := 4) rfl) ?_
      refine w_aG (kl_5 iM) (by omega) (by omega) (fun a71 ha71 => ?_)
      have ra71 : 1 ≤ a71 ∧ a71 ≤ 3 := ha71.tr (P := fun z => 1 ≤ z ∧ z ≤ 3) (rd_Ssizes iM rfl (by omega) (by omega))
      exact w_ret ⟨iM, kM, (show (-2) ≤ a71 ∧ a71 ≤ 999 from ⟨by omega, by omega⟩), trivial⟩
    · skip
      refine w_if (fun c3_ => ?_) (fun c3_ => ?_)
      · skip
        refine w_gFc (ji := 1) rfl (congrArg Prod.fst (kl_1 iM)) (show mG M 1 1 = 3 from rd_VS_1 iM (a := 1) rfl) ?_
        refine w_gFc (ji := 0) rfl (congrArg Prod.fst (kl_3 iM)) (show mG M 3 0 = 4 from rd_Told_0 iM (a := 3) rfl) ?_
        refine w_gFc (ji := 0) rfl (congrArg Prod.fst (kl_4 iM)) (show mG M 4 0 = 5 from rd_Shape_0 iM (a := 4) rfl) ?_
        refine w_aG (kl_5 iM) (by omega) (by omega) (fun a71 ha71 => ?_)
        have ra71 : 1 ≤ a71 ∧ a71 ≤ 3 := ha71.tr (P := fun z => 1 ≤ z ∧ z ≤ 3) (rd_Ssizes iM rfl (by omega) (by omega))
        exact w_ret ⟨iM, kM, (show (-2) ≤ a71 ∧ a71 ≤ 999 from ⟨by omega, by omega⟩), trivial⟩
      · skip
        refine w_if (fun c4_ => ?_) (fun c4_ => ?_)
        · skip
          refine w_gFc (ji := 1) rfl (congrArg Prod.fst (kl_1 iM)) (show mG M 1 1 = 3 from rd_VS_1 iM (a := 1) rfl) ?_
          refine w_gFc (ji := 0) rfl (congrArg Prod.fst (kl_3 iM)) (show mG M 3 0 = 4 from rd_Told_0 iM (a := 3) rfl) ?_
          refine w_gF (ji := 6) rfl (congrArg Prod.fst (kl_4 iM)) (fun a80 ha80 => ?_)
          have ra80 : 0 ≤ a80 ∧ a80 ≤ 4 := ha80.tr (P := fun z => 0 ≤ z ∧ z ≤ 4) (rd_Shape_6 iM rfl)
          exact w_ret ⟨iM, kM, (show (-2) ≤ a80 ∧ a80 ≤ 999 from ⟨by omega, by omega⟩), trivial⟩
        · skip
          refine w_if (fun c5_ => ?_) (fun c5_ => ?_)
          · skip
            refine w_gFc (ji := 1) rfl (congrArg Prod.fst (kl_1 iM)) (show mG M 1 1 = 3 from rd_VS_1 iM (a := 1) rfl) ?_
            refine w_gF (ji := 11) rfl (congrArg Prod.fst (kl_3 iM)) (fun a88 ha88 => ?_)
            have ra88 : 0 ≤ a88 ∧ a88 ≤ 8 := ha88.tr (P := fun z => 0 ≤ z ∧ z ≤ 8) (rd_Told_11 iM rfl)
            exact w_ret ⟨iM, kM, (show (-2) ≤ a88 ∧ a88 ≤ 999 from ⟨by omega, by omega⟩), trivial⟩
          · skip
            refine w_if (fun c6_ => ?_) (fun c6_ => ?_)
            · skip
              refine w_gFc (ji := 1) rfl (congrArg Prod.fst (kl_1 iM)) (show mG M 1 1 = 3 from rd_VS_1 iM (a := 1) rfl) ?_
              refine w_gF (ji := 13) rfl (congrArg Prod.fst (kl_3 iM)) (fun a96 ha96 => ?_)
              have ra96 : 0 ≤ a96 ∧ a96 ≤ 999 := ha96.tr (P := fun z => 0 ≤ z ∧ z ≤ 999) (rd_Told_13 iM rfl)
              exact w_ret ⟨iM, kM, (show (-2) ≤ a96 ∧ a96 ≤ 999 from ⟨by omega, by omega⟩), trivial⟩
            · skip
              refine w_if (fun c7_ => ?_) (fun c7_ => ?_)
              · skip
                refine w_gFc (ji := 1) rfl (congrArg Prod.fst (kl_1 iM)) (show mG M 1 1 = 3 from rd_VS_1 iM (a := 1) rfl) ?_
                refine w_gF (ji := 14) rfl (congrArg Prod.fst (kl_3 iM)) (fun a104 ha104 => ?_)
                have ra104 : (-1) ≤ a104 ∧ a104 ≤ 999 := ha104.tr (P := fun z => (-1) ≤ z ∧ z ≤ 999) (rd_Told_14 iM rfl)
                exact w_ret ⟨iM, kM, (show (-2) ≤ a104 ∧ a104 ≤ 999 from ⟨by omega, by omega⟩), trivial⟩
              · skip
                refine w_if (fun c8_ => ?_) (fun c8_ => ?_)
                · skip
                  refine w_gFc (ji := 1) rfl (congrArg Prod.fst (kl_1 iM)) (show mG M 1 1 = 3 from rd_VS_1 iM (a := 1) rfl) ?_
                  refine w_gK (congrArg Prod.fst (kl_3 iM)) ?_
                  refine w_call (s_X6_viewedStories iM) ?_
                  intro v112 m112 pp112
                  obtain ⟨im112, kk112, e112_0, -⟩ := pp112
                  try dsimp only
                  replace im112 : I n m112 := im112
                  replace kk112 : Keep n W_X6_viewedStories M m112 := kk112
                  have km112 : Keep n W_X8_many M m112 := kM.tr kk112 (fun b j z => z.elim)
                  replace e112_0 : 0 ≤ v112 ∧ v112 ≤ 255 := e112_0
                  exact w_ret ⟨im112, km112, (show (-2) ≤ v112 ∧ v112 ≤ 999 from ⟨by omega, by omega⟩), trivial⟩
                · skip
                  refine w_if (fun c9_ => ?_) (fun c9_ => ?_)
                  · skip
                    refine w_gFc (ji := 1) rfl (congrArg Prod.fst (kl_1 iM)) (show mG M 1 1 = 3 from rd_VS_1 iM (a := 1) rfl) ?_
                    refine w_gF (ji := 1) rfl (congrArg Prod.fst (kl_3 iM)) (fun a120 ha120 => ?_)
                    refine w_call (s_J13_bitCount_95d88 iM) ?_
                    intro v123 m123 pp123
                    obtain ⟨im123, kk123, e123_0, -⟩ := pp123
                    try dsimp only
                    replace im123 : I n m123 := im123
                    replace kk123 : Keep n W_J13_bitCount_95d88 M m123 := kk123
                    have km123 : Keep n W_X8_many M m123 := kM.tr kk123 (fun b j z => z.elim)
                    replace e123_0 : 0 ≤ v123 ∧ v123 ≤ 127 := e123_0
                    exact w_ret ⟨im123, km123, (show (-2) ≤ v123 ∧ v123 ≤ 999 from ⟨by omega, by omega⟩), trivial⟩
                  · skip
                    refine w_if (fun c10_ => ?_) (fun c10_ => ?_)
                    · skip
                      refine w_gFc (ji := 1) rfl (congrArg Prod.fst (kl_1 iM)) (show mG M 1 1 = 3 from rd_VS_1 iM (a := 1) rfl) ?_
                      refine w_gF (ji := 12) rfl (congrArg Prod.fst (kl_3 iM)) (fun a131 ha131 => ?_)
                      have xa131 : TX n M a131 := by rw [← ha131.e]; exact iM.2.2.1.2.1 3 (by unfold isTold; omega)
                      refine w_if (fun c11_ => ?_) (fun c11_ => ?_)
                      · skip
                        exact w_ret ⟨iM, kM, (show (-2) ≤ 0 ∧ 0 ≤ 999 from ⟨by omega, by omega⟩), trivial⟩
                      · skip
                        obtain ⟨q12_, m13_, t14_⟩ := TX.nn xa131 c11_
                        refine w_gFc (ji := 1) rfl (congrArg Prod.fst (kl_1 iM)) (show mG M 1 1 = 3 from rd_VS_1 iM (a := 1) rfl) ?_
                        refine w_gFc (ji := 12) rfl (congrArg Prod.fst (kl_3 iM)) (show mG M 3 12 = a131 from (show mG M 3 12 = a131 from ha131)) ?_
                        refine w_gF (ji := 5) rfl (congrArg Prod.fst (tn_k t14_)) (fun a148 ha148 => ?_)
                        have ra148 : a148 = (m13_ : Int) ∧ 1 ≤ a148 ∧ a148 ≤ 40 := by rw [← ha148.e]; exact tn_p t14_
                        exact w_ret ⟨iM, kM, (show (-2) ≤ a148 ∧ a148 ≤ 999 from ⟨by omega, by omega⟩), trivial⟩
                    · skip
                      refine w_if (fun c15_ => ?_) (fun c15_ => ?_)
                      · skip
                        refine w_gFc (ji := 1) rfl (congrArg Prod.fst (kl_1 iM)) (show mG M 1 1 = 3 from rd_VS_1 iM (a := 1) rfl) ?_
                        refine w_gF (ji := 18) rfl (congrArg Prod.fst (kl_3 iM)) (fun a156 ha156 => ?_)
                        have ra156 : 0 ≤ a156 ∧ a156 ≤ 40 := ha156.tr (P := fun z => 0 ≤ z ∧ z ≤ 40) (rd_Told_18 iM rfl)
                        exact w_ret ⟨iM, kM, (show (-2) ≤ a156 ∧ a156 ≤ 999 from ⟨by omega, by omega⟩), trivial⟩
                      · skip
                        exact w_ret ⟨iM, kM, (show (-2) ≤ (-2) ∧ (-2) ≤ 999 from ⟨by omega, by omega⟩), trivial⟩
def W_X6_copyWorlds (l0 : Int) (l1 : Int) (b j : Int) : Prop := b = (l0 + 8) ∨ b = (l0 + 9) ∨ (b = l0 ∧ j = 1)
theorem s_X6_copyWorlds {n : Nat} {l0 l1 : Int} {M : Mem} (h_l0 : isTold l0) (h_l1 : isTold l1) (iM : I n M) : wp (mX6_copyWorlds l0 l1 M) (fun q => I n q.2 ∧ Keep n (W_X6_copyWorlds l0 l1) M q.2 ∧ True) := by
  have hn : (169 : Int) ≤ (n : Int) := by have := iM.2.2.2.2.1; omega
  have kM : Keep n (W_X6_copyWorlds l0 l1) M M := Keep.rf
  have u_l0 := h_l0
  unfold isTold at u_l0
  have u_l1 := h_l1
  unfold isTold at u_l1
  unfold mX6_copyWorlds
  refine w_gF (ji := 1) rfl (congrArg Prod.fst (k_Told iM h_l1)) (fun a2 ha2 => ?_)
  refine w_pF (ji := 1) rfl (congrArg Prod.fst (k_Told iM h_l0)) (fun M5 hM5 => ?_)
  replace hM5 : M5 = mS M l0 1 a2 := hM5
  have iM5 : I n M5 := wr_Told_1 iM (f_Told h_l0) hM5
  have kM5 : Keep n (W_X6_copyWorlds l0 l1) M M5 := kM.st hM5 (Or.inl (Or.inr (Or.inr ⟨rfl, rfl⟩)))
  refine w_gFc (ji := 2) rfl (congrArg Prod.fst (k_Told iM5 h_l1)) (show mG M5 l1 2 = (l1 + 8) from rd_Told_2 iM5 (a := l1) (f_Told h_l1)) ?_
  refine w_gFc (ji := 2) rfl (congrArg Prod.fst (k_Told iM5 h_l0)) (show mG M5 l0 2 = (l0 + 8) from rd_Told_2 iM5 (a := l0) (f_Told h_l0)) ?_
  refine w_aC (k_Tkept iM5 h_l1) (k_Tkept iM5 h_l0) ⟨by omega, by omega, by omega, by omega, by omega⟩ (fun M19 hM19 => ?_)
  replace hM19 : M19 = mC M5 (l1 + 8) 0 (l0 + 8) 0 4 := hM19
  have iM19 : I n M19 := iM5.cp hM19 (f_Tkept h_l0) (fun j j0 j1 => trivial) (by decide)
  have kM19 : Keep n (W_X6_copyWorlds l0 l1) M M19 := kM5.cp hM19 (fun j => (Or.inl rfl))
  refine w_gFc (ji := 3) rfl (congrArg Prod.fst (k_Told iM19 h_l1)) (show mG M19 l1 3 = (l1 + 9) from rd_Told_3 iM19 (a := l1) (f_Told h_l1)) ?_
  refine w_gFc (ji := 3) rfl (congrArg Prod.fst (k_Told iM19 h_l0)) (show mG M19 l0 3 = (l0 + 9) from rd_Told_3 iM19 (a := l0) (f_Told h_l0)) ?_
  refine w_aCZ (k_TisKept iM19 h_l1) (k_TisKept iM19 h_l0) ⟨by omega, by omega, by omega, by omega, by omega⟩ (fun j hj => by have z := rd_TisKept (i := 0 + (j : Int)) iM19 (f_TisKept h_l1); omega) (fun M33 hM33 => ?_)
  replace hM33 : M33 = mC M19 (l1 + 9) 0 (l0 + 9) 0 4 := hM33
  have iM33 : I n M33 := iM19.cp hM33 (f_TisKept h_l0) (fun j j0 j1 => by have z : 0 ≤ mG M19 (l1 + 9) (0 + j) ∧ mG M19 (l1 + 9) (0 + j) ≤ 1 := rd_TisKept iM19 (f_TisKept h_l1); show 0 ≤ mG M19 (l1 + 9) (0 + j) ∧ mG M19 (l1 + 9) (0 + j) ≤ 1; omega) (by decide)
  have kM33 : Keep n (W_X6_copyWorlds l0 l1) M M33 := kM19.cp hM33 (fun j => (Or.inr (Or.inl rfl)))
  exact w_ret ⟨iM33, kM33, trivial⟩
def W_X6_copyStories (l0 : Int) (l1 : Int) (b j : Int) : Prop := b = (l0 + 11) ∨ b = (l0 + 12) ∨ b = (l0 + 13) ∨ (b = l0 ∧ j = 11)
theorem sb_X6_copyStories_2 {n : Nat} {Me : Mem} {l0 l1 : Int} (h_l0 : isTold l0) (h_l1 : isTold l1) {k2 : Int → Int → Int → Mem → Option (Int × Mem)} {fu2 : Nat} (hk2 : ∀ (l2 : Int) (M : Mem), (0 ≤ l2 ∧ l2 ≤ 8) → 9 - l2 < (fu2 : Int) → I n M → Keep n (W_X6_copyStories l0 l1) Me M → wp (k2 l0 l1 l2 M) (fun q => I n q.2 ∧ Keep n (W_X6_copyStories l0 l1) Me q.2 ∧ True)) {l2 : Int} {M : Mem} (r_l2 : 0 ≤ l2 ∧ l2 ≤ 8) (hf2 : 9 - l2 < (fu2 : Int) + 1) (iM : I n M) (kM : Keep n (W_X6_copyStories l0 l1) Me M) : wp (bX6_copyStories_2 k2 l0 l1 l2 M) (fun q => I n q.2 ∧ Keep n (W_X6_copyStories l0 l1) Me q.2 ∧ True) := by
  have hn : (169 : Int) ≤ (n : Int) := by have := iM.2.2.2.2.1; omega
  have u_l0 := h_l0
  unfold isTold at u_l0
  have u_l1 := h_l1
  unfold isTold at u_l1
  unfold bX6_copyStories_2
  refine w_if (fun c1_ => ?_) (fun c1_ => ?_)
  · skip
    refine w_gF (ji := 11) rfl (congrArg Prod.fst (k_Told iM h_l1)) (fun a52 ha52 => ?_)
    have ra52 : 0 ≤ a52 ∧ a52 ≤ 8 := ha52.tr (P := fun z => 0 ≤ z ∧ z ≤ 8) (rd_Told_11 iM (f_Told h_l1))
    refine w_pF (ji := 11) rfl (congrArg Prod.fst (k_Told iM h_l0)) (fun M55 hM55 => ?_)
    replace hM55 : M55 = mS M l0 11 a52 := hM55
    have iM55 : I n M55 := wr_Told_11 iM (f_Told h_l0) ⟨by omega, by omega⟩ hM55
    have kM55 : Keep n (W_X6_copyStories l0 l1) Me M55 := kM.st hM55 (Or.inl (Or.inr (Or.inr (Or.inr ⟨rfl, rfl⟩))))
    exact w_ret ⟨iM55, kM55, trivial⟩
  · skip
    refine w_gFc (ji := 8) rfl (congrArg Prod.fst (k_Told iM h_l0)) (show mG M l0 8 = (l0 + 11) from rd_Told_8 iM (a := l0) (f_Told h_l0)) ?_
    refine w_gFc (ji := 8) rfl (congrArg Prod.fst (k_Told iM h_l1)) (show mG M l1 8 = (l1 + 11) from rd_Told_8 iM (a := l1) (f_Told h_l1)) ?_
    refine w_aG (k_Ttexts iM h_l1) (by omega) (by omega) (fun a18 ha18 => ?_)
    have xa18 : TX n M a18 := by rw [← ha18.e]; exact iM.2.2.1.1 l1 l2 h_l1 (by omega) (by omega)
    refine w_aSR (k_Ttexts iM h_l0) (by omega) (by omega) (TX.cls xa18) (fun M19 hM19 => ?_)
    replace hM19 : M19 = mS M (l0 + 11) l2 a18 := hM19
    have iM19 : I n M19 := wr_Ttexts iM (f_Ttexts h_l0) xa18 hM19
    have kM19 : Keep n (W_X6_copyStories l0 l1) Me M19 := kM.st hM19 (Or.inl (Or.inl rfl))
    refine w_gFc (ji := 9) rfl (congrArg Prod.fst (k_Told iM19 h_l0)) (show mG M19 l0 9 = (l0 + 12) from rd_Told_9 iM19 (a := l0) (f_Told h_l0)) ?_
    refine w_gFc (ji := 9) rfl (congrArg Prod.fst (k_Told iM19 h_l1)) (show mG M19 l1 9 = (l1 + 12) from rd_Told_9 iM19 (a := l1) (f_Told h_l1)) ?_
    refine w_aG (k_TtoldOn iM19 h_l1) (by omega) (by omega) (fun a30 ha30 => ?_)
    have ra30 : 0 ≤ a30 ∧ a30 ≤ 999 := ha30.tr (P := fun z => 0 ≤ z ∧ z ≤ 999) (rd_TtoldOn iM19 (f_TtoldOn h_l1))
    refine w_aS (k_TtoldOn iM19 h_l0) (by omega) (by omega) (fun M31 hM31 => ?_)
    replace hM31 : M31 = mS M19 (l0 + 12) l2 a30 := hM31
    have iM31 : I n M31 := wr_TtoldOn iM19 (f_TtoldOn h_l0) ⟨by omega, by omega⟩ hM31
    have kM31 : Keep n (W_X6_copyStories l0 l1) Me M31 := kM19.st hM31 (Or.inl (Or.inr (Or.inl rfl)))
    refine w_gFc (ji := 10) rfl (congrArg Prod.fst (k_Told iM31 h_l0)) (show mG M31 l0 10 = (l0 + 13) from rd_Told_10 iM31 (a := l0) (f_Told h_l0)) ?_
    refine w_gFc (ji := 10) rfl (congrArg Prod.fst (k_Told iM31 h_l1)) (show mG M31 l1 10 = (l1 + 13) from rd_Told_10 iM31 (a := l1) (f_Told h_l1)) ?_
    refine w_aG (k_TstruckOn iM31 h_l1) (by omega) (by omega) (fun a42 ha42 => ?_)
    have ra42 : (-1) ≤ a42 ∧ a42 ≤ 999 := ha42.tr (P := fun z => (-1) ≤ z ∧ z ≤ 999) (rd_TstruckOn iM31 (f_TstruckOn h_l1))
    refine w_aS (k_TstruckOn iM31 h_l0) (by omega) (by omega) (fun M43 hM43 => ?_)
    replace hM43 : M43 = mS M31 (l0 + 13) l2 a42 := hM43
    have iM43 : I n M43 := wr_TstruckOn iM31 (f_TstruckOn h_l0) ⟨by omega, by omega⟩ hM43
    have kM43 : Keep n (W_X6_copyStories l0 l1) Me M43 := kM31.st hM43 (Or.inl (Or.inr (Or.inr (Or.inl rfl))))
    have w2_ := wI_id (x := (l2 + 1)) (by omega) (by omega)
    exact hk2 _ _ ⟨by omega, by omega⟩ (by omega) iM43 kM43
theorem s_X6_copyStories_2 {n : Nat} {Me : Mem} {l0 l1 : Int} (h_l0 : isTold l0) (h_l1 : isTold l1) : ∀ (fu : Nat) (l2 : Int) (M : Mem), (0 ≤ l2 ∧ l2 ≤ 8) → 9 - l2 < (fu : Int) → I n M → Keep n (W_X6_copyStories l0 l1) Me M → wp (mX6_copyStories_2 fu l0 l1 l2 M) (fun q => I n q.2 ∧ Keep n (W_X6_copyStories l0 l1) Me q.2 ∧ True) := by
  intro fu
  induction fu with
  | zero =>
    intro l2 M r_l2 hf iM kM
    exfalso
    omega
  | succ fu ih =>
    intro l2 M r_l2 hf iM kM
    exact sb_X6_copyStories_2 h_l0 h_l1 ih r_l2 (by have e : ((fu + 1 : Nat) : Int) = (fu : Int) + 1 := rfl; rw [e] at hf; exact hf) iM kM
theorem s_X6_copyStories {n : Nat} {l0 l1 : Int} {M : Mem} (h_l0 : isTold l0) (h_l1 : isTold l1) (iM : I n M) : wp (mX6_copyStories l0 l1 M) (fun q => I n q.2 ∧ Keep n (W_X6_copyStories l0 l1) M q.2 ∧ True) := by
  have hn : (169 : Int) ≤ (n : Int) := by have := iM.2.2.2.2.1; omega
  have kM : Keep n (W_X6_copyStories l0 l1) M M := Keep.rf
  have u_l0 := h_l0
  unfold isTold at u_l0
  have u_l1 := h_l1
  unfold isTold at u_l1
  unfold mX6_copyStories
  exact s_X6_copyStories_2 h_l0 h_l1 FU _ _ ⟨by omega, by omega⟩ (by show _ < (70000 : Int); omega) iM kM
def W_X6_copy (l0 : Int) (l1 : Int) (b j : Int) : Prop := b = (l0 + 1 + 1) ∨ b = (l0 + 1 + 2) ∨ b = (l0 + 1 + 3) ∨ b = (l0 + 1 + 4) ∨ b = (l0 + 1 + 5) ∨ b = (l0 + 1 + 6) ∨ b = (l0 + 10) ∨ b = (l0 + 11) ∨ b = (l0 + 12) ∨ b = (l0 + 13) ∨ b = (l0 + 14) ∨ b = (l0 + 15) ∨ b = (l0 + 16) ∨ b = (l0 + 8) ∨ b = (l0 + 9) ∨ (b = (l0 + 1) ∧ j = 6) ∨ (b = (l0 + 1) ∧ j = 7) ∨ (b = l0 ∧ j = 1) ∨ (b = l0 ∧ j = 11) ∨ (b = l0 ∧ j = 12) ∨ (b = l0 ∧ j = 13) ∨ (b = l0 ∧ j = 14) ∨ (b = l0 ∧ j = 18) ∨ (b = l0 ∧ j = 5) ∨ (b = l0 ∧ j = 6) ∨ (b = l0 ∧ j = 7)
theorem s_X6_copy {n : Nat} {l0 l1 : Int} {M : Mem} (h_l0 : isTold l0) (h_l1 : isTold l1) (iM : I n M) : wp (mX6_copy l0 l1 M) (fun q => I n q.2 ∧ Keep n (W_X6_copy l0 l1) M q.2 ∧ True) := by
  have hn : (169 : Int) ≤ (n : Int) := by have := iM.2.2.2.2.1; omega
  have kM : Keep n (W_X6_copy l0 l1) M M := Keep.rf
  have u_l0 := h_l0
  unfold isTold at u_l0
  have u_l1 := h_l1
  unfold isTold at u_l1
  unfold mX6_copy
  refine w_gFc (ji := 0) rfl (congrArg Prod.fst (k_Told iM h_l0)) (show mG M l0 0 = (l0 + 1) from rd_Told_0 iM (a := l0) (f_Told h_l0)) ?_
  refine w_gFc (ji := 0) rfl (congrArg Prod.fst (k_Told iM h_l1)) (show mG M l1 0 = (l1 + 1) from rd_Told_0 iM (a := l1) (f_Told h_l1)) ?_
  refine w_gK (congrArg Prod.fst (k_Shape iM (shape_told h_l0))) ?_
  refine w_call (s_X3_copy (shape_told h_l0) (shape_told h_l1) iM) ?_
  intro v8 m8 pp8
  obtain ⟨im8, kk8, -⟩ := pp8
  try dsimp only
  replace im8 : I n m8 := im8
  replace kk8 : Keep n (W_X3_copy (l0 + 1) (l1 + 1)) M m8 := kk8
  have km8 : Keep n (W_X6_copy l0 l1) M m8 := kM.tr kk8 (fun b j z => Or.elim z (fun z => (Or.inl (by omega))) (fun z => Or.elim z (fun z => (Or.inr (Or.inl (by omega)))) (fun z => Or.elim z (fun z => (Or.inr (Or.inr (Or.inl (by omega))))) (fun z => Or.elim z (fun z => (Or.inr (Or.inr (Or.inr (Or.inl (by omega)))))) (fun z => Or.elim z (fun z => (Or.inr (Or.inr (Or.inr (Or.inr (Or.inl (by omega))))))) (fun z => Or.elim z (fun z => (Or.inr (Or.inr (Or.inr (Or.inr (Or.inr (Or.inl (by omega)))))))) (fun z => Or.elim z (fun z => (Or.inr (Or.inr (Or.inr (Or.inr (Or.inr (Or.inr (Or.inr (Or.inr (Or.inr (Or.inr (Or.inr (Or.inr (Or.inr (Or.inr (Or.inr (Or.inl ⟨by omega, z.2⟩))))))))))))))))) (fun z => (Or.inr (Or.inr (Or.inr (Or.inr (Or.inr (Or.inr (Or.inr (Or.inr (Or.inr (Or.inr (Or.inr (Or.inr (Or.inr (Or.inr (Or.inr (Or.inr (Or.inl ⟨by omega, z.2⟩)))))))))))))))))))))))))
  refine w_gK (congrArg Prod.fst (k_Told im8 h_l0)) ?_
  refine w_call (s_X6_copyWorlds h_l0 h_l1 im8) ?_
  intro v13 m13 pp13
  obtain ⟨im13, kk13, -⟩ := pp13
  try dsimp only
  replace im13 : I n m13 := im13
  replace kk13 : Keep n (W_X6_copyWorlds l0 l1) m8 m13 := kk13
  have km13 : Keep n (W_X6_copy l0 l1) M m13 := km8.tr kk13 (fun b j z => Or.elim z (fun z => (Or.inr (Or.inr (Or.inr (Or.inr (Or.inr (Or.inr (Or.inr (Or.inr (Or.inr (Or.inr (Or.inr (Or.inr (Or.inr (Or.inl z))))))))))))))) (fun z => Or.elim z (fun z => (Or.inr (Or.inr (Or.inr (Or.inr (Or.inr (Or.inr (Or.inr (Or.inr (Or.inr (Or.inr (Or.inr (Or.inr (Or.inr (Or.inr (Or.inl z)))))))))))))))) (fun z => (Or.inr (Or.inr (Or.inr (Or.inr (Or.inr (Or.inr (Or.inr (Or.inr (Or.inr (Or.inr (Or.inr (Or.inr (Or.inr (Or.inr (Or.inr (Or.inr (Or.inr (Or.inl z)))))))))))))))))))))
  refine w_gFc (ji := 4) rfl (congrArg Prod.fst (k_Told im13 h_l1)) (show mG m13 l1 4 = (l1 + 10) from rd_Told_4 im13 (a := l1) (f_Told h_l1)) ?_
  refine w_gFc (ji := 4) rfl (congrArg Prod.fst (k_Told im13 h_l0)) (show mG m13 l0 4 = (l0 + 10) from rd_Told_4 im13 (a := l0) (f_Told h_l0)) ?_
  refine w_aC (k_Ttape im13 h_l1) (k_Ttape im13 h_l0) ⟨by omega, by omega, by omega, by omega, by omega⟩ (fun M29 hM29 => ?_)
  replace hM29 : M29 = mC m13 (l1 + 10) 0 (l0 + 10) 0 400 := hM29
  have iM29 : I n M29 := im13.cp hM29 (f_Ttape h_l0) (fun j j0 j1 => by have z : 0 ≤ mG m13 (l1 + 10) (0 + j) ∧ mG m13 (l1 + 10) (0 + j) ≤ 255 := rd_Ttape im13 (f_Ttape h_l1); show 0 ≤ mG m13 (l1 + 10) (0 + j) ∧ mG m13 (l1 + 10) (0 + j) ≤ 255; omega) (by decide)
  have kM29 : Keep n (W_X6_copy l0 l1) M M29 := km13.cp hM29 (fun j => (Or.inr (Or.inr (Or.inr (Or.inr (Or.inr (Or.inr (Or.inl rfl))))))))
  refine w_gF (ji := 5) rfl (congrArg Prod.fst (k_Told iM29 h_l1)) (fun a34 ha34 => ?_)
  have ra34 : 0 ≤ a34 ∧ a34 ≤ 400 := ha34.tr (P := fun z => 0 ≤ z ∧ z ≤ 400) (rd_Told_5 iM29 (f_Told h_l1))
  refine w_pF (ji := 5) rfl (congrArg Prod.fst (k_Told iM29 h_l0)) (fun M37 hM37 => ?_)
  replace hM37 : M37 = mS M29 l0 5 a34 := hM37
  have iM37 : I n M37 := wr_Told_5 iM29 (f_Told h_l0) ⟨by omega, by omega⟩ hM37
  have kM37 : Keep n (W_X6_copy l0 l1) M M37 := kM29.st hM37 (Or.inl (Or.inr (Or.inr (Or.inr (Or.inr (Or.inr (Or.inr (Or.inr (Or.inr (Or.inr (Or.inr (Or.inr (Or.inr (Or.inr (Or.inr (Or.inr (Or.inr (Or.inr (Or.inr (Or.inr (Or.inr (Or.inr (Or.inr (Or.inr (Or.inl ⟨rfl, rfl⟩)))))))))))))))))))))))))
  refine w_gF (ji := 6) rfl (congrArg Prod.fst (k_Told iM37 h_l1)) (fun a42 ha42 => ?_)
  have ra42 : 0 ≤ a42 ∧ a42 ≤ 5 := ha42.tr (P := fun z => 0 ≤ z ∧ z ≤ 5) (rd_Told_6 iM37 (f_Told h_l1))
  refine w_pF (ji := 6) rfl (congrArg Prod.fst (k_Told iM37 h_l0)) (fun M45 hM45 => ?_)
  replace hM45 : M45 = mS M37 l0 6 a42 := hM45
  have iM45 : I n M45 := wr_Told_6 iM37 (f_Told h_l0) ⟨by omega, by omega⟩ hM45
  have kM45 : Keep n (W_X6_copy l0 l1) M M45 := kM37.st hM45 (Or.inl (Or.inr (Or.inr (Or.inr (Or.inr (Or.inr (Or.inr (Or.inr (Or.inr (Or.inr (Or.inr (Or.inr (Or.inr (Or.inr (Or.inr (Or.inr (Or.inr (Or.inr (Or.inr (Or.inr (Or.inr (Or.inr (Or.inr (Or.inr (Or.inr (Or.inl ⟨rfl, rfl⟩))))))))))))))))))))))))))
  refine w_gF (ji := 7) rfl (congrArg Prod.fst (k_Told iM45 h_l1)) (fun a50 ha50 => ?_)
  have ra50 : (-1) ≤ a50 ∧ a50 ≤ 400 := ha50.tr (P := fun z => (-1) ≤ z ∧ z ≤ 400) (rd_Told_7 iM45 (f_Told h_l1))
  refine w_pF (ji := 7) rfl (congrArg Prod.fst (k_Told iM45 h_l0)) (fun M53 hM53 => ?_)
  replace hM53 : M53 = mS M45 l0 7 a50 := hM53
  have iM53 : I n M53 := wr_Told_7 iM45 (f_Told h_l0) ⟨by omega, by omega⟩ hM53
  have kM53 : Keep n (W_X6_copy l0 l1) M M53 := kM45.st hM53 (Or.inl (Or.inr (Or.inr (Or.inr (Or.inr (Or.inr (Or.inr (Or.inr (Or.inr (Or.inr (Or.inr (Or.inr (Or.inr (Or.inr (Or.inr (Or.inr (Or.inr (Or.inr (Or.inr (Or.inr (Or.inr (Or.inr (Or.inr (Or.inr (Or.inr (Or.inr ⟨rfl, rfl⟩))))))))))))))))))))))))))
  refine w_gK (congrArg Prod.fst (k_Told iM53 h_l0)) ?_
  refine w_call (s_X6_copyStories h_l0 h_l1 iM53) ?_
  intro v58 m58 pp58
  obtain ⟨im58, kk58, -⟩ := pp58
  try dsimp only
  replace im58 : I n m58 := im58
  replace kk58 : Keep n (W_X6_copyStories l0 l1) M53 m58 := kk58
  have km58 : Keep n (W_X6_copy l0 l1) M m58 := kM53.tr kk58 (fun b j z => Or.elim z (fun z => (Or.inr (Or.inr (Or.inr (Or.inr (Or.inr (Or.inr (Or.inr (Or.inl z))))))))) (fun z => Or.elim z (fun z => (Or.inr (Or.inr (Or.inr (Or.inr (Or.inr (Or.inr (Or.inr (Or.inr (Or.inl z)))))))))) (fun z => Or.elim z (fun z => (Or.inr (Or.inr (Or.inr (Or.inr (Or.inr (Or.inr (Or.inr (Or.inr (Or.inr (Or.inl z))))))))))) (fun z => (Or.inr (Or.inr (Or.inr (Or.inr (Or.inr (Or.inr (Or.inr (Or.inr (Or.inr (Or.inr (Or.inr (Or.inr (Or.inr (Or.inr (Or.inr (Or.inr (Or.inr (Or.inr (Or.inl z)))))))))))))))))))))))
  refine w_gF (ji := 12) rfl (congrArg Prod.fst (k_Told im58 h_l1)) (fun a63 ha63 => ?_)
  have xa63 : TX n m58 a63 := by rw [← ha63.e]; exact im58.2.2.1.2.1 l1 (by unfold isTold; omega)
  refine w_pF (ji := 12) rfl (congrArg Prod.fst (k_Told im58 h_l0)) (fun M66 hM66 => ?_)
  replace hM66 : M66 = mS m58 l0 12 a63 := hM66
  have iM66 : I n M66 := wr_Told_12 im58 (f_Told h_l0) xa63 hM66
  have kM66 : Keep n (W_X6_copy l0 l1) M M66 := km58.st hM66 (Or.inl (Or.inr (Or.inr (Or.inr (Or.inr (Or.inr (Or.inr (Or.inr (Or.inr (Or.inr (Or.inr (Or.inr (Or.inr (Or.inr (Or.inr (Or.inr (Or.inr (Or.inr (Or.inr (Or.inr (Or.inl ⟨rfl, rfl⟩)))))))))))))))))))))
  refine w_gF (ji := 13) rfl (congrArg Prod.fst (k_Told iM66 h_l1)) (fun a71 ha71 => ?_)
  have ra71 : 0 ≤ a71 ∧ a71 ≤ 999 := ha71.tr (P := fun z => 0 ≤ z ∧ z ≤ 999) (rd_Told_13 iM66 (f_Told h_l1))
  refine w_pF (ji := 13) rfl (congrArg Prod.fst (k_Told iM66 h_l0)) (fun M74 hM74 => ?_)
  replace hM74 : M74 = mS M66 l0 13 a71 := hM74
  have iM74 : I n M74 := wr_Told_13 iM66 (f_Told h_l0) ⟨by omega, by omega⟩ hM74
  have kM74 : Keep n (W_X6_copy l0 l1) M M74 := kM66.st hM74 (Or.inl (Or.inr (Or.inr (Or.inr (Or.inr (Or.inr (Or.inr (Or.inr (Or.inr (Or.inr (Or.inr (Or.inr (Or.inr (Or.inr (Or.inr (Or.inr (Or.inr (Or.inr (Or.inr (Or.inr (Or.inr (Or.inl ⟨rfl, rfl⟩))))))))))))))))))))))
  refine w_gF (ji := 14) rfl (congrArg Prod.fst (k_Told iM74 h_l1)) (fun a79 ha79 => ?_)
  have ra79 : (-1) ≤ a79 ∧ a79 ≤ 999 := ha79.tr (P := fun z => (-1) ≤ z ∧ z ≤ 999) (rd_Told_14 iM74 (f_Told h_l1))
  refine w_pF (ji := 14) rfl (congrArg Prod.fst (k_Told iM74 h_l0)) (fun M82 hM82 => ?_)
  replace hM82 : M82 = mS M74 l0 14 a79 := hM82
  have iM82 : I n M82 := wr_Told_14 iM74 (f_Told h_l0) ⟨by omega, by omega⟩ hM82
  have kM82 : Keep n (W_X6_copy l0 l1) M M82 := kM74.st hM82 (Or.inl (Or.inr (Or.inr (Or.inr (Or.inr (Or.inr (Or.inr (Or.inr (Or.inr (Or.inr (Or.inr (Or.inr (Or.inr (Or.inr (Or.inr (Or.inr (Or.inr (Or.inr (Or.inr (Or.inr (Or.inr (Or.inr (Or.inl ⟨rfl, rfl⟩)))))))))))))))))))))))
  refine w_gFc (ji := 15) rfl (congrArg Prod.fst (k_Told iM82 h_l1)) (show mG M82 l1 15 = (l1 + 14) from rd_Told_15 iM82 (a := l1) (f_Told h_l1)) ?_
  refine w_gFc (ji := 15) rfl (congrArg Prod.fst (k_Told iM82 h_l0)) (show mG M82 l0 15 = (l0 + 14) from rd_Told_15 iM82 (a := l0) (f_Told h_l0)) ?_
  refine w_aC (k_TknownFact iM82 h_l1) (k_TknownFact iM82 h_l0) ⟨by omega, by omega, by omega, by omega, by omega⟩ (fun M97 hM97 => ?_)
  replace hM97 : M97 = mC M82 (l1 + 14) 0 (l0 + 14) 0 40 := hM97
  have iM97 : I n M97 := iM82.cp hM97 (f_TknownFact h_l0) (fun j j0 j1 => by have z : 0 ≤ mG M82 (l1 + 14) (0 + j) ∧ mG M82 (l1 + 14) (0 + j) ≤ 35 := rd_TknownFact iM82 (f_TknownFact h_l1); show 0 ≤ mG M82 (l1 + 14) (0 + j) ∧ mG M82 (l1 + 14) (0 + j) ≤ 35; omega) (by decide)
  have kM97 : Keep n (W_X6_copy l0 l1) M M97 := kM82.cp hM97 (fun j => (Or.inr (Or.inr (Or.inr (Or.inr (Or.inr (Or.inr (Or.inr (Or.inr (Or.inr (Or.inr (Or.inl rfl))))))))))))
  refine w_gFc (ji := 16) rfl (congrArg Prod.fst (k_Told iM97 h_l1)) (show mG M97 l1 16 = (l1 + 15) from rd_Told_16 iM97 (a := l1) (f_Told h_l1)) ?_
  refine w_gFc (ji := 16) rfl (congrArg Prod.fst (k_Told iM97 h_l0)) (show mG M97 l0 16 = (l0 + 15) from rd_Told_16 iM97 (a := l0) (f_Told h_l0)) ?_
  refine w_aCZ (k_TknownSo iM97 h_l1) (k_TknownSo iM97 h_l0) ⟨by omega, by omega, by omega, by omega, by omega⟩ (fun j hj => by have z := rd_TknownSo (i := 0 + (j : Int)) iM97 (f_TknownSo h_l1); omega) (fun M112 hM112 => ?_)
  replace hM112 : M112 = mC M97 (l1 + 15) 0 (l0 + 15) 0 40 := hM112
  have iM112 : I n M112 := iM97.cp hM112 (f_TknownSo h_l0) (fun j j0 j1 => by have z : 0 ≤ mG M97 (l1 + 15) (0 + j) ∧ mG M97 (l1 + 15) (0 + j) ≤ 1 := rd_TknownSo iM97 (f_TknownSo h_l1); show 0 ≤ mG M97 (l1 + 15) (0 + j) ∧ mG M97 (l1 + 15) (0 + j) ≤ 1; omega) (by decide)
  have kM112 : Keep n (W_X6_copy l0 l1) M M112 := kM97.cp hM112 (fun j => (Or.inr (Or.inr (Or.inr (Or.inr (Or.inr (Or.inr (Or.inr (Or.inr (Or.inr (Or.inr (Or.inr (Or.inl rfl)))))))))))))
  refine w_gFc (ji := 17) rfl (congrArg Prod.fst (k_Told iM112 h_l1)) (show mG M112 l1 17 = (l1 + 16) from rd_Told_17 iM112 (a := l1) (f_Told h_l1)) ?_
  refine w_gFc (ji := 17) rfl (congrArg Prod.fst (k_Told iM112 h_l0)) (show mG M112 l0 17 = (l0 + 16) from rd_Told_17 iM112 (a := l0) (f_Told h_l0)) ?_
  refine w_aC (k_TknownOn iM112 h_l1) (k_TknownOn iM112 h_l0) ⟨by omega, by omega, by omega, by omega, by omega⟩ (fun M127 hM127 => ?_)
  replace hM127 : M127 = mC M112 (l1 + 16) 0 (l0 + 16) 0 40 := hM127
  have iM127 : I n M127 := iM112.cp hM127 (f_TknownOn h_l0) (fun j j0 j1 => by have z : 0 ≤ mG M112 (l1 + 16) (0 + j) ∧ mG M112 (l1 + 16) (0 + j) ≤ 999 := rd_TknownOn iM112 (f_TknownOn h_l1); show 0 ≤ mG M112 (l1 + 16) (0 + j) ∧ mG M112 (l1 + 16) (0 + j) ≤ 999; omega) (by decide)
  have kM127 : Keep n (W_X6_copy l0 l1) M M127 := kM112.cp hM127 (fun j => (Or.inr (Or.inr (Or.inr (Or.inr (Or.inr (Or.inr (Or.inr (Or.inr (Or.inr (Or.inr (Or.inr (Or.inr (Or.inl rfl))))))))))))))
  refine w_gF (ji := 18) rfl (congrArg Prod.fst (k_Told iM127 h_l1)) (fun a132 ha132 => ?_)
  have ra132 : 0 ≤ a132 ∧ a132 ≤ 40 := ha132.tr (P := fun z => 0 ≤ z ∧ z ≤ 40) (rd_Told_18 iM127 (f_Told h_l1))
  refine w_pF (ji := 18) rfl (congrArg Prod.fst (k_Told iM127 h_l0)) (fun M135 hM135 => ?_)
  replace hM135 : M135 = mS M127 l0 18 a132 := hM135
  have iM135 : I n M135 := wr_Told_18 iM127 (f_Told h_l0) ⟨by omega, by omega⟩ hM135
  have kM135 : Keep n (W_X6_copy l0 l1) M M135 := kM127.st hM135 (Or.inl (Or.inr (Or.inr (Or.inr (Or.inr (Or.inr (Or.inr (Or.inr (Or.inr (Or.inr (Or.inr (Or.inr (Or.inr (Or.inr (Or.inr (Or.inr (Or.inr (Or.inr (Or.inr (Or.inr (Or.inr (Or.inr (Or.inr (Or.inl ⟨rfl, rfl⟩))))))))))))))))))))))))
  exact w_ret ⟨iM135, kM135, trivial⟩
