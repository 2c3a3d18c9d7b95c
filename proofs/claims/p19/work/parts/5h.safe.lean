def W_X1_leastOnes (l1 : Int) (b j : Int) : Prop := (25 ≤ b ∧ b ≤ 26) ∨ b = 28 ∨ b = 30 ∨ (b = 24 ∧ j = 4) ∨ (b = 24 ∧ j = 5) ∨ (b = 24 ∧ j = 6) ∨ (b = 24 ∧ j = 7) ∨ (b = 27 ∧ j = 1) ∨ (b = 27 ∧ j = 2) ∨ (b = 29 ∧ j = 1) ∨ (b = 29 ∧ j = 2)
theorem s_X1_leastOnes_21 {n : Nat} {Me : Mem} {l1 : Int} (h_l1 : isShape l1) {M : Mem} (iM : I n M) (kM : Keep n (W_X1_leastOnes l1) Me M) : wp (mX1_leastOnes_21 24 M) (fun q => I n q.2 ∧ Keep n (W_X1_leastOnes l1) Me q.2 ∧ (q.1 = 27) ∧ True) := by
  have hn : (169 : Int) ≤ (n : Int) := by have := iM.2.2.2.2.1; omega
  have u_l1 := h_l1
  unfold isShape at u_l1
  unfold mX1_leastOnes_21
  refine w_gFc (ji := 2) rfl (congrArg Prod.fst (kl_24 iM)) (show mG M 24 2 = 27 from rd_Others_2 iM (a := 24) rfl) ?_
  exact w_ret ⟨iM, kM, (show 27 = 27 from by omega), trivial⟩
theorem s_X1_leastOnes {n : Nat} {l1 : Int} {M : Mem} (h_l1 : isShape l1) (iM : I n M) : wp (mX1_leastOnes 24 l1 M) (fun q => I n q.2 ∧ Keep n (W_X1_leastOnes l1) M q.2 ∧ (q.1 = 27) ∧ True) := by
  have hn : (169 : Int) ≤ (n : Int) := by have := iM.2.2.2.2.1; omega
  have kM : Keep n (W_X1_leastOnes l1) M M := Keep.rf
  have u_l1 := h_l1
  unfold isShape at u_l1
  unfold mX1_leastOnes
  refine w_gK (congrArg Prod.fst (kl_24 iM)) ?_
  refine w_call (s_X1_layOut h_l1 iM) ?_
  intro v2 m2 pp2
  obtain ⟨im2, kk2, -⟩ := pp2
  try dsimp only
  replace im2 : I n m2 := im2
  replace kk2 : Keep n (W_X1_layOut l1) M m2 := kk2
  have km2 : Keep n (W_X1_leastOnes l1) M m2 := kM.tr kk2 (fun b j z => Or.elim z (fun z => (Or.inl z)) (fun z => Or.elim z (fun z => (Or.inr (Or.inr (Or.inr (Or.inl z))))) (fun z => Or.elim z (fun z => (Or.inr (Or.inr (Or.inr (Or.inr (Or.inl z)))))) (fun z => (Or.inr (Or.inr (Or.inr (Or.inr (Or.inr (Or.inl z))))))))))
  refine w_gF (ji := 7) rfl (congrArg Prod.fst (kl_24 im2)) (fun a6 ha6 => ?_)
  have ra6 : 0 ≤ a6 ∧ a6 ≤ 1 := ha6.tr (P := fun z => 0 ≤ z ∧ z ≤ 1) (rd_Others_7 im2 rfl)
  refine w_if (fun c1_ => ?_) (fun c1_ => ?_)
  · skip
    refine w_gK (congrArg Prod.fst (kl_24 im2)) ?_
    refine w_call (s_X1_markLeastOnes im2) ?_
    intro v13 m13 pp13
    obtain ⟨im13, kk13, -⟩ := pp13
    try dsimp only
    replace im13 : I n m13 := im13
    replace kk13 : Keep n W_X1_markLeastOnes m2 m13 := kk13
    have km13 : Keep n (W_X1_leastOnes l1) M m13 := km2.tr kk13 (fun b j z => Or.elim z (fun z => (Or.inr (Or.inl z))) (fun z => Or.elim z (fun z => (Or.inr (Or.inr (Or.inl z)))) (fun z => Or.elim z (fun z => (Or.inr (Or.inr (Or.inr (Or.inr (Or.inr (Or.inr (Or.inr (Or.inl z))))))))) (fun z => Or.elim z (fun z => (Or.inr (Or.inr (Or.inr (Or.inr (Or.inr (Or.inr (Or.inr (Or.inr (Or.inl z)))))))))) (fun z => Or.elim z (fun z => (Or.inr (Or.inr (Or.inr (Or.inr (Or.inr (Or.inr (Or.inr (Or.inr (Or.inr (Or.inl z))))))))))) (fun z => (Or.inr (Or.inr (Or.inr (Or.inr (Or.inr (Or.inr (Or.inr (Or.inr (Or.inr (Or.inr z))))))))))))))))
    refine w_pZ (ji := 7) rfl (congrArg Prod.fst (kl_24 im13)) (by omega) (fun M18 hM18 => ?_)
    replace hM18 : M18 = mS m13 24 7 1 := hM18
    have iM18 : I n M18 := wr_Others_7 im13 rfl ⟨by omega, by omega⟩ hM18
    have kM18 : Keep n (W_X1_leastOnes l1) M M18 := km13.st hM18 (Or.inl (Or.inr (Or.inr (Or.inr (Or.inr (Or.inr (Or.inr (Or.inl ⟨rfl, rfl⟩))))))))
    exact s_X1_leastOnes_21 h_l1 iM18 kM18
  · skip
    exact s_X1_leastOnes_21 h_l1 im2 km2
def W_X4_pickForms (b j : Int) : Prop := (25 ≤ b ∧ b ≤ 26) ∨ b = 28 ∨ b = 30 ∨ b = 37 ∨ (b = 24 ∧ j = 4) ∨ (b = 24 ∧ j = 5) ∨ (b = 24 ∧ j = 6) ∨ (b = 24 ∧ j = 7) ∨ (b = 27 ∧ j = 1) ∨ (b = 27 ∧ j = 2) ∨ (b = 29 ∧ j = 1) ∨ (b = 29 ∧ j = 2) ∨ (b = 36 ∧ j = 1) ∨ (b = 36 ∧ j = 2)
theorem s_X4_pickForms {n : Nat} {M : Mem} (iM : I n M) : wp (mX4_pickForms 2 M) (fun q => I n q.2 ∧ Keep n W_X4_pickForms M q.2 ∧ True) := by
  have hn : (169 : Int) ≤ (n : Int) := by have := iM.2.2.2.2.1; omega
  have kM : Keep n W_X4_pickForms M M := Keep.rf
  unfold mX4_pickForms
  refine w_gFc (ji := 7) rfl (congrArg Prod.fst (kl_2 iM)) (show mG M 2 7 = 36 from rd_Solver_7 iM (a := 2) rfl) ?_
  refine w_gFc (ji := 6) rfl (congrArg Prod.fst (kl_2 iM)) (show mG M 2 6 = 34 from rd_Solver_6 iM (a := 2) rfl) ?_
  refine w_gK (congrArg Prod.fst (kl_36 iM)) ?_
  refine w_call (s_X7_copy (by unfold isWS; omega) (by unfold isWS; omega) iM) ?_
  intro v8 m8 pp8
  obtain ⟨im8, kk8, -⟩ := pp8
  try dsimp only
  replace im8 : I n m8 := im8
  replace kk8 : Keep n (W_X7_copy 36 34) M m8 := kk8
  have km8 : Keep n W_X4_pickForms M m8 := kM.tr kk8 (fun b j z => Or.elim z (fun z => (Or.inr (Or.inr (Or.inr (Or.inl (by omega)))))) (fun z => Or.elim z (fun z => (Or.inr (Or.inr (Or.inr (Or.inr (Or.inr (Or.inr (Or.inr (Or.inr (Or.inr (Or.inr (Or.inr (Or.inr (Or.inl ⟨by omega, z.2⟩)))))))))))))) (fun z => (Or.inr (Or.inr (Or.inr (Or.inr (Or.inr (Or.inr (Or.inr (Or.inr (Or.inr (Or.inr (Or.inr (Or.inr (Or.inr ⟨by omega, z.2⟩))))))))))))))))
  refine w_gFc (ji := 7) rfl (congrArg Prod.fst (kl_2 im8)) (show mG m8 2 7 = 36 from rd_Solver_7 im8 (a := 2) rfl) ?_
  refine w_gFc (ji := 2) rfl (congrArg Prod.fst (kl_2 im8)) (show mG m8 2 2 = 24 from rd_Solver_2 im8 (a := 2) rfl) ?_
  refine w_gFc (ji := 0) rfl (congrArg Prod.fst (kl_2 im8)) (show mG m8 2 0 = 3 from rd_Solver_0 im8 (a := 2) rfl) ?_
  refine w_gFc (ji := 0) rfl (congrArg Prod.fst (kl_3 im8)) (show mG m8 3 0 = 4 from rd_Told_0 im8 (a := 3) rfl) ?_
  refine w_gK (congrArg Prod.fst (kl_24 im8)) ?_
  refine w_call (s_X1_leastOnes (by unfold isShape; omega) im8) ?_
  intro v26 m26 pp26
  obtain ⟨im26, kk26, e26_0, -⟩ := pp26
  try dsimp only
  replace im26 : I n m26 := im26
  replace kk26 : Keep n (W_X1_leastOnes 4) m8 m26 := kk26
  have km26 : Keep n W_X4_pickForms M m26 := km8.tr kk26 (fun b j z => Or.elim z (fun z => (Or.inl z)) (fun z => Or.elim z (fun z => (Or.inr (Or.inl z))) (fun z => Or.elim z (fun z => (Or.inr (Or.inr (Or.inl z)))) (fun z => Or.elim z (fun z => (Or.inr (Or.inr (Or.inr (Or.inr (Or.inl z)))))) (fun z => Or.elim z (fun z => (Or.inr (Or.inr (Or.inr (Or.inr (Or.inr (Or.inl z))))))) (fun z => Or.elim z (fun z => (Or.inr (Or.inr (Or.inr (Or.inr (Or.inr (Or.inr (Or.inl z)))))))) (fun z => Or.elim z (fun z => (Or.inr (Or.inr (Or.inr (Or.inr (Or.inr (Or.inr (Or.inr (Or.inl z))))))))) (fun z => Or.elim z (fun z => (Or.inr (Or.inr (Or.inr (Or.inr (Or.inr (Or.inr (Or.inr (Or.inr (Or.inl z)))))))))) (fun z => Or.elim z (fun z => (Or.inr (Or.inr (Or.inr (Or.inr (Or.inr (Or.inr (Or.inr (Or.inr (Or.inr (Or.inl z))))))))))) (fun z => Or.elim z (fun z => (Or.inr (Or.inr (Or.inr (Or.inr (Or.inr (Or.inr (Or.inr (Or.inr (Or.inr (Or.inr (Or.inl z)))))))))))) (fun z => (Or.inr (Or.inr (Or.inr (Or.inr (Or.inr (Or.inr (Or.inr (Or.inr (Or.inr (Or.inr (Or.inr (Or.inl z)))))))))))))))))))))))
  replace e26_0 : v26 = 27 := e26_0
  try subst e26_0
  refine w_gK (congrArg Prod.fst (kl_36 im26)) ?_
  refine w_call (s_X7_keepOnly (by unfold isWS; omega) (by unfold isWS; omega) im26) ?_
  intro v29 m29 pp29
  obtain ⟨im29, kk29, -⟩ := pp29
  try dsimp only
  replace im29 : I n m29 := im29
  replace kk29 : Keep n (W_X7_keepOnly 36 27) m26 m29 := kk29
  have km29 : Keep n W_X4_pickForms M m29 := km26.tr kk29 (fun b j z => by unfold W_X7_keepOnly at z; exact (Or.inr (Or.inr (Or.inr (Or.inl (by omega))))))
  exact w_ret ⟨im29, km29, trivial⟩
def W_X4_countForms (b j : Int) : Prop := (21 ≤ b ∧ b ≤ 23) ∨ (25 ≤ b ∧ b ≤ 26) ∨ b = 28 ∨ b = 30 ∨ b = 33 ∨ b = 35 ∨ b = 37 ∨ isWS (b - 1) ∨ (b = 2 ∧ j = 4) ∨ (b = 20 ∧ j = 0) ∨ (b = 20 ∧ j = 1) ∨ (b = 20 ∧ j = 5) ∨ (b = 24 ∧ j = 4) ∨ (b = 24 ∧ j = 5) ∨ (b = 24 ∧ j = 6) ∨ (b = 24 ∧ j = 7) ∨ (b = 27 ∧ j = 1) ∨ (b = 27 ∧ j = 2) ∨ (b = 29 ∧ j = 1) ∨ (b = 29 ∧ j = 2) ∨ (b = 32 ∧ j = 1) ∨ (b = 32 ∧ j = 2) ∨ (b = 34 ∧ j = 1) ∨ (b = 34 ∧ j = 2) ∨ (b = 36 ∧ j = 1) ∨ (b = 36 ∧ j = 2) ∨ (isWS b ∧ j = 1) ∨ (isWS b ∧ j = 2)
theorem s_X4_countForms {n : Nat} {M : Mem} (iM : I n M) : wp (mX4_countForms 2 M) (fun q => I n q.2 ∧ Keep n W_X4_countForms M q.2 ∧ ((-1) ≤ q.1 ∧ q.1 ≤ 8128) ∧ True) := by
  have hn : (169 : Int) ≤ (n : Int) := by have := iM.2.2.2.2.1; omega
  have kM : Keep n W_X4_countForms M M := Keep.rf
  unfold mX4_countForms
  refine w_gK (congrArg Prod.fst (kl_2 iM)) ?_
  refine w_call (s_X4_lookUp iM) ?_
  intro v1 m1 pp1
  obtain ⟨im1, kk1, e1_0, -⟩ := pp1
  try dsimp only
  replace im1 : I n m1 := im1
  replace kk1 : Keep n W_X4_lookUp M m1 := kk1
  have km1 : Keep n W_X4_countForms M m1 := kM.tr kk1 (fun b j z => Or.elim z (fun z => (Or.inl z)) (fun z => Or.elim z (fun z => (Or.inr (Or.inr (Or.inr (Or.inr (Or.inl z)))))) (fun z => Or.elim z (fun z => (Or.inr (Or.inr (Or.inr (Or.inr (Or.inr (Or.inl z))))))) (fun z => Or.elim z (fun z => (Or.inr (Or.inr (Or.inr (Or.inr (Or.inr (Or.inr (Or.inr (Or.inl z))))))))) (fun z => Or.elim z (fun z => (Or.inr (Or.inr (Or.inr (Or.inr (Or.inr (Or.inr (Or.inr (Or.inr (Or.inl z)))))))))) (fun z => Or.elim z (fun z => (Or.inr (Or.inr (Or.inr (Or.inr (Or.inr (Or.inr (Or.inr (Or.inr (Or.inr (Or.inl z))))))))))) (fun z => Or.elim z (fun z => (Or.inr (Or.inr (Or.inr (Or.inr (Or.inr (Or.inr (Or.inr (Or.inr (Or.inr (Or.inr (Or.inl z)))))))))))) (fun z => Or.elim z (fun z => (Or.inr (Or.inr (Or.inr (Or.inr (Or.inr (Or.inr (Or.inr (Or.inr (Or.inr (Or.inr (Or.inr (Or.inl z))))))))))))) (fun z => Or.elim z (fun z => (Or.inr (Or.inr (Or.inr (Or.inr (Or.inr (Or.inr (Or.inr (Or.inr (Or.inr (Or.inr (Or.inr (Or.inr (Or.inr (Or.inr (Or.inr (Or.inr (Or.inr (Or.inr (Or.inr (Or.inr (Or.inl z)))))))))))))))))))))) (fun z => Or.elim z (fun z => (Or.inr (Or.inr (Or.inr (Or.inr (Or.inr (Or.inr (Or.inr (Or.inr (Or.inr (Or.inr (Or.inr (Or.inr (Or.inr (Or.inr (Or.inr (Or.inr (Or.inr (Or.inr (Or.inr (Or.inr (Or.inr (Or.inl z))))))))))))))))))))))) (fun z => Or.elim z (fun z => (Or.inr (Or.inr (Or.inr (Or.inr (Or.inr (Or.inr (Or.inr (Or.inr (Or.inr (Or.inr (Or.inr (Or.inr (Or.inr (Or.inr (Or.inr (Or.inr (Or.inr (Or.inr (Or.inr (Or.inr (Or.inr (Or.inr (Or.inl z)))))))))))))))))))))))) (fun z => Or.elim z (fun z => (Or.inr (Or.inr (Or.inr (Or.inr (Or.inr (Or.inr (Or.inr (Or.inr (Or.inr (Or.inr (Or.inr (Or.inr (Or.inr (Or.inr (Or.inr (Or.inr (Or.inr (Or.inr (Or.inr (Or.inr (Or.inr (Or.inr (Or.inr (Or.inl z))))))))))))))))))))))))) (fun z => Or.elim z (fun z => (Or.inr (Or.inr (Or.inr (Or.inr (Or.inr (Or.inr (Or.inr (Or.inr (Or.inr (Or.inr (Or.inr (Or.inr (Or.inr (Or.inr (Or.inr (Or.inr (Or.inr (Or.inr (Or.inr (Or.inr (Or.inr (Or.inr (Or.inr (Or.inr (Or.inr (Or.inr (Or.inl z)))))))))))))))))))))))))))) (fun z => (Or.inr (Or.inr (Or.inr (Or.inr (Or.inr (Or.inr (Or.inr (Or.inr (Or.inr (Or.inr (Or.inr (Or.inr (Or.inr (Or.inr (Or.inr (Or.inr (Or.inr (Or.inr (Or.inr (Or.inr (Or.inr (Or.inr (Or.inr (Or.inr (Or.inr (Or.inr (Or.inr z)))))))))))))))))))))))))))))))))))))))))
  replace e1_0 : 0 ≤ v1 ∧ v1 ≤ 1 := e1_0
  refine w_if (fun c1_ => ?_) (fun c1_ => ?_)
  · skip
    exact w_ret ⟨im1, km1, (show (-1) ≤ (-1) ∧ (-1) ≤ 8128 from ⟨by omega, by omega⟩), trivial⟩
  · skip
    refine w_gK (congrArg Prod.fst (kl_2 im1)) ?_
    refine w_call (s_X4_pickForms im1) ?_
    intro v10 m10 pp10
    obtain ⟨im10, kk10, -⟩ := pp10
    try dsimp only
    replace im10 : I n m10 := im10
    replace kk10 : Keep n W_X4_pickForms m1 m10 := kk10
    have km10 : Keep n W_X4_countForms M m10 := km1.tr kk10 (fun b j z => Or.elim z (fun z => (Or.inr (Or.inl z))) (fun z => Or.elim z (fun z => (Or.inr (Or.inr (Or.inl z)))) (fun z => Or.elim z (fun z => (Or.inr (Or.inr (Or.inr (Or.inl z))))) (fun z => Or.elim z (fun z => (Or.inr (Or.inr (Or.inr (Or.inr (Or.inr (Or.inr (Or.inl z)))))))) (fun z => Or.elim z (fun z => (Or.inr (Or.inr (Or.inr (Or.inr (Or.inr (Or.inr (Or.inr (Or.inr (Or.inr (Or.inr (Or.inr (Or.inr (Or.inl z)))))))))))))) (fun z => Or.elim z (fun z => (Or.inr (Or.inr (Or.inr (Or.inr (Or.inr (Or.inr (Or.inr (Or.inr (Or.inr (Or.inr (Or.inr (Or.inr (Or.inr (Or.inl z))))))))))))))) (fun z => Or.elim z (fun z => (Or.inr (Or.inr (Or.inr (Or.inr (Or.inr (Or.inr (Or.inr (Or.inr (Or.inr (Or.inr (Or.inr (Or.inr (Or.inr (Or.inr (Or.inl z)))))))))))))))) (fun z => Or.elim z (fun z => (Or.inr (Or.inr (Or.inr (Or.inr (Or.inr (Or.inr (Or.inr (Or.inr (Or.inr (Or.inr (Or.inr (Or.inr (Or.inr (Or.inr (Or.inr (Or.inl z))))))))))))))))) (fun z => Or.elim z (fun z => (Or.inr (Or.inr (Or.inr (Or.inr (Or.inr (Or.inr (Or.inr (Or.inr (Or.inr (Or.inr (Or.inr (Or.inr (Or.inr (Or.inr (Or.inr (Or.inr (Or.inl z)))))))))))))))))) (fun z => Or.elim z (fun z => (Or.inr (Or.inr (Or.inr (Or.inr (Or.inr (Or.inr (Or.inr (Or.inr (Or.inr (Or.inr (Or.inr (Or.inr (Or.inr (Or.inr (Or.inr (Or.inr (Or.inr (Or.inl z))))))))))))))))))) (fun z => Or.elim z (fun z => (Or.inr (Or.inr (Or.inr (Or.inr (Or.inr (Or.inr (Or.inr (Or.inr (Or.inr (Or.inr (Or.inr (Or.inr (Or.inr (Or.inr (Or.inr (Or.inr (Or.inr (Or.inr (Or.inl z)))))))))))))))))))) (fun z => Or.elim z (fun z => (Or.inr (Or.inr (Or.inr (Or.inr (Or.inr (Or.inr (Or.inr (Or.inr (Or.inr (Or.inr (Or.inr (Or.inr (Or.inr (Or.inr (Or.inr (Or.inr (Or.inr (Or.inr (Or.inr (Or.inl z))))))))))))))))))))) (fun z => Or.elim z (fun z => (Or.inr (Or.inr (Or.inr (Or.inr (Or.inr (Or.inr (Or.inr (Or.inr (Or.inr (Or.inr (Or.inr (Or.inr (Or.inr (Or.inr (Or.inr (Or.inr (Or.inr (Or.inr (Or.inr (Or.inr (Or.inr (Or.inr (Or.inr (Or.inr (Or.inl z)))))))))))))))))))))))))) (fun z => (Or.inr (Or.inr (Or.inr (Or.inr (Or.inr (Or.inr (Or.inr (Or.inr (Or.inr (Or.inr (Or.inr (Or.inr (Or.inr (Or.inr (Or.inr (Or.inr (Or.inr (Or.inr (Or.inr (Or.inr (Or.inr (Or.inr (Or.inr (Or.inr (Or.inr (Or.inl z))))))))))))))))))))))))))))))))))))))))
    refine w_gFc (ji := 7) rfl (congrArg Prod.fst (kl_2 im10)) (show mG m10 2 7 = 36 from rd_Solver_7 im10 (a := 2) rfl) ?_
    refine w_gK (congrArg Prod.fst (kl_36 im10)) ?_
    refine w_call (s_X7_count (by unfold isWS; omega) im10) ?_
    intro v17 m17 pp17
    obtain ⟨im17, kk17, e17_0, -⟩ := pp17
    try dsimp only
    replace im17 : I n m17 := im17
    replace kk17 : Keep n (W_X7_count 36) m10 m17 := kk17
    have km17 : Keep n W_X4_countForms M m17 := km10.tr kk17 (fun b j z => z.elim)
    replace e17_0 : 0 ≤ v17 ∧ v17 ≤ 8128 := e17_0
    exact w_ret ⟨im17, km17, (show (-1) ≤ v17 ∧ v17 ≤ 8128 from ⟨by omega, by omega⟩), trivial⟩
def W_X8_forms (b j : Int) : Prop := (21 ≤ b ∧ b ≤ 23) ∨ (25 ≤ b ∧ b ≤ 26) ∨ b = 28 ∨ b = 30 ∨ b = 33 ∨ b = 35 ∨ b = 37 ∨ isWS (b - 1) ∨ (b = 2 ∧ j = 4) ∨ (b = 20 ∧ j = 0) ∨ (b = 20 ∧ j = 1) ∨ (b = 20 ∧ j = 5) ∨ (b = 24 ∧ j = 4) ∨ (b = 24 ∧ j = 5) ∨ (b = 24 ∧ j = 6) ∨ (b = 24 ∧ j = 7) ∨ (b = 27 ∧ j = 1) ∨ (b = 27 ∧ j = 2) ∨ (b = 29 ∧ j = 1) ∨ (b = 29 ∧ j = 2) ∨ (b = 32 ∧ j = 1) ∨ (b = 32 ∧ j = 2) ∨ (b = 34 ∧ j = 1) ∨ (b = 34 ∧ j = 2) ∨ (b = 36 ∧ j = 1) ∨ (b = 36 ∧ j = 2) ∨ (isWS b ∧ j = 1) ∨ (isWS b ∧ j = 2)
theorem s_X8_forms {n : Nat} {M : Mem} (iM : I n M) : wp (mX8_forms 1 M) (fun q => I n q.2 ∧ Keep n W_X8_forms M q.2 ∧ ((-1) ≤ q.1 ∧ q.1 ≤ 8128) ∧ True) := by
  have hn : (169 : Int) ≤ (n : Int) := by have := iM.2.2.2.2.1; omega
  have kM : Keep n W_X8_forms M M := Keep.rf
  unfold mX8_forms
  refine w_gFc (ji := 0) rfl (congrArg Prod.fst (kl_1 iM)) (show mG M 1 0 = 2 from rd_VS_0 iM (a := 1) rfl) ?_
  refine w_gK (congrArg Prod.fst (kl_2 iM)) ?_
  refine w_call (s_X4_countForms iM) ?_
  intro v4 m4 pp4
  obtain ⟨im4, kk4, e4_0, -⟩ := pp4
  try dsimp only
  replace im4 : I n m4 := im4
  replace kk4 : Keep n W_X4_countForms M m4 := kk4
  have km4 : Keep n W_X8_forms M m4 := kM.tr kk4 (fun b j z => Or.elim z (fun z => (Or.inl z)) (fun z => Or.elim z (fun z => (Or.inr (Or.inl z))) (fun z => Or.elim z (fun z => (Or.inr (Or.inr (Or.inl z)))) (fun z => Or.elim z (fun z => (Or.inr (Or.inr (Or.inr (Or.inl z))))) (fun z => Or.elim z (fun z => (Or.inr (Or.inr (Or.inr (Or.inr (Or.inl z)))))) (fun z => Or.elim z (fun z => (Or.inr (Or.inr (Or.inr (Or.inr (Or.inr (Or.inl z))))))) (fun z => Or.elim z (fun z => (Or.inr (Or.inr (Or.inr (Or.inr (Or.inr (Or.inr (Or.inl z)))))))) (fun z => Or.elim z (fun z => (Or.inr (Or.inr (Or.inr (Or.inr (Or.inr (Or.inr (Or.inr (Or.inl z))))))))) (fun z => Or.elim z (fun z => (Or.inr (Or.inr (Or.inr (Or.inr (Or.inr (Or.inr (Or.inr (Or.inr (Or.inl z)))))))))) (fun z => Or.elim z (fun z => (Or.inr (Or.inr (Or.inr (Or.inr (Or.inr (Or.inr (Or.inr (Or.inr (Or.inr (Or.inl z))))))))))) (fun z => Or.elim z (fun z => (Or.inr (Or.inr (Or.inr (Or.inr (Or.inr (Or.inr (Or.inr (Or.inr (Or.inr (Or.inr (Or.inl z)))))))))))) (fun z => Or.elim z (fun z => (Or.inr (Or.inr (Or.inr (Or.inr (Or.inr (Or.inr (Or.inr (Or.inr (Or.inr (Or.inr (Or.inr (Or.inl z))))))))))))) (fun z => Or.elim z (fun z => (Or.inr (Or.inr (Or.inr (Or.inr (Or.inr (Or.inr (Or.inr (Or.inr (Or.inr (Or.inr (Or.inr (Or.inr (Or.inl z)))))))))))))) (fun z => Or.elim z (fun z => (Or.inr (Or.inr (Or.inr (Or.inr (Or.inr (Or.inr (Or.inr (Or.inr (Or.inr (Or.inr (Or.inr (Or.inr (Or.inr (Or.inl z))))))))))))))) (fun z => Or.elim z (fun z => (Or.inr (Or.inr (Or.inr (Or.inr (Or.inr (Or.inr (Or.inr (Or.inr (Or.inr (Or.inr (Or.inr (Or.inr (Or.inr (Or.inr (Or.inl z)))))))))))))))) (fun z => Or.elim z (fun z => (Or.inr (Or.inr (Or.inr (Or.inr (Or.inr (Or.inr (Or.inr (Or.inr (Or.inr (Or.inr (Or.inr (Or.inr (Or.inr (Or.inr (Or.inr (Or.inl z))))))))))))))))) (fun z => Or.elim z (fun z => (Or.inr (Or.inr (Or.inr (Or.inr (Or.inr (Or.inr (Or.inr (Or.inr (Or.inr (Or.inr (Or.inr (Or.inr (Or.inr (Or.inr (Or.inr (Or.inr (Or.inl z)))))))))))))))))) (fun z => Or.elim z (fun z => (Or.inr (Or.inr (Or.inr (Or.inr (Or.inr (Or.inr (Or.inr (Or.inr (Or.inr (Or.inr (Or.inr (Or.inr (Or.inr (Or.inr (Or.inr (Or.inr (Or.inr (Or.inl z))))))))))))))))))) (fun z => Or.elim z (fun z => (Or.inr (Or.inr (Or.inr (Or.inr (Or.inr (Or.inr (Or.inr (Or.inr (Or.inr (Or.inr (Or.inr (Or.inr (Or.inr (Or.inr (Or.inr (Or.inr (Or.inr (Or.inr (Or.inl z)))))))))))))))))))) (fun z => Or.elim z (fun z => (Or.inr (Or.inr (Or.inr (Or.inr (Or.inr (Or.inr (Or.inr (Or.inr (Or.inr (Or.inr (Or.inr (Or.inr (Or.inr (Or.inr (Or.inr (Or.inr (Or.inr (Or.inr (Or.inr (Or.inl z))))))))))))))))))))) (fun z => Or.elim z (fun z => (Or.inr (Or.inr (Or.inr (Or.inr (Or.inr (Or.inr (Or.inr (Or.inr (Or.inr (Or.inr (Or.inr (Or.inr (Or.inr (Or.inr (Or.inr (Or.inr (Or.inr (Or.inr (Or.inr (Or.inr (Or.inl z)))))))))))))))))))))) (fun z => Or.elim z (fun z => (Or.inr (Or.inr (Or.inr (Or.inr (Or.inr (Or.inr (Or.inr (Or.inr (Or.inr (Or.inr (Or.inr (Or.inr (Or.inr (Or.inr (Or.inr (Or.inr (Or.inr (Or.inr (Or.inr (Or.inr (Or.inr (Or.inl z))))))))))))))))))))))) (fun z => Or.elim z (fun z => (Or.inr (Or.inr (Or.inr (Or.inr (Or.inr (Or.inr (Or.inr (Or.inr (Or.inr (Or.inr (Or.inr (Or.inr (Or.inr (Or.inr (Or.inr (Or.inr (Or.inr (Or.inr (Or.inr (Or.inr (Or.inr (Or.inr (Or.inl z)))))))))))))))))))))))) (fun z => Or.elim z (fun z => (Or.inr (Or.inr (Or.inr (Or.inr (Or.inr (Or.inr (Or.inr (Or.inr (Or.inr (Or.inr (Or.inr (Or.inr (Or.inr (Or.inr (Or.inr (Or.inr (Or.inr (Or.inr (Or.inr (Or.inr (Or.inr (Or.inr (Or.inr (Or.inl z))))))))))))))))))))))))) (fun z => Or.elim z (fun z => (Or.inr (Or.inr (Or.inr (Or.inr (Or.inr (Or.inr (Or.inr (Or.inr (Or.inr (Or.inr (Or.inr (Or.inr (Or.inr (Or.inr (Or.inr (Or.inr (Or.inr (Or.inr (Or.inr (Or.inr (Or.inr (Or.inr (Or.inr (Or.inr (Or.inl z)))))))))))))))))))))))))) (fun z => Or.elim z (fun z => (Or.inr (Or.inr (Or.inr (Or.inr (Or.inr (Or.inr (Or.inr (Or.inr (Or.inr (Or.inr (Or.inr (Or.inr (Or.inr (Or.inr (Or.inr (Or.inr (Or.inr (Or.inr (Or.inr (Or.inr (Or.inr (Or.inr (Or.inr (Or.inr (Or.inr (Or.inl z))))))))))))))))))))))))))) (fun z => Or.elim z (fun z => (Or.inr (Or.inr (Or.inr (Or.inr (Or.inr (Or.inr (Or.inr (Or.inr (Or.inr (Or.inr (Or.inr (Or.inr (Or.inr (Or.inr (Or.inr (Or.inr (Or.inr (Or.inr (Or.inr (Or.inr (Or.inr (Or.inr (Or.inr (Or.inr (Or.inr (Or.inr (Or.inl z)))))))))))))))))))))))))))) (fun z => (Or.inr (Or.inr (Or.inr (Or.inr (Or.inr (Or.inr (Or.inr (Or.inr (Or.inr (Or.inr (Or.inr (Or.inr (Or.inr (Or.inr (Or.inr (Or.inr (Or.inr (Or.inr (Or.inr (Or.inr (Or.inr (Or.inr (Or.inr (Or.inr (Or.inr (Or.inr (Or.inr z)))))))))))))))))))))))))))))))))))))))))))))))))))))))
  replace e4_0 : (-1) ≤ v4 ∧ v4 ≤ 8128 := e4_0
  exact w_ret ⟨im4, km4, (show (-1) ≤ v4 ∧ v4 ≤ 8128 from ⟨by omega, by omega⟩), trivial⟩
def W_X7_nth (l0 : Int) (b j : Int) : Prop := False
theorem s_X7_nth_33 {n : Nat} {Me : Mem} {l0 : Int} (h_l0 : isWS l0) {k4 : Int → Int → Int → Mem → Option (Int × Mem)} {fu4 : Nat} (hk4 : ∀ (l2 l3 : Int) (M : Mem), ((-2147483648) ≤ l2 ∧ l2 ≤ 2147483647) → (0 ≤ l3 ∧ l3 ≤ 4096) → 4097 - l3 < (fu4 : Int) → I n M → Keep n (W_X7_nth l0) Me M → wp (k4 l0 l2 l3 M) (fun q => I n q.2 ∧ Keep n (W_X7_nth l0) Me q.2 ∧ ((-1) ≤ q.1 ∧ q.1 ≤ 4095) ∧ True)) {l2 l3 : Int} {M : Mem} (r_l2 : 0 ≤ l2 ∧ l2 ≤ 2147483647) (r_l3 : 0 ≤ l3 ∧ l3 ≤ 4095) (hf4 : 4097 - l3 < (fu4 : Int) + 1) (iM : I n M) (kM : Keep n (W_X7_nth l0) Me M) : wp (mX7_nth_33 k4 l0 l2 l3 M) (fun q => I n q.2 ∧ Keep n (W_X7_nth l0) Me q.2 ∧ ((-1) ≤ q.1 ∧ q.1 ≤ 4095) ∧ True) := by
  have hn : (169 : Int) ≤ (n : Int) := by have := iM.2.2.2.2.1; omega
  have u_l0 := h_l0
  unfold isWS at u_l0
  unfold mX7_nth_33
  have w1_ := wI_id (x := (l3 + 1)) (by omega) (by omega)
  exact hk4 _ _ _ ⟨by omega, by omega⟩ ⟨by omega, by omega⟩ (by omega) iM kM
theorem sb_X7_nth_4 {n : Nat} {Me : Mem} {l0 : Int} (h_l0 : isWS l0) {k4 : Int → Int → Int → Mem → Option (Int × Mem)} {fu4 : Nat} (hk4 : ∀ (l2 l3 : Int) (M : Mem), ((-2147483648) ≤ l2 ∧ l2 ≤ 2147483647) → (0 ≤ l3 ∧ l3 ≤ 4096) → 4097 - l3 < (fu4 : Int) → I n M → Keep n (W_X7_nth l0) Me M → wp (k4 l0 l2 l3 M) (fun q => I n q.2 ∧ Keep n (W_X7_nth l0) Me q.2 ∧ ((-1) ≤ q.1 ∧ q.1 ≤ 4095) ∧ True)) {l2 l3 : Int} {M : Mem} (r_l2 : (-2147483648) ≤ l2 ∧ l2 ≤ 2147483647) (r_l3 : 0 ≤ l3 ∧ l3 ≤ 4096) (hf4 : 4097 - l3 < (fu4 : Int) + 1) (iM : I n M) (kM : Keep n (W_X7_nth l0) Me M) : wp (bX7_nth_4 k4 l0 l2 l3 M) (fun q => I n q.2 ∧ Keep n (W_X7_nth l0) Me q.2 ∧ ((-1) ≤ q.1 ∧ q.1 ≤ 4095) ∧ True) := by
  have hn : (169 : Int) ≤ (n : Int) := by have := iM.2.2.2.2.1; omega
  have u_l0 := h_l0
  unfold isWS at u_l0
  unfold bX7_nth_4
  refine w_gK (congrArg Prod.fst (k_WS iM h_l0)) ?_
  refine w_call (s_X7_most h_l0 iM) ?_
  intro v6 m6 pp6
  obtain ⟨im6, kk6, e6_0, -⟩ := pp6
  try dsimp only
  replace im6 : I n m6 := im6
  replace kk6 : Keep n (W_X7_most l0) M m6 := kk6
  have km6 : Keep n (W_X7_nth l0) Me m6 := kM.tr kk6 (fun b j z => z.elim)
  replace e6_0 : 1 ≤ v6 ∧ v6 ≤ 4096 := e6_0
  refine w_if (fun c1_ => ?_) (fun c1_ => ?_)
  · skip
    exact w_ret ⟨im6, km6, (show (-1) ≤ (-1) ∧ (-1) ≤ 4095 from ⟨by omega, by omega⟩), trivial⟩
  · skip
    refine w_if (fun c2_ => ?_) (fun c2_ => ?_)
    · skip
      exact w_ret ⟨im6, km6, (show (-1) ≤ (-1) ∧ (-1) ≤ 4095 from ⟨by omega, by omega⟩), trivial⟩
    · skip
      refine w_gK (congrArg Prod.fst (k_WS im6 h_l0)) ?_
      refine w_call (s_X7_has h_l0 ⟨by omega, by omega⟩ im6) ?_
      intro v18 m18 pp18
      obtain ⟨im18, kk18, e18_0, -⟩ := pp18
      try dsimp only
      replace im18 : I n m18 := im18
      replace kk18 : Keep n (W_X7_has l0) m6 m18 := kk18
      have km18 : Keep n (W_X7_nth l0) Me m18 := km6.tr kk18 (fun b j z => z.elim)
      replace e18_0 : 0 ≤ v18 ∧ v18 ≤ 1 := e18_0
      refine w_if (fun c3_ => ?_) (fun c3_ => ?_)
      · skip
        exact s_X7_nth_33 h_l0 hk4 ⟨by omega, by omega⟩ ⟨by omega, by omega⟩ (by omega) im18 km18
      · skip
        refine w_if (fun c4_ => ?_) (fun c4_ => ?_)
        · skip
          exact w_ret ⟨im18, km18, (show (-1) ≤ l3 ∧ l3 ≤ 4095 from ⟨by omega, by omega⟩), trivial⟩
        · skip
          have w5_ := wI_id (x := (l2 + (-1))) (by omega) (by omega)
          exact s_X7_nth_33 h_l0 hk4 ⟨by omega, by omega⟩ ⟨by omega, by omega⟩ (by omega) im18 km18
theorem s_X7_nth_4 {n : Nat} {Me : Mem} {l0 : Int} (h_l0 : isWS l0) : ∀ (fu : Nat) (l2 l3 : Int) (M : Mem), ((-2147483648) ≤ l2 ∧ l2 ≤ 2147483647) → (0 ≤ l3 ∧ l3 ≤ 4096) → 4097 - l3 < (fu : Int) → I n M → Keep n (W_X7_nth l0) Me M → wp (mX7_nth_4 fu l0 l2 l3 M) (fun q => I n q.2 ∧ Keep n (W_X7_nth l0) Me q.2 ∧ ((-1) ≤ q.1 ∧ q.1 ≤ 4095) ∧ True) := by
  intro fu
  induction fu with
  | zero =>
    intro l2 l3 M r_l2 r_l3 hf iM kM
    exfalso
    omega
  | succ fu ih =>
    intro l2 l3 M r_l2 r_l3 hf iM kM
    exact sb_X7_nth_4 h_l0 ih r_l2 r_l3 (by have e : ((fu + 1 : Nat) : Int) = (fu : Int) + 1 := rfl; rw [e] at hf; exact hf) iM kM
theorem s_X7_nth {n : Nat} {l0 l1 : Int} {M : Mem} (h_l0 : isWS l0) (r_l1 : (-2147483648) ≤ l1 ∧ l1 ≤ 2147483647) (iM : I n M) : wp (mX7_nth l0 l1 M) (fun q => I n q.2 ∧ Keep n (W_X7_nth l0) M q.2 ∧ ((-1) ≤ q.1 ∧ q.1 ≤ 4095) ∧ True) := by
  have hn : (169 : Int) ≤ (n : Int) := by have := iM.2.2.2.2.1; omega
  have kM : Keep n (W_X7_nth l0) M M := Keep.rf
  have u_l0 := h_l0
  unfold isWS at u_l0
  unfold mX7_nth
  exact s_X7_nth_4 h_l0 FU _ _ _ ⟨by omega, by omega⟩ ⟨by omega, by omega⟩ (by show _ < (70000 : Int); omega) iM kM
def W_X4_nthForm (b j : Int) : Prop := (21 ≤ b ∧ b ≤ 23) ∨ (25 ≤ b ∧ b ≤ 26) ∨ b = 28 ∨ b = 30 ∨ b = 33 ∨ b = 35 ∨ b = 37 ∨ isWS (b - 1) ∨ (b = 2 ∧ j = 4) ∨ (b = 20 ∧ j = 0) ∨ (b = 20 ∧ j = 1) ∨ (b = 20 ∧ j = 5) ∨ (b = 24 ∧ j = 4) ∨ (b = 24 ∧ j = 5) ∨ (b = 24 ∧ j = 6) ∨ (b = 24 ∧ j = 7) ∨ (b = 27 ∧ j = 1) ∨ (b = 27 ∧ j = 2) ∨ (b = 29 ∧ j = 1) ∨ (b = 29 ∧ j = 2) ∨ (b = 32 ∧ j = 1) ∨ (b = 32 ∧ j = 2) ∨ (b = 34 ∧ j = 1) ∨ (b = 34 ∧ j = 2) ∨ (b = 36 ∧ j = 1) ∨ (b = 36 ∧ j = 2) ∨ (isWS b ∧ j = 1) ∨ (isWS b ∧ j = 2)
theorem s_X4_nthForm {n : Nat} {l1 : Int} {M : Mem} (r_l1 : (-2147483648) ≤ l1 ∧ l1 ≤ 2147483647) (iM : I n M) : wp (mX4_nthForm 2 l1 M) (fun q => I n q.2 ∧ Keep n W_X4_nthForm M q.2 ∧ ((-1) ≤ q.1 ∧ q.1 ≤ 4095) ∧ True) := by
  have hn : (169 : Int) ≤ (n : Int) := by have := iM.2.2.2.2.1; omega
  have kM : Keep n W_X4_nthForm M M := Keep.rf
  unfold mX4_nthForm
  refine w_gK (congrArg Prod.fst (kl_2 iM)) ?_
  refine w_call (s_X4_lookUp iM) ?_
  intro v1 m1 pp1
  obtain ⟨im1, kk1, e1_0, -⟩ := pp1
  try dsimp only
  replace im1 : I n m1 := im1
  replace kk1 : Keep n W_X4_lookUp M m1 := kk1
  have km1 : Keep n W_X4_nthForm M m1 := kM.tr kk1 (fun b j z => Or.elim z (fun z => (Or.inl z)) (fun z => Or.elim z (fun z => (Or.inr (Or.inr (Or.inr (Or.inr (Or.inl z)))))) (fun z => Or.elim z (fun z => (Or.inr (Or.inr (Or.inr (Or.inr (Or.inr (Or.inl z))))))) (fun z => Or.elim z (fun z => (Or.inr (Or.inr (Or.inr (Or.inr (Or.inr (Or.inr (Or.inr (Or.inl z))))))))) (fun z => Or.elim z (fun z => (Or.inr (Or.inr (Or.inr (Or.inr (Or.inr (Or.inr (Or.inr (Or.inr (Or.inl z)))))))))) (fun z => Or.elim z (fun z => (Or.inr (Or.inr (Or.inr (Or.inr (Or.inr (Or.inr (Or.inr (Or.inr (Or.inr (Or.inl z))))))))))) (fun z => Or.elim z (fun z => (Or.inr (Or.inr (Or.inr (Or.inr (Or.inr (Or.inr (Or.inr (Or.inr (Or.inr (Or.inr (Or.inl z)))))))))))) (fun z => Or.elim z (fun z => (Or.inr (Or.inr (Or.inr (Or.inr (Or.inr (Or.inr (Or.inr (Or.inr (Or.inr (Or.inr (Or.inr (Or.inl z))))))))))))) (fun z => Or.elim z (fun z => (Or.inr (Or.inr (Or.inr (Or.inr (Or.inr (Or.inr (Or.inr (Or.inr (Or.inr (Or.inr (Or.inr (Or.inr (Or.inr (Or.inr (Or.inr (Or.inr (Or.inr (Or.inr (Or.inr (Or.inr (Or.inl z)))))))))))))))))))))) (fun z => Or.elim z (fun z => (Or.inr (Or.inr (Or.inr (Or.inr (Or.inr (Or.inr (Or.inr (Or.inr (Or.inr (Or.inr (Or.inr (Or.inr (Or.inr (Or.inr (Or.inr (Or.inr (Or.inr (Or.inr (Or.inr (Or.inr (Or.inr (Or.inl z))))))))))))))))))))))) (fun z => Or.elim z (fun z => (Or.inr (Or.inr (Or.inr (Or.inr (Or.inr (Or.inr (Or.inr (Or.inr (Or.inr (Or.inr (Or.inr (Or.inr (Or.inr (Or.inr (Or.inr (Or.inr (Or.inr (Or.inr (Or.inr (Or.inr (Or.inr (Or.inr (Or.inl z)))))))))))))))))))))))) (fun z => Or.elim z (fun z => (Or.inr (Or.inr (Or.inr (Or.inr (Or.inr (Or.inr (Or.inr (Or.inr (Or.inr (Or.inr (Or.inr (Or.inr (Or.inr (Or.inr (Or.inr (Or.inr (Or.inr (Or.inr (Or.inr (Or.inr (Or.inr (Or.inr (Or.inr (Or.inl z))))))))))))))))))))))))) (fun z => Or.elim z (fun z => (Or.inr (Or.inr (Or.inr (Or.inr (Or.inr (Or.inr (Or.inr (Or.inr (Or.inr (Or.inr (Or.inr (Or.inr (Or.inr (Or.inr (Or.inr (Or.inr (Or.inr (Or.inr (Or.inr (Or.inr (Or.inr (Or.inr (Or.inr (Or.inr (Or.inr (Or.inr (Or.inl z)))))))))))))))))))))))))))) (fun z => (Or.inr (Or.inr (Or.inr (Or.inr (Or.inr (Or.inr (Or.inr (Or.inr (Or.inr (Or.inr (Or.inr (Or.inr (Or.inr (Or.inr (Or.inr (Or.inr (Or.inr (Or.inr (Or.inr (Or.inr (Or.inr (Or.inr (Or.inr (Or.inr (Or.inr (Or.inr (Or.inr z)))))))))))))))))))))))))))))))))))))))))
  replace e1_0 : 0 ≤ v1 ∧ v1 ≤ 1 := e1_0
  refine w_if (fun c1_ => ?_) (fun c1_ => ?_)
  · skip
    exact w_ret ⟨im1, km1, (show (-1) ≤ (-1) ∧ (-1) ≤ 4095 from ⟨by omega, by omega⟩), trivial⟩
  · skip
    refine w_gK (congrArg Prod.fst (kl_2 im1)) ?_
    refine w_call (s_X4_pickForms im1) ?_
    intro v10 m10 pp10
    obtain ⟨im10, kk10, -⟩ := pp10
    try dsimp only
    replace im10 : I n m10 := im10
    replace kk10 : Keep n W_X4_pickForms m1 m10 := kk10
    have km10 : Keep n W_X4_nthForm M m10 := km1.tr kk10 (fun b j z => Or.elim z (fun z => (Or.inr (Or.inl z))) (fun z => Or.elim z (fun z => (Or.inr (Or.inr (Or.inl z)))) (fun z => Or.elim z (fun z => (Or.inr (Or.inr (Or.inr (Or.inl z))))) (fun z => Or.elim z (fun z => (Or.inr (Or.inr (Or.inr (Or.inr (Or.inr (Or.inr (Or.inl z)))))))) (fun z => Or.elim z (fun z => (Or.inr (Or.inr (Or.inr (Or.inr (Or.inr (Or.inr (Or.inr (Or.inr (Or.inr (Or.inr (Or.inr (Or.inr (Or.inl z)))))))))))))) (fun z => Or.elim z (fun z => (Or.inr (Or.inr (Or.inr (Or.inr (Or.inr (Or.inr (Or.inr (Or.inr (Or.inr (Or.inr (Or.inr (Or.inr (Or.inr (Or.inl z))))))))))))))) (fun z => Or.elim z (fun z => (Or.inr (Or.inr (Or.inr (Or.inr (Or.inr (Or.inr (Or.inr (Or.inr (Or.inr (Or.inr (Or.inr (Or.inr (Or.inr (Or.inr (Or.inl z)))))))))))))))) (fun z => Or.elim z (fun z => (Or.inr (Or.inr (Or.inr (Or.inr (Or.inr (Or.inr (Or.inr (Or.inr (Or.inr (Or.inr (Or.inr (Or.inr (Or.inr (Or.inr (Or.inr (Or.inl z))))))))))))))))) (fun z => Or.elim z (fun z => (Or.inr (Or.inr (Or.inr (Or.inr (Or.inr (Or.inr (Or.inr (Or.inr (Or.inr (Or.inr (Or.inr (Or.inr (Or.inr (Or.inr (Or.inr (Or.inr (Or.inl z)))))))))))))))))) (fun z => Or.elim z (fun z => (Or.inr (Or.inr (Or.inr (Or.inr (Or.inr (Or.inr (Or.inr (Or.inr (Or.inr (Or.inr (Or.inr (Or.inr (Or.inr (Or.inr (Or.inr (Or.inr (Or.inr (Or.inl z))))))))))))))))))) (fun z => Or.elim z (fun z => (Or.inr (Or.inr (Or.inr (Or.inr (Or.inr (Or.inr (Or.inr (Or.inr (Or.inr (Or.inr (Or.inr (Or.inr (Or.inr (Or.inr (Or.inr (Or.inr (Or.inr (Or.inr (Or.inl z)))))))))))))))))))) (fun z => Or.elim z (fun z => (Or.inr (Or.inr (Or.inr (Or.inr (Or.inr (Or.inr (Or.inr (Or.inr (Or.inr (Or.inr (Or.inr (Or.inr (Or.inr (Or.inr (Or.inr (Or.inr (Or.inr (Or.inr (Or.inr (Or.inl z))))))))))))))))))))) (fun z => Or.elim z (fun z => (Or.inr (Or.inr (Or.inr (Or.inr (Or.inr (Or.inr (Or.inr (Or.inr (Or.inr (Or.inr (Or.inr (Or.inr (Or.inr (Or.inr (Or.inr (Or.inr (Or.inr (Or.inr (Or.inr (Or.inr (Or.inr (Or.inr (Or.inr (Or.inr (Or.inl z)))))))))))))))))))))))))) (fun z => (Or.inr (Or.inr (Or.inr (Or.inr (Or.inr (Or.inr (Or.inr (Or.inr (Or.inr (Or.inr (Or.inr (Or.inr (Or.inr (Or.inr (Or.inr (Or.inr (Or.inr (Or.inr (Or.inr (Or.inr (Or.inr (Or.inr (Or.inr (Or.inr (Or.inr (Or.inl z))))))))))))))))))))))))))))))))))))))))
    refine w_gFc (ji := 7) rfl (congrArg Prod.fst (kl_2 im10)) (show mG m10 2 7 = 36 from rd_Solver_7 im10 (a := 2) rfl) ?_
    refine w_gK (congrArg Prod.fst (kl_36 im10)) ?_
    refine w_call (s_X7_nth (by unfold isWS; omega) ⟨by omega, by omega⟩ im10) ?_
    intro v18 m18 pp18
    obtain ⟨im18, kk18, e18_0, -⟩ := pp18
    try dsimp only
    replace im18 : I n m18 := im18
    replace kk18 : Keep n (W_X7_nth 36) m10 m18 := kk18
    have km18 : Keep n W_X4_nthForm M m18 := km10.tr kk18 (fun b j z => z.elim)
    replace e18_0 : (-1) ≤ v18 ∧ v18 ≤ 4095 := e18_0
    exact w_ret ⟨im18, km18, (show (-1) ≤ v18 ∧ v18 ≤ 4095 from ⟨by omega, by omega⟩), trivial⟩
def W_X8_becomes (b j : Int) : Prop := (b = 3 ∧ j = 1)
theorem s_X8_becomes {n : Nat} {l1 : Int} {M : Mem} (r_l1 : (-2147483648) ≤ l1 ∧ l1 ≤ 2147483647) (iM : I n M) : wp (mX8_becomes 1 l1 M) (fun q => I n q.2 ∧ Keep n W_X8_becomes M q.2 ∧ (0 ≤ q.1 ∧ q.1 ≤ 1) ∧ True) := by
  have hn : (169 : Int) ≤ (n : Int) := by have := iM.2.2.2.2.1; omega
  have kM : Keep n W_X8_becomes M M := Keep.rf
  unfold mX8_becomes
  refine w_if (fun c1_ => ?_) (fun c1_ => ?_)
  · skip
    exact w_ret ⟨iM, kM, (show 0 ≤ 0 ∧ 0 ≤ 1 from ⟨by omega, by omega⟩), trivial⟩
  · skip
    refine w_gFc (ji := 1) rfl (congrArg Prod.fst (kl_1 iM)) (show mG M 1 1 = 3 from rd_VS_1 iM (a := 1) rfl) ?_
    have w2_ := (rfl : i2l l1 = l1)
    refine w_pF (ji := 1) rfl (congrArg Prod.fst (kl_3 iM)) (fun M13 hM13 => ?_)
    replace hM13 : M13 = mS M 3 1 (i2l l1) := hM13
    have iM13 : I n M13 := wr_Told_1 iM rfl hM13
    have kM13 : Keep n W_X8_becomes M M13 := kM.st hM13 (Or.inl ⟨rfl, rfl⟩)
    obtain ⟨svM13, esvM13⟩ : ∃ z, z = (i2l l1) := ⟨_, rfl⟩
    exact w_ret ⟨iM13, kM13, (show 0 ≤ 1 ∧ 1 ≤ 1 from ⟨by omega, by omega⟩), trivial⟩
def W_X8_form (b j : Int) : Prop := (21 ≤ b ∧ b ≤ 23) ∨ (25 ≤ b ∧ b ≤ 26) ∨ b = 28 ∨ b = 30 ∨ b = 33 ∨ b = 35 ∨ b = 37 ∨ isWS (b - 1) ∨ (b = 2 ∧ j = 4) ∨ (b = 20 ∧ j = 0) ∨ (b = 20 ∧ j = 1) ∨ (b = 20 ∧ j = 5) ∨ (b = 24 ∧ j = 4) ∨ (b = 24 ∧ j = 5) ∨ (b = 24 ∧ j = 6) ∨ (b = 24 ∧ j = 7) ∨ (b = 27 ∧ j = 1) ∨ (b = 27 ∧ j = 2) ∨ (b = 29 ∧ j = 1) ∨ (b = 29 ∧ j = 2) ∨ (b = 3 ∧ j = 1) ∨ (b = 32 ∧ j = 1) ∨ (b = 32 ∧ j = 2) ∨ (b = 34 ∧ j = 1) ∨ (b = 34 ∧ j = 2) ∨ (b = 36 ∧ j = 1) ∨ (b = 36 ∧ j = 2) ∨ (isWS b ∧ j = 1) ∨ (isWS b ∧ j = 2)
theorem s_X8_form {n : Nat} {l1 : Int} {M : Mem} (r_l1 : (-2147483648) ≤ l1 ∧ l1 ≤ 2147483647) (iM : I n M) : wp (mX8_form 1 l1 M) (fun q => I n q.2 ∧ Keep n W_X8_form M q.2 ∧ (0 ≤ q.1 ∧ q.1 ≤ 1) ∧ True) := by
  have hn : (169 : Int) ≤ (n : Int) := by have := iM.2.2.2.2.1; omega
  have kM : Keep n W_X8_form M M := Keep.rf
  unfold mX8_form
  refine w_gFc (ji := 0) rfl (congrArg Prod.fst (kl_1 iM)) (show mG M 1 0 = 2 from rd_VS_0 iM (a := 1) rfl) ?_
  refine w_gK (congrArg Prod.fst (kl_2 iM)) ?_
  refine w_call (s_X4_nthForm ⟨by omega, by omega⟩ iM) ?_
  intro v6 m6 pp6
  obtain ⟨im6, kk6, e6_0, -⟩ := pp6
  try dsimp only
  replace im6 : I n m6 := im6
  replace kk6 : Keep n W_X4_nthForm M m6 := kk6
  have km6 : Keep n W_X8_form M m6 := kM.tr kk6 (fun b j z => Or.elim z (fun z => (Or.inl z)) (fun z => Or.elim z (fun z => (Or.inr (Or.inl z))) (fun z => Or.elim z (fun z => (Or.inr (Or.inr (Or.inl z)))) (fun z => Or.elim z (fun z => (Or.inr (Or.inr (Or.inr (Or.inl z))))) (fun z => Or.elim z (fun z => (Or.inr (Or.inr (Or.inr (Or.inr (Or.inl z)))))) (fun z => Or.elim z (fun z => (Or.inr (Or.inr (Or.inr (Or.inr (Or.inr (Or.inl z))))))) (fun z => Or.elim z (fun z => (Or.inr (Or.inr (Or.inr (Or.inr (Or.inr (Or.inr (Or.inl z)))))))) (fun z => Or.elim z (fun z => (Or.inr (Or.inr (Or.inr (Or.inr (Or.inr (Or.inr (Or.inr (Or.inl z))))))))) (fun z => Or.elim z (fun z => (Or.inr (Or.inr (Or.inr (Or.inr (Or.inr (Or.inr (Or.inr (Or.inr (Or.inl z)))))))))) (fun z => Or.elim z (fun z => (Or.inr (Or.inr (Or.inr (Or.inr (Or.inr (Or.inr (Or.inr (Or.inr (Or.inr (Or.inl z))))))))))) (fun z => Or.elim z (fun z => (Or.inr (Or.inr (Or.inr (Or.inr (Or.inr (Or.inr (Or.inr (Or.inr (Or.inr (Or.inr (Or.inl z)))))))))))) (fun z => Or.elim z (fun z => (Or.inr (Or.inr (Or.inr (Or.inr (Or.inr (Or.inr (Or.inr (Or.inr (Or.inr (Or.inr (Or.inr (Or.inl z))))))))))))) (fun z => Or.elim z (fun z => (Or.inr (Or.inr (Or.inr (Or.inr (Or.inr (Or.inr (Or.inr (Or.inr (Or.inr (Or.inr (Or.inr (Or.inr (Or.inl z)))))))))))))) (fun z => Or.elim z (fun z => (Or.inr (Or.inr (Or.inr (Or.inr (Or.inr (Or.inr (Or.inr (Or.inr (Or.inr (Or.inr (Or.inr (Or.inr (Or.inr (Or.inl z))))))))))))))) (fun z => Or.elim z (fun z => (Or.inr (Or.inr (Or.inr (Or.inr (Or.inr (Or.inr (Or.inr (Or.inr (Or.inr (Or.inr (Or.inr (Or.inr (Or.inr (Or.inr (Or.inl z)))))))))))))))) (fun z => Or.elim z (fun z => (Or.inr (Or.inr (Or.inr (Or.inr (Or.inr (Or.inr (Or.inr (Or.inr (Or.inr (Or.inr (Or.inr (Or.inr (Or.inr (Or.inr (Or.inr (Or.inl z))))))))))))))))) (fun z => Or.elim z (fun z => (Or.inr (Or.inr (Or.inr (Or.inr (Or.inr (Or.inr (Or.inr (Or.inr (Or.inr (Or.inr (Or.inr (Or.inr (Or.inr (Or.inr (Or.inr (Or.inr (Or.inl z)))))))))))))))))) (fun z => Or.elim z (fun z => (Or.inr (Or.inr (Or.inr (Or.inr (Or.inr (Or.inr (Or.inr (Or.inr (Or.inr (Or.inr (Or.inr (Or.inr (Or.inr (Or.inr (Or.inr (Or.inr (Or.inr (Or.inl z))))))))))))))))))) (fun z => Or.elim z (fun z => (Or.inr (Or.inr (Or.inr (Or.inr (Or.inr (Or.inr (Or.inr (Or.inr (Or.inr (Or.inr (Or.inr (Or.inr (Or.inr (Or.inr (Or.inr (Or.inr (Or.inr (Or.inr (Or.inl z)))))))))))))))))))) (fun z => Or.elim z (fun z => (Or.inr (Or.inr (Or.inr (Or.inr (Or.inr (Or.inr (Or.inr (Or.inr (Or.inr (Or.inr (Or.inr (Or.inr (Or.inr (Or.inr (Or.inr (Or.inr (Or.inr (Or.inr (Or.inr (Or.inl z))))))))))))))))))))) (fun z => Or.elim z (fun z => (Or.inr (Or.inr (Or.inr (Or.inr (Or.inr (Or.inr (Or.inr (Or.inr (Or.inr (Or.inr (Or.inr (Or.inr (Or.inr (Or.inr (Or.inr (Or.inr (Or.inr (Or.inr (Or.inr (Or.inr (Or.inr (Or.inl z))))))))))))))))))))))) (fun z => Or.elim z (fun z => (Or.inr (Or.inr (Or.inr (Or.inr (Or.inr (Or.inr (Or.inr (Or.inr (Or.inr (Or.inr (Or.inr (Or.inr (Or.inr (Or.inr (Or.inr (Or.inr (Or.inr (Or.inr (Or.inr (Or.inr (Or.inr (Or.inr (Or.inl z)))))))))))))))))))))))) (fun z => Or.elim z (fun z => (Or.inr (Or.inr (Or.inr (Or.inr (Or.inr (Or.inr (Or.inr (Or.inr (Or.inr (Or.inr (Or.inr (Or.inr (Or.inr (Or.inr (Or.inr (Or.inr (Or.inr (Or.inr (Or.inr (Or.inr (Or.inr (Or.inr (Or.inr (Or.inl z))))))))))))))))))))))))) (fun z => Or.elim z (fun z => (Or.inr (Or.inr (Or.inr (Or.inr (Or.inr (Or.inr (Or.inr (Or.inr (Or.inr (Or.inr (Or.inr (Or.inr (Or.inr (Or.inr (Or.inr (Or.inr (Or.inr (Or.inr (Or.inr (Or.inr (Or.inr (Or.inr (Or.inr (Or.inr (Or.inl z)))))))))))))))))))))))))) (fun z => Or.elim z (fun z => (Or.inr (Or.inr (Or.inr (Or.inr (Or.inr (Or.inr (Or.inr (Or.inr (Or.inr (Or.inr (Or.inr (Or.inr (Or.inr (Or.inr (Or.inr (Or.inr (Or.inr (Or.inr (Or.inr (Or.inr (Or.inr (Or.inr (Or.inr (Or.inr (Or.inr (Or.inl z))))))))))))))))))))))))))) (fun z => Or.elim z (fun z => (Or.inr (Or.inr (Or.inr (Or.inr (Or.inr (Or.inr (Or.inr (Or.inr (Or.inr (Or.inr (Or.inr (Or.inr (Or.inr (Or.inr (Or.inr (Or.inr (Or.inr (Or.inr (Or.inr (Or.inr (Or.inr (Or.inr (Or.inr (Or.inr (Or.inr (Or.inr (Or.inl z)))))))))))))))))))))))))))) (fun z => Or.elim z (fun z => (Or.inr (Or.inr (Or.inr (Or.inr (Or.inr (Or.inr (Or.inr (Or.inr (Or.inr (Or.inr (Or.inr (Or.inr (Or.inr (Or.inr (Or.inr (Or.inr (Or.inr (Or.inr (Or.inr (Or.inr (Or.inr (Or.inr (Or.inr (Or.inr (Or.inr (Or.inr (Or.inr (Or.inl z))))))))))))))))))))))))))))) (fun z => (Or.inr (Or.inr (Or.inr (Or.inr (Or.inr (Or.inr (Or.inr (Or.inr (Or.inr (Or.inr (Or.inr (Or.inr (Or.inr (Or.inr (Or.inr (Or.inr (Or.inr (Or.inr (Or.inr (Or.inr (Or.inr (Or.inr (Or.inr (Or.inr (Or.inr (Or.inr (Or.inr (Or.inr z))))))))))))))))))))))))))))))))))))))))))))))))))))))))
  replace e6_0 : (-1) ≤ v6 ∧ v6 ≤ 4095 := e6_0
  refine w_gK (congrArg Prod.fst (kl_1 im6)) ?_
  refine w_call (s_X8_becomes ⟨by omega, by omega⟩ im6) ?_
  intro v9 m9 pp9
  obtain ⟨im9, kk9, e9_0, -⟩ := pp9
  try dsimp only
  replace im9 : I n m9 := im9
  replace kk9 : Keep n W_X8_becomes m6 m9 := kk9
  have km9 : Keep n W_X8_form M m9 := km6.tr kk9 (fun b j z => by unfold W_X8_becomes at z; exact (Or.inr (Or.inr (Or.inr (Or.inr (Or.inr (Or.inr (Or.inr (Or.inr (Or.inr (Or.inr (Or.inr (Or.inr (Or.inr (Or.inr (Or.inr (Or.inr (Or.inr (Or.inr (Or.inr (Or.inr (Or.inl z))))))))))))))))))))))
  replace e9_0 : 0 ≤ v9 ∧ v9 ≤ 1 := e9_0
  refine w_zR (by omega) (fun z hz => ?_)
  exact w_ret ⟨im9, km9, (show 0 ≤ z ∧ z ≤ 1 from ⟨by omega, by omega⟩), trivial⟩
def W_X1_leastOf (l1 : Int) (b j : Int) : Prop := (25 ≤ b ∧ b ≤ 26) ∨ (b = 24 ∧ j = 4) ∨ (b = 24 ∧ j = 5) ∨ (b = 24 ∧ j = 6)
theorem sb_X1_leastOf_10 {n : Nat} {Me : Mem} {l1 : Int} (h_l1 : isShape l1) {k10 : Int → Int → Int → Int → Mem → Option (Int × Mem)} {fu10 : Nat} (hk10 : ∀ (l2 l3 l4 : Int) (M : Mem), ((-2147483648) ≤ l2 ∧ l2 ≤ 2147483647) → ((-2147483648) ≤ l3 ∧ l3 ≤ 2147483647) → (0 ≤ l4 ∧ l4 ≤ 216) → 217 - l4 < (fu10 : Int) → I n M → Keep n (W_X1_leastOf l1) Me M → wp (k10 24 l2 l3 l4 M) (fun q => I n q.2 ∧ Keep n (W_X1_leastOf l1) Me q.2 ∧ ((-2147483648) ≤ q.1 ∧ q.1 ≤ 2147483647) ∧ True)) {l2 l3 l4 : Int} {M : Mem} (r_l2 : (-2147483648) ≤ l2 ∧ l2 ≤ 2147483647) (r_l3 : (-2147483648) ≤ l3 ∧ l3 ≤ 2147483647) (r_l4 : 0 ≤ l4 ∧ l4 ≤ 216) (hf10 : 217 - l4 < (fu10 : Int) + 1) (iM : I n M) (kM : Keep n (W_X1_leastOf l1) Me M) : wp (bX1_leastOf_10 k10 24 l2 l3 l4 M) (fun q => I n q.2 ∧ Keep n (W_X1_leastOf l1) Me q.2 ∧ ((-2147483648) ≤ q.1 ∧ q.1 ≤ 2147483647) ∧ True) := by
  have hn : (169 : Int) ≤ (n : Int) := by have := iM.2.2.2.2.1; omega
  have u_l1 := h_l1
  unfold isShape at u_l1
  unfold bX1_leastOf_10
  refine w_gF (ji := 4) rfl (congrArg Prod.fst (kl_24 iM)) (fun a13 ha13 => ?_)
  have ra13 : 0 ≤ a13 ∧ a13 ≤ 216 := ha13.tr (P := fun z => 0 ≤ z ∧ z ≤ 216) (rd_Others_4 iM rfl)
  refine w_if (fun c1_ => ?_) (fun c1_ => ?_)
  · skip
    exact w_ret ⟨iM, kM, (show (-2147483648) ≤ l3 ∧ l3 ≤ 2147483647 from ⟨by omega, by omega⟩), trivial⟩
  · skip
    refine w_gK (congrArg Prod.fst (kl_24 iM)) ?_
    refine w_call (s_X1_renumbered ⟨by omega, by omega⟩ ⟨by omega, by omega⟩ iM) ?_
    intro v24 m24 pp24
    obtain ⟨im24, kk24, e24_0, -⟩ := pp24
    try dsimp only
    replace im24 : I n m24 := im24
    replace kk24 : Keep n W_X1_renumbered M m24 := kk24
    have km24 : Keep n (W_X1_leastOf l1) Me m24 := kM.tr kk24 (fun b j z => z.elim)
    replace e24_0 : (-2147483648) ≤ v24 ∧ v24 ≤ 2147483647 := e24_0
    obtain ⟨w2_e, w2_⟩ : ∃ z, (if v24 < l3 then v24 else l3) = z := ⟨_, rfl⟩
    have w2_x : (v24 < l3 ∧ w2_e = v24) ∨ (¬ v24 < l3 ∧ w2_e = l3) := by rw [← w2_]; split <;> omega
    have w2_y : (if v24 < l3 then v24 else l3) = w2_e := w2_
    refine w_some (fun b30 hb30 => ?_)
    replace hb30 : b30 = (if v24 < l3 then v24 else l3) := hb30
    have w3_ := wI_id (x := (l4 + 1)) (by omega) (by omega)
    exact hk10 _ _ _ _ ⟨by omega, by omega⟩ ⟨by omega, by omega⟩ ⟨by omega, by omega⟩ (by omega) im24 km24
theorem s_X1_leastOf_10 {n : Nat} {Me : Mem} {l1 : Int} (h_l1 : isShape l1) : ∀ (fu : Nat) (l2 l3 l4 : Int) (M : Mem), ((-2147483648) ≤ l2 ∧ l2 ≤ 2147483647) → ((-2147483648) ≤ l3 ∧ l3 ≤ 2147483647) → (0 ≤ l4 ∧ l4 ≤ 216) → 217 - l4 < (fu : Int) → I n M → Keep n (W_X1_leastOf l1) Me M → wp (mX1_leastOf_10 fu 24 l2 l3 l4 M) (fun q => I n q.2 ∧ Keep n (W_X1_leastOf l1) Me q.2 ∧ ((-2147483648) ≤ q.1 ∧ q.1 ≤ 2147483647) ∧ True) := by
  intro fu
  induction fu with
  | zero =>
    intro l2 l3 l4 M r_l2 r_l3 r_l4 hf iM kM
    exfalso
    omega
  | succ fu ih =>
    intro l2 l3 l4 M r_l2 r_l3 r_l4 hf iM kM
    exact sb_X1_leastOf_10 h_l1 ih r_l2 r_l3 r_l4 (by have e : ((fu + 1 : Nat) : Int) = (fu : Int) + 1 := rfl; rw [e] at hf; exact hf) iM kM
theorem s_X1_leastOf {n : Nat} {l1 l2 : Int} {M : Mem} (h_l1 : isShape l1) (r_l2 : (-2147483648) ≤ l2 ∧ l2 ≤ 2147483647) (iM : I n M) : wp (mX1_leastOf 24 l1 l2 M) (fun q => I n q.2 ∧ Keep n (W_X1_leastOf l1) M q.2 ∧ ((-2147483648) ≤ q.1 ∧ q.1 ≤ 2147483647) ∧ True) := by
  have hn : (169 : Int) ≤ (n : Int) := by have := iM.2.2.2.2.1; omega
  have kM : Keep n (W_X1_leastOf l1) M M := Keep.rf
  have u_l1 := h_l1
  unfold isShape at u_l1
  unfold mX1_leastOf
  refine w_gK (congrArg Prod.fst (kl_24 iM)) ?_
  refine w_call (s_X1_layOut h_l1 iM) ?_
  intro v2 m2 pp2
  obtain ⟨im2, kk2, -⟩ := pp2
  try dsimp only
  replace im2 : I n m2 := im2
  replace kk2 : Keep n (W_X1_layOut l1) M m2 := kk2
  have km2 : Keep n (W_X1_leastOf l1) M m2 := kM.tr kk2 (fun b j z => Or.elim z (fun z => (Or.inl z)) (fun z => Or.elim z (fun z => (Or.inr (Or.inl z))) (fun z => Or.elim z (fun z => (Or.inr (Or.inr (Or.inl z)))) (fun z => (Or.inr (Or.inr (Or.inr z)))))))
  exact s_X1_leastOf_10 h_l1 FU _ _ _ _ ⟨by omega, by omega⟩ ⟨by omega, by omega⟩ ⟨by omega, by omega⟩ (by show _ < (70000 : Int); omega) im2 km2
def W_X4_leastRow (b j : Int) : Prop := (25 ≤ b ∧ b ≤ 26) ∨ (b = 24 ∧ j = 4) ∨ (b = 24 ∧ j = 5) ∨ (b = 24 ∧ j = 6)
theorem s_X4_leastRow {n : Nat} {M : Mem} (iM : I n M) : wp (mX4_leastRow 2 M) (fun q => I n q.2 ∧ Keep n W_X4_leastRow M q.2 ∧ ((-2147483648) ≤ q.1 ∧ q.1 ≤ 2147483647) ∧ True) := by
  have hn : (169 : Int) ≤ (n : Int) := by have := iM.2.2.2.2.1; omega
  have kM : Keep n W_X4_leastRow M M := Keep.rf
  unfold mX4_leastRow
  refine w_gK (congrArg Prod.fst (kl_2 iM)) ?_
  refine w_call (s_X4_canTell iM) ?_
  intro v1 m1 pp1
  obtain ⟨im1, kk1, e1_0, -⟩ := pp1
  try dsimp only
  replace im1 : I n m1 := im1
  replace kk1 : Keep n W_X4_canTell M m1 := kk1
  have km1 : Keep n W_X4_leastRow M m1 := kM.tr kk1 (fun b j z => z.elim)
  replace e1_0 : 0 ≤ v1 ∧ v1 ≤ 1 := e1_0
  refine w_if (fun c1_ => ?_) (fun c1_ => ?_)
  · skip
    exact w_ret ⟨im1, km1, (show (-2147483648) ≤ (-1) ∧ (-1) ≤ 2147483647 from ⟨by omega, by omega⟩), trivial⟩
  · skip
    refine w_gFc (ji := 2) rfl (congrArg Prod.fst (kl_2 im1)) (show mG m1 2 2 = 24 from rd_Solver_2 im1 (a := 2) rfl) ?_
    refine w_gFc (ji := 0) rfl (congrArg Prod.fst (kl_2 im1)) (show mG m1 2 0 = 3 from rd_Solver_0 im1 (a := 2) rfl) ?_
    refine w_gFc (ji := 0) rfl (congrArg Prod.fst (kl_3 im1)) (show mG m1 3 0 = 4 from rd_Told_0 im1 (a := 3) rfl) ?_
    refine w_gFc (ji := 0) rfl (congrArg Prod.fst (kl_2 im1)) (show mG m1 2 0 = 3 from rd_Solver_0 im1 (a := 2) rfl) ?_
    refine w_gF (ji := 1) rfl (congrArg Prod.fst (kl_3 im1)) (fun a22 ha22 => ?_)
    refine w_gK (congrArg Prod.fst (kl_24 im1)) ?_
    have w2_ := l2i_in a22
    refine w_call (s_X1_leastOf (by unfold isShape; omega) ⟨by omega, by omega⟩ im1) ?_
    intro v26 m26 pp26
    obtain ⟨im26, kk26, e26_0, -⟩ := pp26
    try dsimp only
    replace im26 : I n m26 := im26
    replace kk26 : Keep n (W_X1_leastOf 4) m1 m26 := kk26
    have km26 : Keep n W_X4_leastRow M m26 := km1.tr kk26 (fun b j z => Or.elim z (fun z => (Or.inl z)) (fun z => Or.elim z (fun z => (Or.inr (Or.inl z))) (fun z => Or.elim z (fun z => (Or.inr (Or.inr (Or.inl z)))) (fun z => (Or.inr (Or.inr (Or.inr z)))))))
    replace e26_0 : (-2147483648) ≤ v26 ∧ v26 ≤ 2147483647 := e26_0
    exact w_ret ⟨im26, km26, (show (-2147483648) ≤ v26 ∧ v26 ≤ 2147483647 from ⟨by omega, by omega⟩), trivial⟩
def W_X8_name (b j : Int) : Prop := (25 ≤ b ∧ b ≤ 26) ∨ (b = 24 ∧ j = 4) ∨ (b = 24 ∧ j = 5) ∨ (b = 24 ∧ j = 6) ∨ (b = 3 ∧ j = 1)
theorem s_X8_name {n : Nat} {M : Mem} (iM : I n M) : wp (mX8_name 1 M) (fun q => I n q.2 ∧ Keep n W_X8_name M q.2 ∧ (0 ≤ q.1 ∧ q.1 ≤ 1) ∧ True) := by
  have hn : (169 : Int) ≤ (n : Int) := by have := iM.2.2.2.2.1; omega
  have kM : Keep n W_X8_name M M := Keep.rf
  unfold mX8_name
  refine w_gFc (ji := 0) rfl (congrArg Prod.fst (kl_1 iM)) (show mG M 1 0 = 2 from rd_VS_0 iM (a := 1) rfl) ?_
  refine w_gK (congrArg Prod.fst (kl_2 iM)) ?_
  refine w_call (s_X4_leastRow iM) ?_
  intro v4 m4 pp4
  obtain ⟨im4, kk4, e4_0, -⟩ := pp4
  try dsimp only
  replace im4 : I n m4 := im4
  replace kk4 : Keep n W_X4_leastRow M m4 := kk4
  have km4 : Keep n W_X8_name M m4 := kM.tr kk4 (fun b j z => Or.elim z (fun z => (Or.inl z)) (fun z => Or.elim z (fun z => (Or.inr (Or.inl z))) (fun z => Or.elim z (fun z => (Or.inr (Or.inr (Or.inl z)))) (fun z => (Or.inr (Or.inr (Or.inr (Or.inl z))))))))
  replace e4_0 : (-2147483648) ≤ v4 ∧ v4 ≤ 2147483647 := e4_0
  refine w_gFc (ji := 1) rfl (congrArg Prod.fst (kl_1 im4)) (show mG m4 1 1 = 3 from rd_VS_1 im4 (a := 1) rfl) ?_
  refine w_gF (ji := 1) rfl (congrArg Prod.fst (kl_3 im4)) (fun a14 ha14 => ?_)
  have w1_ := (rfl : i2l v4 = v4)
  have w2_ := lcmp_0 ((i2l v4)) (a14)
  refine w_if (fun c3_ => ?_) (fun c3_ => ?_)
  · skip
    exact w_ret ⟨im4, km4, (show 0 ≤ 0 ∧ 0 ≤ 1 from ⟨by omega, by omega⟩), trivial⟩
  · skip
    refine w_gK (congrArg Prod.fst (kl_1 im4)) ?_
    refine w_call (s_X8_becomes ⟨by omega, by omega⟩ im4) ?_
    intro v23 m23 pp23
    obtain ⟨im23, kk23, e23_0, -⟩ := pp23
    try dsimp only
    replace im23 : I n m23 := im23
    replace kk23 : Keep n W_X8_becomes m4 m23 := kk23
    have km23 : Keep n W_X8_name M m23 := km4.tr kk23 (fun b j z => by unfold W_X8_becomes at z; exact (Or.inr (Or.inr (Or.inr (Or.inr z)))))
    replace e23_0 : 0 ≤ v23 ∧ v23 ≤ 1 := e23_0
    refine w_if (fun c4_ => ?_) (fun c4_ => ?_)
    · skip
      exact w_ret ⟨im23, km23, (show 0 ≤ 0 ∧ 0 ≤ 1 from ⟨by omega, by omega⟩), trivial⟩
    · skip
      exact w_ret ⟨im23, km23, (show 0 ≤ 1 ∧ 1 ≤ 1 from ⟨by omega, by omega⟩), trivial⟩
def W_X3_copy (l0 : Int) (l1 : Int) (b j : Int) : Prop := b = (l0 + 1) ∨ b = (l0 + 2) ∨ b = (l0 + 3) ∨ b = (l0 + 4) ∨ b = (l0 + 5) ∨ b = (l0 + 6) ∨ (b = l0 ∧ j = 6) ∨ (b = l0 ∧ j = 7)
theorem s_X3_copy {n : Nat} {l0 l1 : Int} {M : Mem} (h_l0 : isShape l0) (h_l1 : isShape l1) (iM : I n M) : wp (mX3_copy l0 l1 M) (fun q => I n q.2 ∧ Keep n (W_X3_copy l0 l1) M q.2 ∧ True) := by
  have hn : (169 : Int) ≤ (n : Int) := by have := iM.2.2.2.2.1; omega
  have kM : Keep n (W_X3_copy l0 l1) M M := Keep.rf
  have u_l0 := h_l0
  unfold isShape at u_l0
  have u_l1 := h_l1
  unfold isShape at u_l1
  unfold mX3_copy
  refine w_gFc (ji := 0) rfl (congrArg Prod.fst (k_Shape iM h_l1)) (show mG M l1 0 = (l1 + 1) from rd_Shape_0 iM (a := l1) (f_Shape h_l1)) ?_
  refine w_gFc (ji := 0) rfl (congrArg Prod.fst (k_Shape iM h_l0)) (show mG M l0 0 = (l0 + 1) from rd_Shape_0 iM (a := l0) (f_Shape h_l0)) ?_
  refine w_aC (k_Ssizes iM h_l1) (k_Ssizes iM h_l0) ⟨by omega, by omega, by omega, by omega, by omega⟩ (fun M11 hM11 => ?_)
  replace hM11 : M11 = mC M (l1 + 1) 0 (l0 + 1) 0 3 := hM11
  have iM11 : I n M11 := iM.cp hM11 (f_Ssizes h_l0) (fun j j0 j1 => by have z : 1 ≤ mG M (l1 + 1) (0 + j) ∧ mG M (l1 + 1) (0 + j) ≤ 3 := rd_Ssizes iM (f_Ssizes h_l1) (by omega) (by omega); show 0 ≤ (0 + j) → (0 + j) < 3 → 1 ≤ mG M (l1 + 1) (0 + j) ∧ mG M (l1 + 1) (0 + j) ≤ 3; omega) (by decide)
  have kM11 : Keep n (W_X3_copy l0 l1) M M11 := kM.cp hM11 (fun j => (Or.inl rfl))
  refine w_gFc (ji := 1) rfl (congrArg Prod.fst (k_Shape iM11 h_l1)) (show mG M11 l1 1 = (l1 + 2) from rd_Shape_1 iM11 (a := l1) (f_Shape h_l1)) ?_
  refine w_gFc (ji := 1) rfl (congrArg Prod.fst (k_Shape iM11 h_l0)) (show mG M11 l0 1 = (l0 + 2) from rd_Shape_1 iM11 (a := l0) (f_Shape h_l0)) ?_
  refine w_aC (k_Sfirst iM11 h_l1) (k_Sfirst iM11 h_l0) ⟨by omega, by omega, by omega, by omega, by omega⟩ (fun M25 hM25 => ?_)
  replace hM25 : M25 = mC M11 (l1 + 2) 0 (l0 + 2) 0 4 := hM25
  have iM25 : I n M25 := iM11.cp hM25 (f_Sfirst h_l0) (fun j j0 j1 => by have z : 0 ≤ mG M11 (l1 + 2) (0 + j) ∧ mG M11 (l1 + 2) (0 + j) ≤ 2 := rd_Sfirst iM11 (f_Sfirst h_l1); show 0 ≤ mG M11 (l1 + 2) (0 + j) ∧ mG M11 (l1 + 2) (0 + j) ≤ 2; omega) (by decide)
  have kM25 : Keep n (W_X3_copy l0 l1) M M25 := kM11.cp hM25 (fun j => (Or.inr (Or.inl rfl)))
  refine w_gFc (ji := 2) rfl (congrArg Prod.fst (k_Shape iM25 h_l1)) (show mG M25 l1 2 = (l1 + 3) from rd_Shape_2 iM25 (a := l1) (f_Shape h_l1)) ?_
  refine w_gFc (ji := 2) rfl (congrArg Prod.fst (k_Shape iM25 h_l0)) (show mG M25 l0 2 = (l0 + 3) from rd_Shape_2 iM25 (a := l0) (f_Shape h_l0)) ?_
  refine w_aC (k_Ssecond iM25 h_l1) (k_Ssecond iM25 h_l0) ⟨by omega, by omega, by omega, by omega, by omega⟩ (fun M39 hM39 => ?_)
  replace hM39 : M39 = mC M25 (l1 + 3) 0 (l0 + 3) 0 4 := hM39
  have iM39 : I n M39 := iM25.cp hM39 (f_Ssecond h_l0) (fun j j0 j1 => by have z : (-1) ≤ mG M25 (l1 + 3) (0 + j) ∧ mG M25 (l1 + 3) (0 + j) ≤ 2 := rd_Ssecond iM25 (f_Ssecond h_l1); show (-1) ≤ mG M25 (l1 + 3) (0 + j) ∧ mG M25 (l1 + 3) (0 + j) ≤ 2; omega) (by decide)
  have kM39 : Keep n (W_X3_copy l0 l1) M M39 := kM25.cp hM39 (fun j => (Or.inr (Or.inr (Or.inl rfl))))
  refine w_gF (ji := 6) rfl (congrArg Prod.fst (k_Shape iM39 h_l1)) (fun a44 ha44 => ?_)
  have ra44 : 0 ≤ a44 ∧ a44 ≤ 4 := ha44.tr (P := fun z => 0 ≤ z ∧ z ≤ 4) (rd_Shape_6 iM39 (f_Shape h_l1))
  refine w_pF (ji := 6) rfl (congrArg Prod.fst (k_Shape iM39 h_l0)) (fun M47 hM47 => ?_)
  replace hM47 : M47 = mS M39 l0 6 a44 := hM47
  have iM47 : I n M47 := wr_Shape_6 iM39 (f_Shape h_l0) ⟨by omega, by omega⟩ hM47
  have kM47 : Keep n (W_X3_copy l0 l1) M M47 := kM39.st hM47 (Or.inl (Or.inr (Or.inr (Or.inr (Or.inr (Or.inr (Or.inr (Or.inl ⟨rfl, rfl⟩))))))))
  refine w_gK (congrArg Prod.fst (k_Shape iM47 h_l0)) ?_
  refine w_call (s_X3_layOut h_l0 iM47) ?_
  intro v51 m51 pp51
  obtain ⟨im51, kk51, -⟩ := pp51
  try dsimp only
  replace im51 : I n m51 := im51
  replace kk51 : Keep n (W_X3_layOut l0) M47 m51 := kk51
  have km51 : Keep n (W_X3_copy l0 l1) M m51 := kM47.tr kk51 (fun b j z => Or.elim z (fun z => (Or.inr (Or.inr (Or.inr (Or.inl z))))) (fun z => Or.elim z (fun z => (Or.inr (Or.inr (Or.inr (Or.inr (Or.inl z)))))) (fun z => Or.elim z (fun z => (Or.inr (Or.inr (Or.inr (Or.inr (Or.inr (Or.inl z))))))) (fun z => (Or.inr (Or.inr (Or.inr (Or.inr (Or.inr (Or.inr (Or.inr z)))))))))))
  exact w_ret ⟨im51, km51, trivial⟩
def W_X4_fits (b j : Int) : Prop := (21 ≤ b ∧ b ≤ 23) ∨ b = 37 ∨ b = 39 ∨ (42 ≤ b ∧ b ≤ 44) ∨ (b = 20 ∧ j = 0) ∨ (b = 20 ∧ j = 1) ∨ (b = 20 ∧ j = 5) ∨ (b = 36 ∧ j = 1) ∨ (b = 36 ∧ j = 2) ∨ (b = 38 ∧ j = 7)
theorem s_X4_fits_167 {n : Nat} {Me : Mem} {k73 : Int → Int → Int → Mem → Option (Int × Mem)} {fu73 : Nat} (hk73 : ∀ (l4 l5 : Int) (M : Mem), (0 ≤ l4 ∧ l4 ≤ 255) → (0 ≤ l5 ∧ l5 ≤ 64) → 65 - l5 < (fu73 : Int) → I n M → Keep n W_X4_fits Me M → wp (k73 2 l4 l5 M) (fun q => I n q.2 ∧ Keep n W_X4_fits Me q.2 ∧ (0 ≤ q.1 ∧ q.1 ≤ 1) ∧ True)) {l4 l5 l6 : Int} {M : Mem} (r_l4 : 0 ≤ l4 ∧ l4 ≤ 255) (r_l5 : 0 ≤ l5 ∧ l5 ≤ 63) (hf73 : 65 - l5 < (fu73 : Int) + 1) (iM : I n M) (kM : Keep n W_X4_fits Me M) : wp (mX4_fits_167 k73 2 l4 l5 l6 M) (fun q => I n q.2 ∧ Keep n W_X4_fits Me q.2 ∧ (0 ≤ q.1 ∧ q.1 ≤ 1) ∧ True) := by
  have hn : (169 : Int) ≤ (n : Int) := by have := iM.2.2.2.2.1; omega
  unfold mX4_fits_167
  have w1_ := lcmp_0 (l6) (0)
  refine w_if (fun c2_ => ?_) (fun c2_ => ?_)
  · skip
    have w3_ := wI_id (x := (l5 + 1)) (by omega) (by omega)
    exact hk73 _ _ _ ⟨by omega, by omega⟩ ⟨by omega, by omega⟩ (by omega) iM kM
  · skip
    exact w_ret ⟨iM, kM, (show 0 ≤ 1 ∧ 1 ≤ 1 from ⟨by omega, by omega⟩), trivial⟩
theorem s_X4_fits_161 {n : Nat} {Me : Mem} {k73 : Int → Int → Int → Mem → Option (Int × Mem)} {fu73 : Nat} (hk73 : ∀ (l4 l5 : Int) (M : Mem), (0 ≤ l4 ∧ l4 ≤ 255) → (0 ≤ l5 ∧ l5 ≤ 64) → 65 - l5 < (fu73 : Int) → I n M → Keep n W_X4_fits Me M → wp (k73 2 l4 l5 M) (fun q => I n q.2 ∧ Keep n W_X4_fits Me q.2 ∧ (0 ≤ q.1 ∧ q.1 ≤ 1) ∧ True)) {k100 : Int → Int → Int → Int → Int → Mem → Option (Int × Mem)} {fu100 : Nat} (hk100 : ∀ (l4 l5 l6 l8 : Int) (M : Mem), (0 ≤ l4 ∧ l4 ≤ 255) → (0 ≤ l5 ∧ l5 ≤ 63) → (0 ≤ l8 ∧ l8 ≤ 8) → 65 - l5 < (fu73 : Int) + 1 → 9 - l8 < (fu100 : Int) → I n M → Keep n W_X4_fits Me M → wp (k100 2 l4 l5 l6 l8 M) (fun q => I n q.2 ∧ Keep n W_X4_fits Me q.2 ∧ (0 ≤ q.1 ∧ q.1 ≤ 1) ∧ True)) {l4 l5 l6 l8 : Int} {M : Mem} (r_l4 : 0 ≤ l4 ∧ l4 ≤ 255) (r_l5 : 0 ≤ l5 ∧ l5 ≤ 63) (r_l8 : 0 ≤ l8 ∧ l8 ≤ 7) (hf73 : 65 - l5 < (fu73 : Int) + 1) (hf100 : 9 - l8 < (fu100 : Int) + 1) (iM : I n M) (kM : Keep n W_X4_fits Me M) : wp (mX4_fits_161 k73 k100 2 l4 l5 l6 l8 M) (fun q => I n q.2 ∧ Keep n W_X4_fits Me q.2 ∧ (0 ≤ q.1 ∧ q.1 ≤ 1) ∧ True) := by
  have hn : (169 : Int) ≤ (n : Int) := by have := iM.2.2.2.2.1; omega
  unfold mX4_fits_161
  have w1_ := wI_id (x := (l8 + 1)) (by omega) (by omega)
  exact hk100 _ _ _ _ _ ⟨by omega, by omega⟩ ⟨by omega, by omega⟩ ⟨by omega, by omega⟩ (by omega) (by omega) iM kM
theorem sb_X4_fits_100 {n : Nat} {Me : Mem} {k73 : Int → Int → Int → Mem → Option (Int × Mem)} {fu73 : Nat} (hk73 : ∀ (l4 l5 : Int) (M : Mem), (0 ≤ l4 ∧ l4 ≤ 255) → (0 ≤ l5 ∧ l5 ≤ 64) → 65 - l5 < (fu73 : Int) → I n M → Keep n W_X4_fits Me M → wp (k73 2 l4 l5 M) (fun q => I n q.2 ∧ Keep n W_X4_fits Me q.2 ∧ (0 ≤ q.1 ∧ q.1 ≤ 1) ∧ True)) {k100 : Int → Int → Int → Int → Int → Mem → Option (Int × Mem)} {fu100 : Nat} (hk100 : ∀ (l4 l5 l6 l8 : Int) (M : Mem), (0 ≤ l4 ∧ l4 ≤ 255) → (0 ≤ l5 ∧ l5 ≤ 63) → (0 ≤ l8 ∧ l8 ≤ 8) → 65 - l5 < (fu73 : Int) + 1 → 9 - l8 < (fu100 : Int) → I n M → Keep n W_X4_fits Me M → wp (k100 2 l4 l5 l6 l8 M) (fun q => I n q.2 ∧ Keep n W_X4_fits Me q.2 ∧ (0 ≤ q.1 ∧ q.1 ≤ 1) ∧ True)) {l4 l5 l6 l8 : Int} {M : Mem} (r_l4 : 0 ≤ l4 ∧ l4 ≤ 255) (r_l5 : 0 ≤ l5 ∧ l5 ≤ 63) (r_l8 : 0 ≤ l8 ∧ l8 ≤ 8) (hf73 : 65 - l5 < (fu73 : Int) + 1) (hf100 : 9 - l8 < (fu100 : Int) + 1) (iM : I n M) (kM : Keep n W_X4_fits Me M) : wp (bX4_fits_100 k73 k100 2 l4 l5 l6 l8 M) (fun q => I n q.2 ∧ Keep n W_X4_fits Me q.2 ∧ (0 ≤ q.1 ∧ q.1 ≤ 1) ∧ True) := by
  have hn : (169 : Int) ≤ (n : Int) := by have := iM.2.2.2.2.1; omega
  unfold bX4_fits_100
  refine w_if (fun c1_ => ?_) (fun c1_ => ?_)
  · skip
    exact s_X4_fits_167 hk73 ⟨by omega, by omega⟩ ⟨by omega, by omega⟩ (by omega) iM kM
  · skip
    have w2_ := lcmp_0 (l6) (0)
    refine w_if (fun c3_ => ?_) (fun c3_ => ?_)
    · skip
      exact s_X4_fits_167 hk73 ⟨by omega, by omega⟩ ⟨by omega, by omega⟩ (by omega) iM kM
    · skip
      refine w_gFc (ji := 0) rfl (congrArg Prod.fst (kl_2 iM)) (show mG M 2 0 = 3 from rd_Solver_0 iM (a := 2) rfl) ?_
      refine w_gFc (ji := 8) rfl (congrArg Prod.fst (kl_3 iM)) (show mG M 3 8 = 14 from rd_Told_8 iM (a := 3) rfl) ?_
      refine w_aG (kl_14 iM) (by omega) (by omega) (fun a123 ha123 => ?_)
      have xa123 : TX n M a123 := by rw [← ha123.e]; exact iM.2.2.1.1 3 l8 (by unfold isTold; omega) (by omega) (by omega)
      have w4_ := ishr_b (x := l4) (k := l8) (by omega) (by omega) (by omega) (by omega)
      have w5_ := iand_l (x := (ishr l4 l8)) (y := 1) (by omega) (by omega)
      have w6_ := iand_r (x := (ishr l4 l8)) (y := 1) (by omega) (by omega)
      refine w_if (fun c7_ => ?_) (fun c7_ => ?_)
      · skip
        exact s_X4_fits_161 hk73 hk100 ⟨by omega, by omega⟩ ⟨by omega, by omega⟩ ⟨by omega, by omega⟩ (by omega) (by omega) iM kM
      · skip
        refine w_if (fun c8_ => ?_) (fun c8_ => ?_)
        · skip
          exact s_X4_fits_161 hk73 hk100 ⟨by omega, by omega⟩ ⟨by omega, by omega⟩ ⟨by omega, by omega⟩ (by omega) (by omega) iM kM
        · skip
          obtain ⟨q9_, m10_, t11_⟩ := TX.nn xa123 c8_
          refine w_gFc (ji := 1) rfl (congrArg Prod.fst (kl_2 iM)) (show mG M 2 1 = 20 from rd_Solver_1 iM (a := 2) rfl) ?_
          refine w_gFc (ji := 8) rfl (congrArg Prod.fst (kl_2 iM)) (show mG M 2 8 = 38 from rd_Solver_8 iM (a := 2) rfl) ?_
          refine w_gK (congrArg Prod.fst (kl_20 iM)) ?_
          refine w_call (s_X0_soInWord (by unfold isShape; omega) xa123 c8_ ⟨by omega, by omega⟩ iM) ?_
          intro v155 m155 pp155
          obtain ⟨im155, kk155, -⟩ := pp155
          try dsimp only
          replace im155 : I n m155 := im155
          replace kk155 : Keep n (W_X0_soInWord 38) M m155 := kk155
          have km155 : Keep n W_X4_fits Me m155 := kM.tr kk155 (fun b j z => Or.elim z (fun z => (Or.inl z)) (fun z => Or.elim z (fun z => (Or.inr (Or.inr (Or.inr (Or.inr (Or.inl z)))))) (fun z => Or.elim z (fun z => (Or.inr (Or.inr (Or.inr (Or.inr (Or.inr (Or.inl z))))))) (fun z => (Or.inr (Or.inr (Or.inr (Or.inr (Or.inr (Or.inr (Or.inl z)))))))))))
          exact s_X4_fits_161 hk73 hk100 ⟨by omega, by omega⟩ ⟨by omega, by omega⟩ ⟨by omega, by omega⟩ (by omega) (by omega) im155 km155
theorem s_X4_fits_100 {n : Nat} {Me : Mem} {k73 : Int → Int → Int → Mem → Option (Int × Mem)} {fu73 : Nat} (hk73 : ∀ (l4 l5 : Int) (M : Mem), (0 ≤ l4 ∧ l4 ≤ 255) → (0 ≤ l5 ∧ l5 ≤ 64) → 65 - l5 < (fu73 : Int) → I n M → Keep n W_X4_fits Me M → wp (k73 2 l4 l5 M) (fun q => I n q.2 ∧ Keep n W_X4_fits Me q.2 ∧ (0 ≤ q.1 ∧ q.1 ≤ 1) ∧ True)) : ∀ (fu : Nat) (l4 l5 l6 l8 : Int) (M : Mem), (0 ≤ l4 ∧ l4 ≤ 255) → (0 ≤ l5 ∧ l5 ≤ 63) → (0 ≤ l8 ∧ l8 ≤ 8) → 65 - l5 < (fu73 : Int) + 1 → 9 - l8 < (fu : Int) → I n M → Keep n W_X4_fits Me M → wp (mX4_fits_100 k73 fu 2 l4 l5 l6 l8 M) (fun q => I n q.2 ∧ Keep n W_X4_fits Me q.2 ∧ (0 ≤ q.1 ∧ q.1 ≤ 1) ∧ True) := by
  intro fu
  induction fu with
  | zero =>
    intro l4 l5 l6 l8 M r_l4 r_l5 r_l8 hf73 hf iM kM
    exfalso
    omega
  | succ fu ih =>
    intro l4 l5 l6 l8 M r_l4 r_l5 r_l8 hf73 hf iM kM
    exact sb_X4_fits_100 hk73 ih r_l4 r_l5 r_l8 hf73 (by have e : ((fu + 1 : Nat) : Int) = (fu : Int) + 1 := rfl; rw [e] at hf; exact hf) iM kM
theorem sb_X4_fits_73 {n : Nat} {Me : Mem} {k73 : Int → Int → Int → Mem → Option (Int × Mem)} {fu73 : Nat} (hk73 : ∀ (l4 l5 : Int) (M : Mem), (0 ≤ l4 ∧ l4 ≤ 255) → (0 ≤ l5 ∧ l5 ≤ 64) → 65 - l5 < (fu73 : Int) → I n M → Keep n W_X4_fits Me M → wp (k73 2 l4 l5 M) (fun q => I n q.2 ∧ Keep n W_X4_fits Me q.2 ∧ (0 ≤ q.1 ∧ q.1 ≤ 1) ∧ True)) {l4 l5 : Int} {M : Mem} (r_l4 : 0 ≤ l4 ∧ l4 ≤ 255) (r_l5 : 0 ≤ l5 ∧ l5 ≤ 64) (hf73 : 65 - l5 < (fu73 : Int) + 1) (iM : I n M) (kM : Keep n W_X4_fits Me M) : wp (bX4_fits_73 k73 2 l4 l5 M) (fun q => I n q.2 ∧ Keep n W_X4_fits Me q.2 ∧ (0 ≤ q.1 ∧ q.1 ≤ 1) ∧ True) := by
  have hn : (169 : Int) ≤ (n : Int) := by have := iM.2.2.2.2.1; omega
  unfold bX4_fits_73
  refine w_gFc (ji := 7) rfl (congrArg Prod.fst (kl_2 iM)) (show mG M 2 7 = 36 from rd_Solver_7 iM (a := 2) rfl) ?_
  refine w_gK (congrArg Prod.fst (kl_36 iM)) ?_
  refine w_call (s_X7_usedWords (by unfold isWS; omega) iM) ?_
  intro v79 m79 pp79
  obtain ⟨im79, kk79, e79_0, -⟩ := pp79
  try dsimp only
  replace im79 : I n m79 := im79
  replace kk79 : Keep n (W_X7_usedWords 36) M m79 := kk79
  have km79 : Keep n W_X4_fits Me m79 := kM.tr kk79 (fun b j z => z.elim)
  replace e79_0 : 0 ≤ v79 ∧ v79 ≤ 64 := e79_0
  refine w_if (fun c1_ => ?_) (fun c1_ => ?_)
  · skip
    exact w_ret ⟨im79, km79, (show 0 ≤ 0 ∧ 0 ≤ 1 from ⟨by omega, by omega⟩), trivial⟩
  · skip
    refine w_gFc (ji := 7) rfl (congrArg Prod.fst (kl_2 im79)) (show mG m79 2 7 = 36 from rd_Solver_7 im79 (a := 2) rfl) ?_
    refine w_gFc (ji := 0) rfl (congrArg Prod.fst (kl_36 im79)) (show mG m79 36 0 = 37 from rd_WS_0 im79 (a := 36) rfl) ?_
    refine w_aG (kl_37 im79) (by omega) (by omega) (fun a94 ha94 => ?_)
    exact s_X4_fits_100 hk73 FU _ _ _ _ _ ⟨by omega, by omega⟩ ⟨by omega, by omega⟩ ⟨by omega, by omega⟩ (by omega) (by show _ < (70000 : Int); omega) im79 km79
theorem s_X4_fits_73 {n : Nat} {Me : Mem} : ∀ (fu : Nat) (l4 l5 : Int) (M : Mem), (0 ≤ l4 ∧ l4 ≤ 255) → (0 ≤ l5 ∧ l5 ≤ 64) → 65 - l5 < (fu : Int) → I n M → Keep n W_X4_fits Me M → wp (mX4_fits_73 fu 2 l4 l5 M) (fun q => I n q.2 ∧ Keep n W_X4_fits Me q.2 ∧ (0 ≤ q.1 ∧ q.1 ≤ 1) ∧ True) := by
  intro fu
  induction fu with
  | zero =>
    intro l4 l5 M r_l4 r_l5 hf iM kM
    exfalso
    omega
  | succ fu ih =>
    intro l4 l5 M r_l4 r_l5 hf iM kM
    exact sb_X4_fits_73 ih r_l4 r_l5 (by have e : ((fu + 1 : Nat) : Int) = (fu : Int) + 1 := rfl; rw [e] at hf; exact hf) iM kM
theorem s_X4_fits {n : Nat} {l1 l2 l3 l4 : Int} {M : Mem} (r_l1 : 1 ≤ l1 ∧ l1 ≤ 3) (r_l2 : 1 ≤ l2 ∧ l2 ≤ 3) (r_l3 : (-3) ≤ l3 ∧ l3 ≤ 7) (r_l4 : 0 ≤ l4 ∧ l4 ≤ 255) (iM : I n M) : wp (mX4_fits 2 l1 l2 l3 l4 M) (fun q => I n q.2 ∧ Keep n W_X4_fits M q.2 ∧ (0 ≤ q.1 ∧ q.1 ≤ 1) ∧ True) := by
  have hn : (169 : Int) ≤ (n : Int) := by have := iM.2.2.2.2.1; omega
  have kM : Keep n W_X4_fits M M := Keep.rf
  unfold mX4_fits
  refine w_if (fun c1_ => ?_) (fun c1_ => ?_)
  · skip
    exact w_ret ⟨iM, kM, (show 0 ≤ 0 ∧ 0 ≤ 1 from ⟨by omega, by omega⟩), trivial⟩
  · skip
    refine w_if (fun c2_ => ?_) (fun c2_ => ?_)
    · skip
      refine w_gFc (ji := 8) rfl (congrArg Prod.fst (kl_2 iM)) (show mG M 2 8 = 38 from rd_Solver_8 iM (a := 2) rfl) ?_
      refine w_gK (congrArg Prod.fst (kl_38 iM)) ?_
      refine w_call (s_X3_resize (by unfold isShape; omega) ⟨by omega, by omega⟩ ⟨by omega, by omega⟩ iM) ?_
      intro v18 m18 pp18
      obtain ⟨im18, kk18, e18_0, -⟩ := pp18
      try dsimp only
      replace im18 : I n m18 := im18
      replace kk18 : Keep n (W_X3_resize 38) M m18 := kk18
      have km18 : Keep n W_X4_fits M m18 := kM.tr kk18 (fun b j z => Or.elim z (fun z => (Or.inr (Or.inr (Or.inl (by omega))))) (fun z => Or.elim z (fun z => (Or.inr (Or.inr (Or.inr (Or.inl ⟨by omega, by omega⟩))))) (fun z => Or.elim z (fun z => (Or.inr (Or.inr (Or.inr (Or.inl ⟨by omega, by omega⟩))))) (fun z => Or.elim z (fun z => (Or.inr (Or.inr (Or.inr (Or.inl ⟨by omega, by omega⟩))))) (fun z => (Or.inr (Or.inr (Or.inr (Or.inr (Or.inr (Or.inr (Or.inr (Or.inr (Or.inr ⟨by omega, z.2⟩))))))))))))))
      replace e18_0 : 0 ≤ v18 ∧ v18 ≤ 1 := e18_0
      refine w_gFc (ji := 8) rfl (congrArg Prod.fst (kl_2 im18)) (show mG m18 2 8 = 38 from rd_Solver_8 im18 (a := 2) rfl) ?_
      refine w_gK (congrArg Prod.fst (kl_38 im18)) ?_
      refine w_call (s_X3_resize (by unfold isShape; omega) ⟨by omega, by omega⟩ ⟨by omega, by omega⟩ im18) ?_
      intro v28 m28 pp28
      obtain ⟨im28, kk28, e28_0, -⟩ := pp28
      try dsimp only
      replace im28 : I n m28 := im28
      replace kk28 : Keep n (W_X3_resize 38) m18 m28 := kk28
      have km28 : Keep n W_X4_fits M m28 := km18.tr kk28 (fun b j z => Or.elim z (fun z => (Or.inr (Or.inr (Or.inl (by omega))))) (fun z => Or.elim z (fun z => (Or.inr (Or.inr (Or.inr (Or.inl ⟨by omega, by omega⟩))))) (fun z => Or.elim z (fun z => (Or.inr (Or.inr (Or.inr (Or.inl ⟨by omega, by omega⟩))))) (fun z => Or.elim z (fun z => (Or.inr (Or.inr (Or.inr (Or.inl ⟨by omega, by omega⟩))))) (fun z => (Or.inr (Or.inr (Or.inr (Or.inr (Or.inr (Or.inr (Or.inr (Or.inr (Or.inr ⟨by omega, z.2⟩))))))))))))))
      replace e28_0 : 0 ≤ v28 ∧ v28 ≤ 1 := e28_0
      refine w_gFc (ji := 8) rfl (congrArg Prod.fst (kl_2 im28)) (show mG m28 2 8 = 38 from rd_Solver_8 im28 (a := 2) rfl) ?_
      refine w_gK (congrArg Prod.fst (kl_38 im28)) ?_
      refine w_call (s_X3_resize (by unfold isShape; omega) ⟨by omega, by omega⟩ ⟨by omega, by omega⟩ im28) ?_
      intro v38 m38 pp38
      obtain ⟨im38, kk38, e38_0, -⟩ := pp38
      try dsimp only
      replace im38 : I n m38 := im38
      replace kk38 : Keep n (W_X3_resize 38) m28 m38 := kk38
      have km38 : Keep n W_X4_fits M m38 := km28.tr kk38 (fun b j z => Or.elim z (fun z => (Or.inr (Or.inr (Or.inl (by omega))))) (fun z => Or.elim z (fun z => (Or.inr (Or.inr (Or.inr (Or.inl ⟨by omega, by omega⟩))))) (fun z => Or.elim z (fun z => (Or.inr (Or.inr (Or.inr (Or.inl ⟨by omega, by omega⟩))))) (fun z => Or.elim z (fun z => (Or.inr (Or.inr (Or.inr (Or.inl ⟨by omega, by omega⟩))))) (fun z => (Or.inr (Or.inr (Or.inr (Or.inr (Or.inr (Or.inr (Or.inr (Or.inr (Or.inr ⟨by omega, z.2⟩))))))))))))))
      replace e38_0 : 0 ≤ v38 ∧ v38 ≤ 1 := e38_0
      refine w_gFc (ji := 8) rfl (congrArg Prod.fst (kl_2 im38)) (show mG m38 2 8 = 38 from rd_Solver_8 im38 (a := 2) rfl) ?_
      refine w_gF (ji := 7) rfl (congrArg Prod.fst (kl_38 im38)) (fun a46 ha46 => ?_)
      have ra46 : 0 ≤ a46 ∧ a46 ≤ 36 := ha46.tr (P := fun z => 0 ≤ z ∧ z ≤ 36) (rd_Shape_7 im38 rfl)
      refine w_if (fun c3_ => ?_) (fun c3_ => ?_)
      · skip
        refine w_gFc (ji := 7) rfl (congrArg Prod.fst (kl_2 im38)) (show mG m38 2 7 = 36 from rd_Solver_7 im38 (a := 2) rfl) ?_
        refine w_gFc (ji := 8) rfl (congrArg Prod.fst (kl_2 im38)) (show mG m38 2 8 = 38 from rd_Solver_8 im38 (a := 2) rfl) ?_
        refine w_gFc (ji := 7) rfl (congrArg Prod.fst (kl_38 im38)) (show mG m38 38 7 = a46 from (show mG m38 38 7 = a46 from ha46)) ?_
        refine w_gK (congrArg Prod.fst (kl_36 im38)) ?_
        refine w_call (s_X7_takeAll (by unfold isWS; omega) ⟨by omega, by omega⟩ im38) ?_
        intro v67 m67 pp67
        obtain ⟨im67, kk67, -⟩ := pp67
        try dsimp only
        replace im67 : I n m67 := im67
        replace kk67 : Keep n (W_X7_takeAll 36) m38 m67 := kk67
        have km67 : Keep n W_X4_fits M m67 := km38.tr kk67 (fun b j z => Or.elim z (fun z => (Or.inr (Or.inl (by omega)))) (fun z => Or.elim z (fun z => (Or.inr (Or.inr (Or.inr (Or.inr (Or.inr (Or.inr (Or.inr (Or.inl ⟨by omega, z.2⟩))))))))) (fun z => (Or.inr (Or.inr (Or.inr (Or.inr (Or.inr (Or.inr (Or.inr (Or.inr (Or.inl ⟨by omega, z.2⟩))))))))))))
        exact s_X4_fits_73 FU _ _ _ ⟨by omega, by omega⟩ ⟨by omega, by omega⟩ (by show _ < (70000 : Int); omega) im67 km67
      · skip
        exact w_ret ⟨im38, km38, (show 0 ≤ 0 ∧ 0 ≤ 1 from ⟨by omega, by omega⟩), trivial⟩
    · skip
      exact w_ret ⟨iM, kM, (show 0 ≤ 0 ∧ 0 ≤ 1 from ⟨by omega, by omega⟩), trivial⟩
def W_X4_findLeastSizes (b j : Int) : Prop := (21 ≤ b ∧ b ≤ 23) ∨ b = 37 ∨ (39 ≤ b ∧ b ≤ 45) ∨ (b = 20 ∧ j = 0) ∨ (b = 20 ∧ j = 1) ∨ (b = 20 ∧ j = 5) ∨ (b = 36 ∧ j = 1) ∨ (b = 36 ∧ j = 2) ∨ (b = 38 ∧ j = 6) ∨ (b = 38 ∧ j = 7)
theorem sb_X4_findLeastSizes_93 {n : Nat} {Me : Mem} {k93 : Int → Int → Mem → Option (Int × Mem)} {fu93 : Nat} (hk93 : ∀ (l2 : Int) (M : Mem), (0 ≤ l2 ∧ l2 ≤ 3) → 4 - l2 < (fu93 : Int) → I n M → Keep n W_X4_findLeastSizes Me M → wp (k93 2 l2 M) (fun q => I n q.2 ∧ Keep n W_X4_findLeastSizes Me q.2 ∧ True)) {l2 : Int} {M : Mem} (r_l2 : 0 ≤ l2 ∧ l2 ≤ 3) (hf93 : 4 - l2 < (fu93 : Int) + 1) (iM : I n M) (kM : Keep n W_X4_findLeastSizes Me M) : wp (bX4_findLeastSizes_93 k93 2 l2 M) (fun q => I n q.2 ∧ Keep n W_X4_findLeastSizes Me q.2 ∧ True) := by
  have hn : (169 : Int) ≤ (n : Int) := by have := iM.2.2.2.2.1; omega
  unfold bX4_findLeastSizes_93
  refine w_if (fun c1_ => ?_) (fun c1_ => ?_)
  · skip
    exact w_ret ⟨iM, kM, trivial⟩
  · skip
    refine w_gFc (ji := 9) rfl (congrArg Prod.fst (kl_2 iM)) (show mG M 2 9 = 45 from rd_Solver_9 iM (a := 2) rfl) ?_
    refine w_aS (kl_45 iM) (by omega) (by omega) (fun M104 hM104 => ?_)
    replace hM104 : M104 = mS M 45 l2 (-1) := hM104
    have iM104 : I n M104 := wr_Vleast iM rfl ⟨by omega, by omega⟩ hM104
    have kM104 : Keep n W_X4_findLeastSizes Me M104 := kM.st hM104 (Or.inl (Or.inr (Or.inr (Or.inl ⟨by decide, by decide⟩))))
    have w2_ := wI_id (x := (l2 + 1)) (by omega) (by omega)
    exact hk93 _ _ ⟨by omega, by omega⟩ (by omega) iM104 kM104
theorem s_X4_findLeastSizes_93 {n : Nat} {Me : Mem} : ∀ (fu : Nat) (l2 : Int) (M : Mem), (0 ≤ l2 ∧ l2 ≤ 3) → 4 - l2 < (fu : Int) → I n M → Keep n W_X4_findLeastSizes Me M → wp (mX4_findLeastSizes_93 fu 2 l2 M) (fun q => I n q.2 ∧ Keep n W_X4_findLeastSizes Me q.2 ∧ True) := by
  intro fu
  induction fu with
  | zero =>
    intro l2 M r_l2 hf iM kM
    exfalso
    omega
  | succ fu ih =>
    intro l2 M r_l2 hf iM kM
    exact sb_X4_findLeastSizes_93 ih r_l2 (by have e : ((fu + 1 : Nat) : Int) = (fu : Int) + 1 := rfl; rw [e] at hf; exact hf) iM kM
theorem sb_X4_findLeastSizes_32 {n : Nat} {Me : Mem} {k16 : Int → Int → Int → Mem → Option (Int × Mem)} {fu16 : Nat} (hk16 : ∀ (l1 l2 : Int) (M : Mem), (0 ≤ l1 ∧ l1 ≤ 255) → (3 ≤ l2 ∧ l2 ≤ 10) → 11 - l2 < (fu16 : Int) → I n M → Keep n W_X4_findLeastSizes Me M → wp (k16 2 l1 l2 M) (fun q => I n q.2 ∧ Keep n W_X4_findLeastSizes Me q.2 ∧ True)) {k24 : Int → Int → Int → Int → Mem → Option (Int × Mem)} {fu24 : Nat} (hk24 : ∀ (l1 l2 l3 : Int) (M : Mem), (0 ≤ l1 ∧ l1 ≤ 255) → (3 ≤ l2 ∧ l2 ≤ 9) → (1 ≤ l3 ∧ l3 ≤ 4) → 11 - l2 < (fu16 : Int) + 1 → 5 - l3 < (fu24 : Int) → I n M → Keep n W_X4_findLeastSizes Me M → wp (k24 2 l1 l2 l3 M) (fun q => I n q.2 ∧ Keep n W_X4_findLeastSizes Me q.2 ∧ True)) {k32 : Int → Int → Int → Int → Int → Mem → Option (Int × Mem)} {fu32 : Nat} (hk32 : ∀ (l1 l2 l3 l4 : Int) (M : Mem), (0 ≤ l1 ∧ l1 ≤ 255) → (3 ≤ l2 ∧ l2 ≤ 9) → (1 ≤ l3 ∧ l3 ≤ 3) → (1 ≤ l4 ∧ l4 ≤ 4) → 11 - l2 < (fu16 : Int) + 1 → 5 - l3 < (fu24 : Int) + 1 → 5 - l4 < (fu32 : Int) → I n M → Keep n W_X4_findLeastSizes Me M → wp (k32 2 l1 l2 l3 l4 M) (fun q => I n q.2 ∧ Keep n W_X4_findLeastSizes Me q.2 ∧ True)) {l1 l2 l3 l4 : Int} {M : Mem} (r_l1 : 0 ≤ l1 ∧ l1 ≤ 255) (r_l2 : 3 ≤ l2 ∧ l2 ≤ 9) (r_l3 : 1 ≤ l3 ∧ l3 ≤ 3) (r_l4 : 1 ≤ l4 ∧ l4 ≤ 4) (hf16 : 11 - l2 < (fu16 : Int) + 1) (hf24 : 5 - l3 < (fu24 : Int) + 1) (hf32 : 5 - l4 < (fu32 : Int) + 1) (iM : I n M) (kM : Keep n W_X4_findLeastSizes Me M) : wp (bX4_findLeastSizes_32 k16 k24 k32 2 l1 l2 l3 l4 M) (fun q => I n q.2 ∧ Keep n W_X4_findLeastSizes Me q.2 ∧ True) := by
  have hn : (169 : Int) ≤ (n : Int) := by have := iM.2.2.2.2.1; omega
  unfold bX4_findLeastSizes_32
  refine w_if (fun c1_ => ?_) (fun c1_ => ?_)
  · skip
    have w2_ := wI_id (x := (l3 + 1)) (by omega) (by omega)
    exact hk24 _ _ _ _ ⟨by omega, by omega⟩ ⟨by omega, by omega⟩ ⟨by omega, by omega⟩ (by omega) (by omega) iM kM
  · skip
    refine w_gK (congrArg Prod.fst (kl_2 iM)) ?_
    have w3_ := wI_id (x := (l2 - l3)) (by omega) (by omega)
    have w4_ := wI_id (x := ((wI (l2 - l3)) - l4)) (by omega) (by omega)
    refine w_call (s_X4_fits ⟨by omega, by omega⟩ ⟨by omega, by omega⟩ ⟨by omega, by omega⟩ ⟨by omega, by omega⟩ iM) ?_
    intro v49 m49 pp49
    obtain ⟨im49, kk49, e49_0, -⟩ := pp49
    try dsimp only
    replace im49 : I n m49 := im49
    replace kk49 : Keep n W_X4_fits M m49 := kk49
    have km49 : Keep n W_X4_findLeastSizes Me m49 := kM.tr kk49 (fun b j z => Or.elim z (fun z => (Or.inl z)) (fun z => Or.elim z (fun z => (Or.inr (Or.inl z))) (fun z => Or.elim z (fun z => (Or.inr (Or.inr (Or.inl ⟨by omega, by omega⟩)))) (fun z => Or.elim z (fun z => (Or.inr (Or.inr (Or.inl ⟨by omega, by omega⟩)))) (fun z => Or.elim z (fun z => (Or.inr (Or.inr (Or.inr (Or.inl z))))) (fun z => Or.elim z (fun z => (Or.inr (Or.inr (Or.inr (Or.inr (Or.inl z)))))) (fun z => Or.elim z (fun z => (Or.inr (Or.inr (Or.inr (Or.inr (Or.inr (Or.inl z))))))) (fun z => Or.elim z (fun z => (Or.inr (Or.inr (Or.inr (Or.inr (Or.inr (Or.inr (Or.inl z)))))))) (fun z => Or.elim z (fun z => (Or.inr (Or.inr (Or.inr (Or.inr (Or.inr (Or.inr (Or.inr (Or.inl z))))))))) (fun z => (Or.inr (Or.inr (Or.inr (Or.inr (Or.inr (Or.inr (Or.inr (Or.inr (Or.inr z)))))))))))))))))))
    replace e49_0 : 0 ≤ v49 ∧ v49 ≤ 1 := e49_0
    refine w_if (fun c5_ => ?_) (fun c5_ => ?_)
    · skip
      have w6_ := wI_id (x := (l4 + 1)) (by omega) (by omega)
      exact hk32 _ _ _ _ _ ⟨by omega, by omega⟩ ⟨by omega, by omega⟩ ⟨by omega, by omega⟩ ⟨by omega, by omega⟩ (by omega) (by omega) (by omega) im49 km49
    · skip
      refine w_gFc (ji := 8) rfl (congrArg Prod.fst (kl_2 im49)) (show mG m49 2 8 = 38 from rd_Solver_8 im49 (a := 2) rfl) ?_
      refine w_gFc (ji := 0) rfl (congrArg Prod.fst (kl_38 im49)) (show mG m49 38 0 = 39 from rd_Shape_0 im49 (a := 38) rfl) ?_
      refine w_gFc (ji := 9) rfl (congrArg Prod.fst (kl_2 im49)) (show mG m49 2 9 = 45 from rd_Solver_9 im49 (a := 2) rfl) ?_
      refine w_aC (kl_39 im49) (kl_45 im49) ⟨by omega, by omega, by omega, by omega, by omega⟩ (fun M69 hM69 => ?_)
      replace hM69 : M69 = mC m49 39 0 45 0 3 := hM69
      have iM69 : I n M69 := im49.cp hM69 rfl (fun j j0 j1 => by have z : 1 ≤ mG m49 39 (0 + j) ∧ mG m49 39 (0 + j) ≤ 3 := rd_Ssizes im49 rfl (by omega) (by omega); show (-1) ≤ mG m49 39 (0 + j) ∧ mG m49 39 (0 + j) ≤ 3; omega) (by decide)
      have kM69 : Keep n W_X4_findLeastSizes Me M69 := km49.cp hM69 (fun j => (Or.inr (Or.inr (Or.inl ⟨by decide, by decide⟩))))
      exact w_ret ⟨iM69, kM69, trivial⟩
theorem s_X4_findLeastSizes_32 {n : Nat} {Me : Mem} {k16 : Int → Int → Int → Mem → Option (Int × Mem)} {fu16 : Nat} (hk16 : ∀ (l1 l2 : Int) (M : Mem), (0 ≤ l1 ∧ l1 ≤ 255) → (3 ≤ l2 ∧ l2 ≤ 10) → 11 - l2 < (fu16 : Int) → I n M → Keep n W_X4_findLeastSizes Me M → wp (k16 2 l1 l2 M) (fun q => I n q.2 ∧ Keep n W_X4_findLeastSizes Me q.2 ∧ True)) {k24 : Int → Int → Int → Int → Mem → Option (Int × Mem)} {fu24 : Nat} (hk24 : ∀ (l1 l2 l3 : Int) (M : Mem), (0 ≤ l1 ∧ l1 ≤ 255) → (3 ≤ l2 ∧ l2 ≤ 9) → (1 ≤ l3 ∧ l3 ≤ 4) → 11 - l2 < (fu16 : Int) + 1 → 5 - l3 < (fu24 : Int) → I n M → Keep n W_X4_findLeastSizes Me M → wp (k24 2 l1 l2 l3 M) (fun q => I n q.2 ∧ Keep n W_X4_findLeastSizes Me q.2 ∧ True)) : ∀ (fu : Nat) (l1 l2 l3 l4 : Int) (M : Mem), (0 ≤ l1 ∧ l1 ≤ 255) → (3 ≤ l2 ∧ l2 ≤ 9) → (1 ≤ l3 ∧ l3 ≤ 3) → (1 ≤ l4 ∧ l4 ≤ 4) → 11 - l2 < (fu16 : Int) + 1 → 5 - l3 < (fu24 : Int) + 1 → 5 - l4 < (fu : Int) → I n M → Keep n W_X4_findLeastSizes Me M → wp (mX4_findLeastSizes_32 k16 k24 fu 2 l1 l2 l3 l4 M) (fun q => I n q.2 ∧ Keep n W_X4_findLeastSizes Me q.2 ∧ True) := by
  intro fu
  induction fu with
  | zero =>
    intro l1 l2 l3 l4 M r_l1 r_l2 r_l3 r_l4 hf16 hf24 hf iM kM
    exfalso
    omega
  | succ fu ih =>
    intro l1 l2 l3 l4 M r_l1 r_l2 r_l3 r_l4 hf16 hf24 hf iM kM
    exact sb_X4_findLeastSizes_32 hk16 hk24 ih r_l1 r_l2 r_l3 r_l4 hf16 hf24 (by have e : ((fu + 1 : Nat) : Int) = (fu : Int) + 1 := rfl; rw [e] at hf; exact hf) iM kM
theorem sb_X4_findLeastSizes_24 {n : Nat} {Me : Mem} {k16 : Int → Int → Int → Mem → Option (Int × Mem)} {fu16 : Nat} (hk16 : ∀ (l1 l2 : Int) (M : Mem), (0 ≤ l1 ∧ l1 ≤ 255) → (3 ≤ l2 ∧ l2 ≤ 10) → 11 - l2 < (fu16 : Int) → I n M → Keep n W_X4_findLeastSizes Me M → wp (k16 2 l1 l2 M) (fun q => I n q.2 ∧ Keep n W_X4_findLeastSizes Me q.2 ∧ True)) {k24 : Int → Int → Int → Int → Mem → Option (Int × Mem)} {fu24 : Nat} (hk24 : ∀ (l1 l2 l3 : Int) (M : Mem), (0 ≤ l1 ∧ l1 ≤ 255) → (3 ≤ l2 ∧ l2 ≤ 9) → (1 ≤ l3 ∧ l3 ≤ 4) → 11 - l2 < (fu16 : Int) + 1 → 5 - l3 < (fu24 : Int) → I n M → Keep n W_X4_findLeastSizes Me M → wp (k24 2 l1 l2 l3 M) (fun q => I n q.2 ∧ Keep n W_X4_findLeastSizes Me q.2 ∧ True)) {l1 l2 l3 : Int} {M : Mem} (r_l1 : 0 ≤ l1 ∧ l1 ≤ 255) (r_l2 : 3 ≤ l2 ∧ l2 ≤ 9) (r_l3 : 1 ≤ l3 ∧ l3 ≤ 4) (hf16 : 11 - l2 < (fu16 : Int) + 1) (hf24 : 5 - l3 < (fu24 : Int) + 1) (iM : I n M) (kM : Keep n W_X4_findLeastSizes Me M) : wp (bX4_findLeastSizes_24 k16 k24 2 l1 l2 l3 M) (fun q => I n q.2 ∧ Keep n W_X4_findLeastSizes Me q.2 ∧ True) := by
  have hn : (169 : Int) ≤ (n : Int) := by have := iM.2.2.2.2.1; omega
  unfold bX4_findLeastSizes_24
  refine w_if (fun c1_ => ?_) (fun c1_ => ?_)
  · skip
    have w2_ := wI_id (x := (l2 + 1)) (by omega) (by omega)
    exact hk16 _ _ _ ⟨by omega, by omega⟩ ⟨by omega, by omega⟩ (by omega) iM kM
  · skip
    exact s_X4_findLeastSizes_32 hk16 hk24 FU _ _ _ _ _ ⟨by omega, by omega⟩ ⟨by omega, by omega⟩ ⟨by omega, by omega⟩ ⟨by omega, by omega⟩ (by omega) (by omega) (by show _ < (70000 : Int); omega) iM kM
theorem s_X4_findLeastSizes_24 {n : Nat} {Me : Mem} {k16 : Int → Int → Int → Mem → Option (Int × Mem)} {fu16 : Nat} (hk16 : ∀ (l1 l2 : Int) (M : Mem), (0 ≤ l1 ∧ l1 ≤ 255) → (3 ≤ l2 ∧ l2 ≤ 10) → 11 - l2 < (fu16 : Int) → I n M → Keep n W_X4_findLeastSizes Me M → wp (k16 2 l1 l2 M) (fun q => I n q.2 ∧ Keep n W_X4_findLeastSizes Me q.2 ∧ True)) : ∀ (fu : Nat) (l1 l2 l3 : Int) (M : Mem), (0 ≤ l1 ∧ l1 ≤ 255) → (3 ≤ l2 ∧ l2 ≤ 9) → (1 ≤ l3 ∧ l3 ≤ 4) → 11 - l2 < (fu16 : Int) + 1 → 5 - l3 < (fu : Int) → I n M → Keep n W_X4_findLeastSizes Me M → wp (mX4_findLeastSizes_24 k16 fu 2 l1 l2 l3 M) (fun q => I n q.2 ∧ Keep n W_X4_findLeastSizes Me q.2 ∧ True) := by
  intro fu
  induction fu with
  | zero =>
    intro l1 l2 l3 M r_l1 r_l2 r_l3 hf16 hf iM kM
    exfalso
    omega
  | succ fu ih =>
    intro l1 l2 l3 M r_l1 r_l2 r_l3 hf16 hf iM kM
    exact sb_X4_findLeastSizes_24 hk16 ih r_l1 r_l2 r_l3 hf16 (by have e : ((fu + 1 : Nat) : Int) = (fu : Int) + 1 := rfl; rw [e] at hf; exact hf) iM kM
theorem sb_X4_findLeastSizes_16 {n : Nat} {Me : Mem} {k16 : Int → Int → Int → Mem → Option (Int × Mem)} {fu16 : Nat} (hk16 : ∀ (l1 l2 : Int) (M : Mem), (0 ≤ l1 ∧ l1 ≤ 255) → (3 ≤ l2 ∧ l2 ≤ 10) → 11 - l2 < (fu16 : Int) → I n M → Keep n W_X4_findLeastSizes Me M → wp (k16 2 l1 l2 M) (fun q => I n q.2 ∧ Keep n W_X4_findLeastSizes Me q.2 ∧ True)) {l1 l2 : Int} {M : Mem} (r_l1 : 0 ≤ l1 ∧ l1 ≤ 255) (r_l2 : 3 ≤ l2 ∧ l2 ≤ 10) (hf16 : 11 - l2 < (fu16 : Int) + 1) (iM : I n M) (kM : Keep n W_X4_findLeastSizes Me M) : wp (bX4_findLeastSizes_16 k16 2 l1 l2 M) (fun q => I n q.2 ∧ Keep n W_X4_findLeastSizes Me q.2 ∧ True) := by
  have hn : (169 : Int) ≤ (n : Int) := by have := iM.2.2.2.2.1; omega
  unfold bX4_findLeastSizes_16
  refine w_if (fun c1_ => ?_) (fun c1_ => ?_)
  · skip
    exact s_X4_findLeastSizes_93 FU _ _ ⟨by omega, by omega⟩ (by show _ < (70000 : Int); omega) iM kM
  · skip
    exact s_X4_findLeastSizes_24 hk16 FU _ _ _ _ ⟨by omega, by omega⟩ ⟨by omega, by omega⟩ ⟨by omega, by omega⟩ (by omega) (by show _ < (70000 : Int); omega) iM kM
theorem s_X4_findLeastSizes_16 {n : Nat} {Me : Mem} : ∀ (fu : Nat) (l1 l2 : Int) (M : Mem), (0 ≤ l1 ∧ l1 ≤ 255) → (3 ≤ l2 ∧ l2 ≤ 10) → 11 - l2 < (fu : Int) → I n M → Keep n W_X4_findLeastSizes Me M → wp (mX4_findLeastSizes_16 fu 2 l1 l2 M) (fun q => I n q.2 ∧ Keep n W_X4_findLeastSizes Me q.2 ∧ True) := by
  intro fu
  induction fu with
  | zero =>
    intro l1 l2 M r_l1 r_l2 hf iM kM
    exfalso
    omega
  | succ fu ih =>
    intro l1 l2 M r_l1 r_l2 hf iM kM
    exact sb_X4_findLeastSizes_16 ih r_l1 r_l2 (by have e : ((fu + 1 : Nat) : Int) = (fu : Int) + 1 := rfl; rw [e] at hf; exact hf) iM kM
theorem s_X4_findLeastSizes {n : Nat} {l1 : Int} {M : Mem} (r_l1 : 0 ≤ l1 ∧ l1 ≤ 255) (iM : I n M) : wp (mX4_findLeastSizes 2 l1 M) (fun q => I n q.2 ∧ Keep n W_X4_findLeastSizes M q.2 ∧ True) := by
  have hn : (169 : Int) ≤ (n : Int) := by have := iM.2.2.2.2.1; omega
  have kM : Keep n W_X4_findLeastSizes M M := Keep.rf
  unfold mX4_findLeastSizes
  refine w_gFc (ji := 8) rfl (congrArg Prod.fst (kl_2 iM)) (show mG M 2 8 = 38 from rd_Solver_8 iM (a := 2) rfl) ?_
  refine w_gFc (ji := 0) rfl (congrArg Prod.fst (kl_2 iM)) (show mG M 2 0 = 3 from rd_Solver_0 iM (a := 2) rfl) ?_
  refine w_gFc (ji := 0) rfl (congrArg Prod.fst (kl_3 iM)) (show mG M 3 0 = 4 from rd_Told_0 iM (a := 3) rfl) ?_
  refine w_gK (congrArg Prod.fst (kl_38 iM)) ?_
  refine w_call (s_X3_copy (by unfold isShape; omega) (by unfold isShape; omega) iM) ?_
  intro v11 m11 pp11
  obtain ⟨im11, kk11, -⟩ := pp11
  try dsimp only
  replace im11 : I n m11 := im11
  replace kk11 : Keep n (W_X3_copy 38 4) M m11 := kk11
  have km11 : Keep n W_X4_findLeastSizes M m11 := kM.tr kk11 (fun b j z => Or.elim z (fun z => (Or.inr (Or.inr (Or.inl ⟨by omega, by omega⟩)))) (fun z => Or.elim z (fun z => (Or.inr (Or.inr (Or.inl ⟨by omega, by omega⟩)))) (fun z => Or.elim z (fun z => (Or.inr (Or.inr (Or.inl ⟨by omega, by omega⟩)))) (fun z => Or.elim z (fun z => (Or.inr (Or.inr (Or.inl ⟨by omega, by omega⟩)))) (fun z => Or.elim z (fun z => (Or.inr (Or.inr (Or.inl ⟨by omega, by omega⟩)))) (fun z => Or.elim z (fun z => (Or.inr (Or.inr (Or.inl ⟨by omega, by omega⟩)))) (fun z => Or.elim z (fun z => (Or.inr (Or.inr (Or.inr (Or.inr (Or.inr (Or.inr (Or.inr (Or.inr (Or.inl ⟨by omega, z.2⟩)))))))))) (fun z => (Or.inr (Or.inr (Or.inr (Or.inr (Or.inr (Or.inr (Or.inr (Or.inr (Or.inr ⟨by omega, z.2⟩)))))))))))))))))
  exact s_X4_findLeastSizes_16 FU _ _ _ ⟨by omega, by omega⟩ ⟨by omega, by omega⟩ (by show _ < (70000 : Int); omega) im11 km11
