def W_X3_secondAt (l0 : Int) (b j : Int) : Prop := False
theorem s_X3_secondAt {n : Nat} {l0 l1 l2 : Int} {M : Mem} (h_l0 : isShape l0) (r_l1 : (-1) ≤ l1 ∧ l1 ≤ 3) (r_l2 : 0 ≤ l2 ∧ l2 ≤ 35) (iM : I n M) : wp (mX3_secondAt l0 l1 l2 M) (fun q => I n q.2 ∧ Keep n (W_X3_secondAt l0) M q.2 ∧ ((-33) ≤ q.1 ∧ q.1 ≤ 38) ∧ True) := by
  have hn : (169 : Int) ≤ (n : Int) := by have := iM.2.2.2.2.1; omega
  have kM : Keep n (W_X3_secondAt l0) M M := Keep.rf
  have u_l0 := h_l0
  unfold isShape at u_l0
  unfold mX3_secondAt
  refine w_gK (congrArg Prod.fst (k_Shape iM h_l0)) ?_
  refine w_call (s_X3_isOfTwo h_l0 ⟨by omega, by omega⟩ iM) ?_
  intro v2 m2 pp2
  obtain ⟨im2, kk2, e2_0, e2_1, -⟩ := pp2
  try dsimp only
  replace im2 : I n m2 := im2
  replace kk2 : Keep n (W_X3_isOfTwo l0) M m2 := kk2
  have km2 : Keep n (W_X3_secondAt l0) M m2 := kM.tr kk2 (fun b j z => z.elim)
  replace e2_0 : 0 ≤ v2 ∧ v2 ≤ 1 := e2_0
  replace e2_1 : v2 = 1 → 0 ≤ l1 ∧ l1 ≤ 3 := e2_1
  refine w_if (fun c1_ => ?_) (fun c1_ => ?_)
  · skip
    exact w_ret ⟨im2, km2, (show (-33) ≤ (-1) ∧ (-1) ≤ 38 from ⟨by omega, by omega⟩), trivial⟩
  · skip
    refine w_gFc (ji := 3) rfl (congrArg Prod.fst (k_Shape im2 h_l0)) (show mG m2 l0 3 = (l0 + 4) from rd_Shape_3 im2 (a := l0) (f_Shape h_l0)) ?_
    refine w_aG (k_Sstart im2 h_l0) (by omega) (by omega) (fun a16 ha16 => ?_)
    have ra16 : 0 ≤ a16 ∧ a16 ≤ 9 * l1 := ha16.tr (P := fun z => 0 ≤ z ∧ z ≤ 9 * l1) (rd_Sstart im2 (f_Sstart h_l0) (by omega) (by omega))
    refine w_gK (congrArg Prod.fst (k_Shape im2 h_l0)) ?_
    refine w_call (s_X3_firstAt h_l0 ⟨by omega, by omega⟩ ⟨by omega, by omega⟩ im2) ?_
    intro v21 m21 pp21
    obtain ⟨im21, kk21, e21_0, -⟩ := pp21
    try dsimp only
    replace im21 : I n m21 := im21
    replace kk21 : Keep n (W_X3_firstAt l0) m2 m21 := kk21
    have km21 : Keep n (W_X3_secondAt l0) M m21 := km2.tr kk21 (fun b j z => z.elim)
    replace e21_0 : (-1) ≤ v21 ∧ v21 ≤ 2 := e21_0
    refine w_gFc (ji := 5) rfl (congrArg Prod.fst (k_Shape im21 h_l0)) (show mG m21 l0 5 = (l0 + 6) from rd_Shape_5 im21 (a := l0) (f_Shape h_l0)) ?_
    refine w_aG (k_Swidth im21 h_l0) (by omega) (by omega) (fun a29 ha29 => ?_)
    have ra29 : 0 ≤ a29 ∧ a29 ≤ 3 := ha29.tr (P := fun z => 0 ≤ z ∧ z ≤ 3) (rd_Swidth im21 (f_Swidth h_l0))
    have w2_ := wI_id (x := (l2 - a16)) (by omega) (by omega)
    have w3_ := wI_id (x := (v21 * a29)) (by omega) (by omega)
    have w4_ := wI_id (x := ((wI (l2 - a16)) - (wI (v21 * a29)))) (by omega) (by omega)
    exact w_ret ⟨im21, km21, (show (-33) ≤ (wI ((wI (l2 - a16)) - (wI (v21 * a29)))) ∧ (wI ((wI (l2 - a16)) - (wI (v21 * a29)))) ≤ 38 from ⟨by omega, by omega⟩), trivial⟩
def W_X8_settle (b j : Int) : Prop := (21 ≤ b ∧ b ≤ 23) ∨ b = 33 ∨ b = 35 ∨ isWS (b - 1) ∨ (b = 2 ∧ j = 4) ∨ (b = 20 ∧ j = 0) ∨ (b = 20 ∧ j = 1) ∨ (b = 20 ∧ j = 5) ∨ (b = 32 ∧ j = 1) ∨ (b = 32 ∧ j = 2) ∨ (b = 34 ∧ j = 1) ∨ (b = 34 ∧ j = 2) ∨ (isWS b ∧ j = 1) ∨ (isWS b ∧ j = 2)
theorem s_X8_settle {n : Nat} {l1 : Int} {M : Mem} (r_l1 : (-2147483648) ≤ l1 ∧ l1 ≤ 2147483647) (iM : I n M) : wp (mX8_settle 1 l1 M) (fun q => I n q.2 ∧ Keep n W_X8_settle M q.2 ∧ ((-8128) ≤ q.1 ∧ q.1 ≤ 8128) ∧ True) := by
  have hn : (169 : Int) ≤ (n : Int) := by have := iM.2.2.2.2.1; omega
  have kM : Keep n W_X8_settle M M := Keep.rf
  unfold mX8_settle
  refine w_gFc (ji := 0) rfl (congrArg Prod.fst (kl_1 iM)) (show mG M 1 0 = 2 from rd_VS_0 iM (a := 1) rfl) ?_
  refine w_gK (congrArg Prod.fst (kl_2 iM)) ?_
  refine w_call (s_X4_settlingPlace iM) ?_
  intro v4 m4 pp4
  obtain ⟨im4, kk4, e4_0, -⟩ := pp4
  try dsimp only
  replace im4 : I n m4 := im4
  replace kk4 : Keep n W_X4_settlingPlace M m4 := kk4
  have km4 : Keep n W_X8_settle M m4 := kM.tr kk4 (fun b j z => Or.elim z (fun z => (Or.inl z)) (fun z => Or.elim z (fun z => (Or.inr (Or.inl z))) (fun z => Or.elim z (fun z => (Or.inr (Or.inr (Or.inl z)))) (fun z => Or.elim z (fun z => (Or.inr (Or.inr (Or.inr (Or.inl z))))) (fun z => Or.elim z (fun z => (Or.inr (Or.inr (Or.inr (Or.inr (Or.inl z)))))) (fun z => Or.elim z (fun z => (Or.inr (Or.inr (Or.inr (Or.inr (Or.inr (Or.inl z))))))) (fun z => Or.elim z (fun z => (Or.inr (Or.inr (Or.inr (Or.inr (Or.inr (Or.inr (Or.inl z)))))))) (fun z => Or.elim z (fun z => (Or.inr (Or.inr (Or.inr (Or.inr (Or.inr (Or.inr (Or.inr (Or.inl z))))))))) (fun z => Or.elim z (fun z => (Or.inr (Or.inr (Or.inr (Or.inr (Or.inr (Or.inr (Or.inr (Or.inr (Or.inl z)))))))))) (fun z => Or.elim z (fun z => (Or.inr (Or.inr (Or.inr (Or.inr (Or.inr (Or.inr (Or.inr (Or.inr (Or.inr (Or.inl z))))))))))) (fun z => Or.elim z (fun z => (Or.inr (Or.inr (Or.inr (Or.inr (Or.inr (Or.inr (Or.inr (Or.inr (Or.inr (Or.inr (Or.inl z)))))))))))) (fun z => Or.elim z (fun z => (Or.inr (Or.inr (Or.inr (Or.inr (Or.inr (Or.inr (Or.inr (Or.inr (Or.inr (Or.inr (Or.inr (Or.inl z))))))))))))) (fun z => Or.elim z (fun z => (Or.inr (Or.inr (Or.inr (Or.inr (Or.inr (Or.inr (Or.inr (Or.inr (Or.inr (Or.inr (Or.inr (Or.inr (Or.inl z)))))))))))))) (fun z => (Or.inr (Or.inr (Or.inr (Or.inr (Or.inr (Or.inr (Or.inr (Or.inr (Or.inr (Or.inr (Or.inr (Or.inr (Or.inr z)))))))))))))))))))))))))))
  replace e4_0 : (-1) ≤ v4 ∧ v4 ≤ 35 := e4_0
  refine w_if (fun c1_ => ?_) (fun c1_ => ?_)
  · skip
    exact w_ret ⟨im4, km4, (show (-8128) ≤ (-1) ∧ (-1) ≤ 8128 from ⟨by omega, by omega⟩), trivial⟩
  · skip
    refine w_gFc (ji := 1) rfl (congrArg Prod.fst (kl_1 im4)) (show mG m4 1 1 = 3 from rd_VS_1 im4 (a := 1) rfl) ?_
    refine w_gFc (ji := 0) rfl (congrArg Prod.fst (kl_3 im4)) (show mG m4 3 0 = 4 from rd_Told_0 im4 (a := 3) rfl) ?_
    refine w_gK (congrArg Prod.fst (kl_4 im4)) ?_
    refine w_call (s_X3_relationAt (by unfold isShape; omega) ⟨by omega, by omega⟩ im4) ?_
    intro v23 m23 pp23
    obtain ⟨im23, kk23, e23_0, -⟩ := pp23
    try dsimp only
    replace im23 : I n m23 := im23
    replace kk23 : Keep n (W_X3_relationAt 4) m4 m23 := kk23
    have km23 : Keep n W_X8_settle M m23 := km4.tr kk23 (fun b j z => z.elim)
    replace e23_0 : (-1) ≤ v23 ∧ v23 ≤ 3 := e23_0
    refine w_if (fun c2_ => ?_) (fun c2_ => ?_)
    · skip
      exact w_ret ⟨im23, km23, (show (-8128) ≤ v23 ∧ v23 ≤ 8128 from ⟨by omega, by omega⟩), trivial⟩
    · skip
      refine w_if (fun c3_ => ?_) (fun c3_ => ?_)
      · skip
        refine w_gFc (ji := 1) rfl (congrArg Prod.fst (kl_1 im23)) (show mG m23 1 1 = 3 from rd_VS_1 im23 (a := 1) rfl) ?_
        refine w_gFc (ji := 0) rfl (congrArg Prod.fst (kl_3 im23)) (show mG m23 3 0 = 4 from rd_Told_0 im23 (a := 3) rfl) ?_
        refine w_gK (congrArg Prod.fst (kl_4 im23)) ?_
        refine w_call (s_X3_firstAt (by unfold isShape; omega) ⟨by omega, by omega⟩ ⟨by omega, by omega⟩ im23) ?_
        intro v71 m71 pp71
        obtain ⟨im71, kk71, e71_0, -⟩ := pp71
        try dsimp only
        replace im71 : I n m71 := im71
        replace kk71 : Keep n (W_X3_firstAt 4) m23 m71 := kk71
        have km71 : Keep n W_X8_settle M m71 := km23.tr kk71 (fun b j z => z.elim)
        replace e71_0 : (-1) ≤ v71 ∧ v71 ≤ 2 := e71_0
        exact w_ret ⟨im71, km71, (show (-8128) ≤ v71 ∧ v71 ≤ 8128 from ⟨by omega, by omega⟩), trivial⟩
      · skip
        refine w_if (fun c4_ => ?_) (fun c4_ => ?_)
        · skip
          refine w_gFc (ji := 1) rfl (congrArg Prod.fst (kl_1 im23)) (show mG m23 1 1 = 3 from rd_VS_1 im23 (a := 1) rfl) ?_
          refine w_gFc (ji := 0) rfl (congrArg Prod.fst (kl_3 im23)) (show mG m23 3 0 = 4 from rd_Told_0 im23 (a := 3) rfl) ?_
          refine w_gK (congrArg Prod.fst (kl_4 im23)) ?_
          refine w_call (s_X3_secondAt (by unfold isShape; omega) ⟨by omega, by omega⟩ ⟨by omega, by omega⟩ im23) ?_
          intro v84 m84 pp84
          obtain ⟨im84, kk84, e84_0, -⟩ := pp84
          try dsimp only
          replace im84 : I n m84 := im84
          replace kk84 : Keep n (W_X3_secondAt 4) m23 m84 := kk84
          have km84 : Keep n W_X8_settle M m84 := km23.tr kk84 (fun b j z => z.elim)
          replace e84_0 : (-33) ≤ v84 ∧ v84 ≤ 38 := e84_0
          exact w_ret ⟨im84, km84, (show (-8128) ≤ v84 ∧ v84 ≤ 8128 from ⟨by omega, by omega⟩), trivial⟩
        · skip
          refine w_if (fun c5_ => ?_) (fun c5_ => ?_)
          · skip
            refine w_gFc (ji := 0) rfl (congrArg Prod.fst (kl_1 im23)) (show mG m23 1 0 = 2 from rd_VS_0 im23 (a := 1) rfl) ?_
            refine w_gK (congrArg Prod.fst (kl_2 im23)) ?_
            refine w_call (s_X4_greaterAt ⟨by omega, by omega⟩ im23) ?_
            intro v93 m93 pp93
            obtain ⟨im93, kk93, e93_0, -⟩ := pp93
            try dsimp only
            replace im93 : I n m93 := im93
            replace kk93 : Keep n W_X4_greaterAt m23 m93 := kk93
            have km93 : Keep n W_X8_settle M m93 := km23.tr kk93 (fun b j z => z.elim)
            replace e93_0 : (-8128) ≤ v93 ∧ v93 ≤ 8128 := e93_0
            exact w_ret ⟨im93, km93, (show (-8128) ≤ v93 ∧ v93 ≤ 8128 from ⟨by omega, by omega⟩), trivial⟩
          · skip
            exact w_ret ⟨im23, km23, (show (-8128) ≤ (-1) ∧ (-1) ≤ 8128 from ⟨by omega, by omega⟩), trivial⟩
def W_X4_nearestWorld (b j : Int) : Prop := (21 ≤ b ∧ b ≤ 23) ∨ b = 33 ∨ b = 35 ∨ isWS (b - 1) ∨ (b = 2 ∧ j = 4) ∨ (b = 20 ∧ j = 0) ∨ (b = 20 ∧ j = 1) ∨ (b = 20 ∧ j = 5) ∨ (b = 32 ∧ j = 1) ∨ (b = 32 ∧ j = 2) ∨ (b = 34 ∧ j = 1) ∨ (b = 34 ∧ j = 2) ∨ (isWS b ∧ j = 1) ∨ (isWS b ∧ j = 2)
theorem s_X4_nearestWorld_64 {n : Nat} {Me : Mem} {k16 : Int → Int → Int → Int → Mem → Option (Int × Mem)} {fu16 : Nat} (hk16 : ∀ (l1 l2 l3 : Int) (M : Mem), ((-1) ≤ l1 ∧ l1 ≤ 4095) → (0 ≤ l2 ∧ l2 ≤ 13) → (0 ≤ l3 ∧ l3 ≤ 4096) → 4097 - l3 < (fu16 : Int) → I n M → Keep n W_X4_nearestWorld Me M → wp (k16 2 l1 l2 l3 M) (fun q => I n q.2 ∧ Keep n W_X4_nearestWorld Me q.2 ∧ ((-1) ≤ q.1 ∧ q.1 ≤ 4095) ∧ True)) {l1 l2 l3 : Int} {M : Mem} (r_l1 : (-1) ≤ l1 ∧ l1 ≤ 4095) (r_l2 : 0 ≤ l2 ∧ l2 ≤ 13) (r_l3 : 0 ≤ l3 ∧ l3 ≤ 4095) (hf16 : 4097 - l3 < (fu16 : Int) + 1) (iM : I n M) (kM : Keep n W_X4_nearestWorld Me M) : wp (mX4_nearestWorld_64 k16 2 l1 l2 l3 M) (fun q => I n q.2 ∧ Keep n W_X4_nearestWorld Me q.2 ∧ ((-1) ≤ q.1 ∧ q.1 ≤ 4095) ∧ True) := by
  have hn : (169 : Int) ≤ (n : Int) := by have := iM.2.2.2.2.1; omega
  unfold mX4_nearestWorld_64
  have w1_ := wI_id (x := (l3 + 1)) (by omega) (by omega)
  exact hk16 _ _ _ _ ⟨by omega, by omega⟩ ⟨by omega, by omega⟩ ⟨by omega, by omega⟩ (by omega) iM kM
theorem sb_X4_nearestWorld_16 {n : Nat} {Me : Mem} {k16 : Int → Int → Int → Int → Mem → Option (Int × Mem)} {fu16 : Nat} (hk16 : ∀ (l1 l2 l3 : Int) (M : Mem), ((-1) ≤ l1 ∧ l1 ≤ 4095) → (0 ≤ l2 ∧ l2 ≤ 13) → (0 ≤ l3 ∧ l3 ≤ 4096) → 4097 - l3 < (fu16 : Int) → I n M → Keep n W_X4_nearestWorld Me M → wp (k16 2 l1 l2 l3 M) (fun q => I n q.2 ∧ Keep n W_X4_nearestWorld Me q.2 ∧ ((-1) ≤ q.1 ∧ q.1 ≤ 4095) ∧ True)) {l1 l2 l3 : Int} {M : Mem} (r_l1 : (-1) ≤ l1 ∧ l1 ≤ 4095) (r_l2 : 0 ≤ l2 ∧ l2 ≤ 13) (r_l3 : 0 ≤ l3 ∧ l3 ≤ 4096) (hf16 : 4097 - l3 < (fu16 : Int) + 1) (iM : I n M) (kM : Keep n W_X4_nearestWorld Me M) : wp (bX4_nearestWorld_16 k16 2 l1 l2 l3 M) (fun q => I n q.2 ∧ Keep n W_X4_nearestWorld Me q.2 ∧ ((-1) ≤ q.1 ∧ q.1 ≤ 4095) ∧ True) := by
  have hn : (169 : Int) ≤ (n : Int) := by have := iM.2.2.2.2.1; omega
  unfold bX4_nearestWorld_16
  refine w_gFc (ji := 6) rfl (congrArg Prod.fst (kl_2 iM)) (show mG M 2 6 = 34 from rd_Solver_6 iM (a := 2) rfl) ?_
  refine w_gK (congrArg Prod.fst (kl_34 iM)) ?_
  refine w_call (s_X7_most (by unfold isWS; omega) iM) ?_
  intro v21 m21 pp21
  obtain ⟨im21, kk21, e21_0, -⟩ := pp21
  try dsimp only
  replace im21 : I n m21 := im21
  replace kk21 : Keep n (W_X7_most 34) M m21 := kk21
  have km21 : Keep n W_X4_nearestWorld Me m21 := kM.tr kk21 (fun b j z => z.elim)
  replace e21_0 : 1 ≤ v21 ∧ v21 ≤ 4096 := e21_0
  refine w_if (fun c1_ => ?_) (fun c1_ => ?_)
  · skip
    exact w_ret ⟨im21, km21, (show (-1) ≤ l1 ∧ l1 ≤ 4095 from ⟨by omega, by omega⟩), trivial⟩
  · skip
    refine w_gFc (ji := 0) rfl (congrArg Prod.fst (kl_2 im21)) (show mG m21 2 0 = 3 from rd_Solver_0 im21 (a := 2) rfl) ?_
    refine w_gF (ji := 1) rfl (congrArg Prod.fst (kl_3 im21)) (fun a31 ha31 => ?_)
    have w2_ := (rfl : i2l l3 = l3)
    refine w_call (s_J13_bitCount_95d88 im21) ?_
    intro v37 m37 pp37
    obtain ⟨im37, kk37, e37_0, -⟩ := pp37
    try dsimp only
    replace im37 : I n m37 := im37
    replace kk37 : Keep n W_J13_bitCount_95d88 m21 m37 := kk37
    have km37 : Keep n W_X4_nearestWorld Me m37 := km21.tr kk37 (fun b j z => z.elim)
    replace e37_0 : 0 ≤ v37 ∧ v37 ≤ 127 := e37_0
    refine w_if (fun c4_ => ?_) (fun c4_ => ?_)
    · skip
      exact s_X4_nearestWorld_64 hk16 ⟨by omega, by omega⟩ ⟨by omega, by omega⟩ ⟨by omega, by omega⟩ (by omega) im37 km37
    · skip
      refine w_gFc (ji := 6) rfl (congrArg Prod.fst (kl_2 im37)) (show mG m37 2 6 = 34 from rd_Solver_6 im37 (a := 2) rfl) ?_
      refine w_gK (congrArg Prod.fst (kl_34 im37)) ?_
      refine w_call (s_X7_has (by unfold isWS; omega) ⟨by omega, by omega⟩ im37) ?_
      intro v53 m53 pp53
      obtain ⟨im53, kk53, e53_0, -⟩ := pp53
      try dsimp only
      replace im53 : I n m53 := im53
      replace kk53 : Keep n (W_X7_has 34) m37 m53 := kk53
      have km53 : Keep n W_X4_nearestWorld Me m53 := km37.tr kk53 (fun b j z => z.elim)
      replace e53_0 : 0 ≤ v53 ∧ v53 ≤ 1 := e53_0
      refine w_if (fun c5_ => ?_) (fun c5_ => ?_)
      · skip
        exact s_X4_nearestWorld_64 hk16 ⟨by omega, by omega⟩ ⟨by omega, by omega⟩ ⟨by omega, by omega⟩ (by omega) im53 km53
      · skip
        exact s_X4_nearestWorld_64 hk16 ⟨by omega, by omega⟩ ⟨by omega, by omega⟩ ⟨by omega, by omega⟩ (by omega) im53 km53
theorem s_X4_nearestWorld_16 {n : Nat} {Me : Mem} : ∀ (fu : Nat) (l1 l2 l3 : Int) (M : Mem), ((-1) ≤ l1 ∧ l1 ≤ 4095) → (0 ≤ l2 ∧ l2 ≤ 13) → (0 ≤ l3 ∧ l3 ≤ 4096) → 4097 - l3 < (fu : Int) → I n M → Keep n W_X4_nearestWorld Me M → wp (mX4_nearestWorld_16 fu 2 l1 l2 l3 M) (fun q => I n q.2 ∧ Keep n W_X4_nearestWorld Me q.2 ∧ ((-1) ≤ q.1 ∧ q.1 ≤ 4095) ∧ True) := by
  intro fu
  induction fu with
  | zero =>
    intro l1 l2 l3 M r_l1 r_l2 r_l3 hf iM kM
    exfalso
    omega
  | succ fu ih =>
    intro l1 l2 l3 M r_l1 r_l2 r_l3 hf iM kM
    exact sb_X4_nearestWorld_16 ih r_l1 r_l2 r_l3 (by have e : ((fu + 1 : Nat) : Int) = (fu : Int) + 1 := rfl; rw [e] at hf; exact hf) iM kM
theorem s_X4_nearestWorld {n : Nat} {M : Mem} (iM : I n M) : wp (mX4_nearestWorld 2 M) (fun q => I n q.2 ∧ Keep n W_X4_nearestWorld M q.2 ∧ ((-1) ≤ q.1 ∧ q.1 ≤ 4095) ∧ True) := by
  have hn : (169 : Int) ≤ (n : Int) := by have := iM.2.2.2.2.1; omega
  have kM : Keep n W_X4_nearestWorld M M := Keep.rf
  unfold mX4_nearestWorld
  refine w_gK (congrArg Prod.fst (kl_2 iM)) ?_
  refine w_call (s_X4_lookUp iM) ?_
  intro v1 m1 pp1
  obtain ⟨im1, kk1, e1_0, -⟩ := pp1
  try dsimp only
  replace im1 : I n m1 := im1
  replace kk1 : Keep n W_X4_lookUp M m1 := kk1
  have km1 : Keep n W_X4_nearestWorld M m1 := kM.tr kk1 (fun b j z => Or.elim z (fun z => (Or.inl z)) (fun z => Or.elim z (fun z => (Or.inr (Or.inl z))) (fun z => Or.elim z (fun z => (Or.inr (Or.inr (Or.inl z)))) (fun z => Or.elim z (fun z => (Or.inr (Or.inr (Or.inr (Or.inl z))))) (fun z => Or.elim z (fun z => (Or.inr (Or.inr (Or.inr (Or.inr (Or.inl z)))))) (fun z => Or.elim z (fun z => (Or.inr (Or.inr (Or.inr (Or.inr (Or.inr (Or.inl z))))))) (fun z => Or.elim z (fun z => (Or.inr (Or.inr (Or.inr (Or.inr (Or.inr (Or.inr (Or.inl z)))))))) (fun z => Or.elim z (fun z => (Or.inr (Or.inr (Or.inr (Or.inr (Or.inr (Or.inr (Or.inr (Or.inl z))))))))) (fun z => Or.elim z (fun z => (Or.inr (Or.inr (Or.inr (Or.inr (Or.inr (Or.inr (Or.inr (Or.inr (Or.inl z)))))))))) (fun z => Or.elim z (fun z => (Or.inr (Or.inr (Or.inr (Or.inr (Or.inr (Or.inr (Or.inr (Or.inr (Or.inr (Or.inl z))))))))))) (fun z => Or.elim z (fun z => (Or.inr (Or.inr (Or.inr (Or.inr (Or.inr (Or.inr (Or.inr (Or.inr (Or.inr (Or.inr (Or.inl z)))))))))))) (fun z => Or.elim z (fun z => (Or.inr (Or.inr (Or.inr (Or.inr (Or.inr (Or.inr (Or.inr (Or.inr (Or.inr (Or.inr (Or.inr (Or.inl z))))))))))))) (fun z => Or.elim z (fun z => (Or.inr (Or.inr (Or.inr (Or.inr (Or.inr (Or.inr (Or.inr (Or.inr (Or.inr (Or.inr (Or.inr (Or.inr (Or.inl z)))))))))))))) (fun z => (Or.inr (Or.inr (Or.inr (Or.inr (Or.inr (Or.inr (Or.inr (Or.inr (Or.inr (Or.inr (Or.inr (Or.inr (Or.inr z)))))))))))))))))))))))))))
  replace e1_0 : 0 ≤ v1 ∧ v1 ≤ 1 := e1_0
  refine w_if (fun c1_ => ?_) (fun c1_ => ?_)
  · skip
    exact w_ret ⟨im1, km1, (show (-1) ≤ (-1) ∧ (-1) ≤ 4095 from ⟨by omega, by omega⟩), trivial⟩
  · skip
    exact s_X4_nearestWorld_16 FU _ _ _ _ ⟨by omega, by omega⟩ ⟨by omega, by omega⟩ ⟨by omega, by omega⟩ (by show _ < (70000 : Int); omega) im1 km1
def W_X8_near (b j : Int) : Prop := (21 ≤ b ∧ b ≤ 23) ∨ b = 33 ∨ b = 35 ∨ isWS (b - 1) ∨ (b = 2 ∧ j = 4) ∨ (b = 20 ∧ j = 0) ∨ (b = 20 ∧ j = 1) ∨ (b = 20 ∧ j = 5) ∨ (b = 3 ∧ j = 1) ∨ (b = 32 ∧ j = 1) ∨ (b = 32 ∧ j = 2) ∨ (b = 34 ∧ j = 1) ∨ (b = 34 ∧ j = 2) ∨ (isWS b ∧ j = 1) ∨ (isWS b ∧ j = 2)
theorem s_X8_near {n : Nat} {M : Mem} (iM : I n M) : wp (mX8_near 1 M) (fun q => I n q.2 ∧ Keep n W_X8_near M q.2 ∧ ((-1) ≤ q.1 ∧ q.1 ≤ 127) ∧ True) := by
  have hn : (169 : Int) ≤ (n : Int) := by have := iM.2.2.2.2.1; omega
  have kM : Keep n W_X8_near M M := Keep.rf
  unfold mX8_near
  refine w_gFc (ji := 0) rfl (congrArg Prod.fst (kl_1 iM)) (show mG M 1 0 = 2 from rd_VS_0 iM (a := 1) rfl) ?_
  refine w_gK (congrArg Prod.fst (kl_2 iM)) ?_
  refine w_call (s_X4_nearestWorld iM) ?_
  intro v4 m4 pp4
  obtain ⟨im4, kk4, e4_0, -⟩ := pp4
  try dsimp only
  replace im4 : I n m4 := im4
  replace kk4 : Keep n W_X4_nearestWorld M m4 := kk4
  have km4 : Keep n W_X8_near M m4 := kM.tr kk4 (fun b j z => Or.elim z (fun z => (Or.inl z)) (fun z => Or.elim z (fun z => (Or.inr (Or.inl z))) (fun z => Or.elim z (fun z => (Or.inr (Or.inr (Or.inl z)))) (fun z => Or.elim z (fun z => (Or.inr (Or.inr (Or.inr (Or.inl z))))) (fun z => Or.elim z (fun z => (Or.inr (Or.inr (Or.inr (Or.inr (Or.inl z)))))) (fun z => Or.elim z (fun z => (Or.inr (Or.inr (Or.inr (Or.inr (Or.inr (Or.inl z))))))) (fun z => Or.elim z (fun z => (Or.inr (Or.inr (Or.inr (Or.inr (Or.inr (Or.inr (Or.inl z)))))))) (fun z => Or.elim z (fun z => (Or.inr (Or.inr (Or.inr (Or.inr (Or.inr (Or.inr (Or.inr (Or.inl z))))))))) (fun z => Or.elim z (fun z => (Or.inr (Or.inr (Or.inr (Or.inr (Or.inr (Or.inr (Or.inr (Or.inr (Or.inr (Or.inl z))))))))))) (fun z => Or.elim z (fun z => (Or.inr (Or.inr (Or.inr (Or.inr (Or.inr (Or.inr (Or.inr (Or.inr (Or.inr (Or.inr (Or.inl z)))))))))))) (fun z => Or.elim z (fun z => (Or.inr (Or.inr (Or.inr (Or.inr (Or.inr (Or.inr (Or.inr (Or.inr (Or.inr (Or.inr (Or.inr (Or.inl z))))))))))))) (fun z => Or.elim z (fun z => (Or.inr (Or.inr (Or.inr (Or.inr (Or.inr (Or.inr (Or.inr (Or.inr (Or.inr (Or.inr (Or.inr (Or.inr (Or.inl z)))))))))))))) (fun z => Or.elim z (fun z => (Or.inr (Or.inr (Or.inr (Or.inr (Or.inr (Or.inr (Or.inr (Or.inr (Or.inr (Or.inr (Or.inr (Or.inr (Or.inr (Or.inl z))))))))))))))) (fun z => (Or.inr (Or.inr (Or.inr (Or.inr (Or.inr (Or.inr (Or.inr (Or.inr (Or.inr (Or.inr (Or.inr (Or.inr (Or.inr (Or.inr z))))))))))))))))))))))))))))
  replace e4_0 : (-1) ≤ v4 ∧ v4 ≤ 4095 := e4_0
  refine w_if (fun c1_ => ?_) (fun c1_ => ?_)
  · skip
    exact w_ret ⟨im4, km4, (show (-1) ≤ (-1) ∧ (-1) ≤ 127 from ⟨by omega, by omega⟩), trivial⟩
  · skip
    refine w_gFc (ji := 1) rfl (congrArg Prod.fst (kl_1 im4)) (show mG m4 1 1 = 3 from rd_VS_1 im4 (a := 1) rfl) ?_
    refine w_gF (ji := 1) rfl (congrArg Prod.fst (kl_3 im4)) (fun a19 ha19 => ?_)
    have w2_ := (rfl : i2l v4 = v4)
    refine w_call (s_J13_bitCount_95d88 im4) ?_
    intro v25 m25 pp25
    obtain ⟨im25, kk25, e25_0, -⟩ := pp25
    try dsimp only
    replace im25 : I n m25 := im25
    replace kk25 : Keep n W_J13_bitCount_95d88 m4 m25 := kk25
    have km25 : Keep n W_X8_near M m25 := km4.tr kk25 (fun b j z => z.elim)
    replace e25_0 : 0 ≤ v25 ∧ v25 ≤ 127 := e25_0
    refine w_gFc (ji := 1) rfl (congrArg Prod.fst (kl_1 im25)) (show mG m25 1 1 = 3 from rd_VS_1 im25 (a := 1) rfl) ?_
    refine w_pF (ji := 1) rfl (congrArg Prod.fst (kl_3 im25)) (fun M35 hM35 => ?_)
    replace hM35 : M35 = mS m25 3 1 (i2l v4) := hM35
    have iM35 : I n M35 := wr_Told_1 im25 rfl hM35
    have kM35 : Keep n W_X8_near M M35 := km25.st hM35 (Or.inl (Or.inr (Or.inr (Or.inr (Or.inr (Or.inr (Or.inr (Or.inr (Or.inr (Or.inl ⟨rfl, rfl⟩))))))))))
    obtain ⟨svM35, esvM35⟩ : ∃ z, z = (i2l v4) := ⟨_, rfl⟩
    exact w_ret ⟨iM35, kM35, (show (-1) ≤ v25 ∧ v25 ≤ 127 from ⟨by omega, by omega⟩), trivial⟩
def W_X4_countGuessWorlds (b j : Int) : Prop := (21 ≤ b ∧ b ≤ 23) ∨ b = 33 ∨ b = 35 ∨ isWS (b - 1) ∨ (b = 2 ∧ j = 4) ∨ (b = 20 ∧ j = 0) ∨ (b = 20 ∧ j = 1) ∨ (b = 20 ∧ j = 5) ∨ (b = 32 ∧ j = 1) ∨ (b = 32 ∧ j = 2) ∨ (b = 34 ∧ j = 1) ∨ (b = 34 ∧ j = 2) ∨ (isWS b ∧ j = 1) ∨ (isWS b ∧ j = 2)
theorem s_X4_countGuessWorlds {n : Nat} {M : Mem} (iM : I n M) : wp (mX4_countGuessWorlds 2 M) (fun q => I n q.2 ∧ Keep n W_X4_countGuessWorlds M q.2 ∧ ((-1) ≤ q.1 ∧ q.1 ≤ 8128) ∧ True) := by
  have hn : (169 : Int) ≤ (n : Int) := by have := iM.2.2.2.2.1; omega
  have kM : Keep n W_X4_countGuessWorlds M M := Keep.rf
  unfold mX4_countGuessWorlds
  refine w_gFc (ji := 0) rfl (congrArg Prod.fst (kl_2 iM)) (show mG M 2 0 = 3 from rd_Solver_0 iM (a := 2) rfl) ?_
  refine w_gF (ji := 12) rfl (congrArg Prod.fst (kl_3 iM)) (fun a4 ha4 => ?_)
  have xa4 : TX n M a4 := by rw [← ha4.e]; exact iM.2.2.1.2.1 3 (by unfold isTold; omega)
  refine w_if (fun c1_ => ?_) (fun c1_ => ?_)
  · skip
    exact w_ret ⟨iM, kM, (show (-1) ≤ (-1) ∧ (-1) ≤ 8128 from ⟨by omega, by omega⟩), trivial⟩
  · skip
    obtain ⟨q2_, m3_, t4_⟩ := TX.nn xa4 c1_
    refine w_gK (congrArg Prod.fst (kl_2 iM)) ?_
    refine w_call (s_X4_lookUp iM) ?_
    intro v11 m11 pp11
    obtain ⟨im11, kk11, e11_0, -⟩ := pp11
    try dsimp only
    replace im11 : I n m11 := im11
    replace kk11 : Keep n W_X4_lookUp M m11 := kk11
    have km11 : Keep n W_X4_countGuessWorlds M m11 := kM.tr kk11 (fun b j z => Or.elim z (fun z => (Or.inl z)) (fun z => Or.elim z (fun z => (Or.inr (Or.inl z))) (fun z => Or.elim z (fun z => (Or.inr (Or.inr (Or.inl z)))) (fun z => Or.elim z (fun z => (Or.inr (Or.inr (Or.inr (Or.inl z))))) (fun z => Or.elim z (fun z => (Or.inr (Or.inr (Or.inr (Or.inr (Or.inl z)))))) (fun z => Or.elim z (fun z => (Or.inr (Or.inr (Or.inr (Or.inr (Or.inr (Or.inl z))))))) (fun z => Or.elim z (fun z => (Or.inr (Or.inr (Or.inr (Or.inr (Or.inr (Or.inr (Or.inl z)))))))) (fun z => Or.elim z (fun z => (Or.inr (Or.inr (Or.inr (Or.inr (Or.inr (Or.inr (Or.inr (Or.inl z))))))))) (fun z => Or.elim z (fun z => (Or.inr (Or.inr (Or.inr (Or.inr (Or.inr (Or.inr (Or.inr (Or.inr (Or.inl z)))))))))) (fun z => Or.elim z (fun z => (Or.inr (Or.inr (Or.inr (Or.inr (Or.inr (Or.inr (Or.inr (Or.inr (Or.inr (Or.inl z))))))))))) (fun z => Or.elim z (fun z => (Or.inr (Or.inr (Or.inr (Or.inr (Or.inr (Or.inr (Or.inr (Or.inr (Or.inr (Or.inr (Or.inl z)))))))))))) (fun z => Or.elim z (fun z => (Or.inr (Or.inr (Or.inr (Or.inr (Or.inr (Or.inr (Or.inr (Or.inr (Or.inr (Or.inr (Or.inr (Or.inl z))))))))))))) (fun z => Or.elim z (fun z => (Or.inr (Or.inr (Or.inr (Or.inr (Or.inr (Or.inr (Or.inr (Or.inr (Or.inr (Or.inr (Or.inr (Or.inr (Or.inl z)))))))))))))) (fun z => (Or.inr (Or.inr (Or.inr (Or.inr (Or.inr (Or.inr (Or.inr (Or.inr (Or.inr (Or.inr (Or.inr (Or.inr (Or.inr z)))))))))))))))))))))))))))
    replace e11_0 : 0 ≤ v11 ∧ v11 ≤ 1 := e11_0
    refine w_if (fun c5_ => ?_) (fun c5_ => ?_)
    · skip
      exact w_ret ⟨im11, km11, (show (-1) ≤ (-1) ∧ (-1) ≤ 8128 from ⟨by omega, by omega⟩), trivial⟩
    · skip
      refine w_gFc (ji := 6) rfl (congrArg Prod.fst (kl_2 im11)) (show mG m11 2 6 = 34 from rd_Solver_6 im11 (a := 2) rfl) ?_
      refine w_gFc (ji := 0) rfl (congrArg Prod.fst (kl_2 im11)) (show mG m11 2 0 = 3 from rd_Solver_0 im11 (a := 2) rfl) ?_
      refine w_gFc (ji := 12) rfl (congrArg Prod.fst (kl_3 im11)) (show mG m11 3 12 = a4 from ((kk11.2.2 3 12 (by omega) (fun z => by unfold W_X4_lookUp at z; (try unfold isWS at z); (try unfold isShape at z); (try unfold isTold at z); (try dsimp only at z); omega)).trans (show mG M 3 12 = a4 from ha4))) ?_
      refine w_gK (congrArg Prod.fst (kl_2 im11)) ?_
      have x6_ : TX n m11 a4 := (TX.ot xa4 (otx_kp kk11 (fun b j z => by unfold W_X4_lookUp at z; (try unfold isWS at z); (try unfold isShape at z); (try unfold isTold at z); (try dsimp only at z); omega)))
      refine w_call (s_X4_truth ⟨by omega, by omega⟩ x6_ im11) ?_
      intro v33 m33 pp33
      obtain ⟨im33, kk33, e33_0, -⟩ := pp33
      try dsimp only
      replace im33 : I n m33 := im33
      replace kk33 : Keep n W_X4_truth m11 m33 := kk33
      have km33 : Keep n W_X4_countGuessWorlds M m33 := km11.tr kk33 (fun b j z => Or.elim z (fun z => (Or.inl z)) (fun z => Or.elim z (fun z => (Or.inr (Or.inr (Or.inr (Or.inl z))))) (fun z => Or.elim z (fun z => (Or.inr (Or.inr (Or.inr (Or.inr (Or.inl z)))))) (fun z => Or.elim z (fun z => (Or.inr (Or.inr (Or.inr (Or.inr (Or.inr (Or.inl z))))))) (fun z => Or.elim z (fun z => (Or.inr (Or.inr (Or.inr (Or.inr (Or.inr (Or.inr (Or.inl z)))))))) (fun z => Or.elim z (fun z => (Or.inr (Or.inr (Or.inr (Or.inr (Or.inr (Or.inr (Or.inr (Or.inl z))))))))) (fun z => Or.elim z (fun z => (Or.inr (Or.inr (Or.inr (Or.inr (Or.inr (Or.inr (Or.inr (Or.inr (Or.inr (Or.inr (Or.inr (Or.inr (Or.inl z)))))))))))))) (fun z => (Or.inr (Or.inr (Or.inr (Or.inr (Or.inr (Or.inr (Or.inr (Or.inr (Or.inr (Or.inr (Or.inr (Or.inr (Or.inr z)))))))))))))))))))))
      replace e33_0 : isWS v33 := e33_0
      have u_v33 := e33_0
      unfold isWS at u_v33
      refine w_gK (congrArg Prod.fst (kl_34 im33)) ?_
      refine w_call (s_X7_keepOnly (by unfold isWS; omega) e33_0 im33) ?_
      intro v36 m36 pp36
      obtain ⟨im36, kk36, -⟩ := pp36
      try dsimp only
      replace im36 : I n m36 := im36
      replace kk36 : Keep n (W_X7_keepOnly 34 v33) m33 m36 := kk36
      have km36 : Keep n W_X4_countGuessWorlds M m36 := km33.tr kk36 (fun b j z => (Or.inr (Or.inr (Or.inl (by omega)))))
      refine w_gFc (ji := 6) rfl (congrArg Prod.fst (kl_2 im36)) (show mG m36 2 6 = 34 from rd_Solver_6 im36 (a := 2) rfl) ?_
      refine w_gK (congrArg Prod.fst (kl_34 im36)) ?_
      refine w_call (s_X7_count (by unfold isWS; omega) im36) ?_
      intro v43 m43 pp43
      obtain ⟨im43, kk43, e43_0, -⟩ := pp43
      try dsimp only
      replace im43 : I n m43 := im43
      replace kk43 : Keep n (W_X7_count 34) m36 m43 := kk43
      have km43 : Keep n W_X4_countGuessWorlds M m43 := km36.tr kk43 (fun b j z => z.elim)
      replace e43_0 : 0 ≤ v43 ∧ v43 ≤ 8128 := e43_0
      exact w_ret ⟨im43, km43, (show (-1) ≤ v43 ∧ v43 ≤ 8128 from ⟨by omega, by omega⟩), trivial⟩
def W_X4_countGuessForms (b j : Int) : Prop := (21 ≤ b ∧ b ≤ 23) ∨ (25 ≤ b ∧ b ≤ 26) ∨ b = 28 ∨ b = 30 ∨ b = 33 ∨ b = 35 ∨ b = 37 ∨ isWS (b - 1) ∨ (b = 2 ∧ j = 4) ∨ (b = 20 ∧ j = 0) ∨ (b = 20 ∧ j = 1) ∨ (b = 20 ∧ j = 5) ∨ (b = 24 ∧ j = 4) ∨ (b = 24 ∧ j = 5) ∨ (b = 24 ∧ j = 6) ∨ (b = 24 ∧ j = 7) ∨ (b = 27 ∧ j = 1) ∨ (b = 27 ∧ j = 2) ∨ (b = 29 ∧ j = 1) ∨ (b = 29 ∧ j = 2) ∨ (b = 32 ∧ j = 1) ∨ (b = 32 ∧ j = 2) ∨ (b = 34 ∧ j = 1) ∨ (b = 34 ∧ j = 2) ∨ (b = 36 ∧ j = 1) ∨ (b = 36 ∧ j = 2) ∨ (isWS b ∧ j = 1) ∨ (isWS b ∧ j = 2)
theorem s_X4_countGuessForms {n : Nat} {M : Mem} (iM : I n M) : wp (mX4_countGuessForms 2 M) (fun q => I n q.2 ∧ Keep n W_X4_countGuessForms M q.2 ∧ ((-1) ≤ q.1 ∧ q.1 ≤ 8128) ∧ True) := by
  have hn : (169 : Int) ≤ (n : Int) := by have := iM.2.2.2.2.1; omega
  have kM : Keep n W_X4_countGuessForms M M := Keep.rf
  unfold mX4_countGuessForms
  refine w_gFc (ji := 0) rfl (congrArg Prod.fst (kl_2 iM)) (show mG M 2 0 = 3 from rd_Solver_0 iM (a := 2) rfl) ?_
  refine w_gF (ji := 12) rfl (congrArg Prod.fst (kl_3 iM)) (fun a4 ha4 => ?_)
  have xa4 : TX n M a4 := by rw [← ha4.e]; exact iM.2.2.1.2.1 3 (by unfold isTold; omega)
  refine w_if (fun c1_ => ?_) (fun c1_ => ?_)
  · skip
    exact w_ret ⟨iM, kM, (show (-1) ≤ (-1) ∧ (-1) ≤ 8128 from ⟨by omega, by omega⟩), trivial⟩
  · skip
    obtain ⟨q2_, m3_, t4_⟩ := TX.nn xa4 c1_
    refine w_gK (congrArg Prod.fst (kl_2 iM)) ?_
    refine w_call (s_X4_lookUp iM) ?_
    intro v11 m11 pp11
    obtain ⟨im11, kk11, e11_0, -⟩ := pp11
    try dsimp only
    replace im11 : I n m11 := im11
    replace kk11 : Keep n W_X4_lookUp M m11 := kk11
    have km11 : Keep n W_X4_countGuessForms M m11 := kM.tr kk11 (fun b j z => Or.elim z (fun z => (Or.inl z)) (fun z => Or.elim z (fun z => (Or.inr (Or.inr (Or.inr (Or.inr (Or.inl z)))))) (fun z => Or.elim z (fun z => (Or.inr (Or.inr (Or.inr (Or.inr (Or.inr (Or.inl z))))))) (fun z => Or.elim z (fun z => (Or.inr (Or.inr (Or.inr (Or.inr (Or.inr (Or.inr (Or.inr (Or.inl z))))))))) (fun z => Or.elim z (fun z => (Or.inr (Or.inr (Or.inr (Or.inr (Or.inr (Or.inr (Or.inr (Or.inr (Or.inl z)))))))))) (fun z => Or.elim z (fun z => (Or.inr (Or.inr (Or.inr (Or.inr (Or.inr (Or.inr (Or.inr (Or.inr (Or.inr (Or.inl z))))))))))) (fun z => Or.elim z (fun z => (Or.inr (Or.inr (Or.inr (Or.inr (Or.inr (Or.inr (Or.inr (Or.inr (Or.inr (Or.inr (Or.inl z)))))))))))) (fun z => Or.elim z (fun z => (Or.inr (Or.inr (Or.inr (Or.inr (Or.inr (Or.inr (Or.inr (Or.inr (Or.inr (Or.inr (Or.inr (Or.inl z))))))))))))) (fun z => Or.elim z (fun z => (Or.inr (Or.inr (Or.inr (Or.inr (Or.inr (Or.inr (Or.inr (Or.inr (Or.inr (Or.inr (Or.inr (Or.inr (Or.inr (Or.inr (Or.inr (Or.inr (Or.inr (Or.inr (Or.inr (Or.inr (Or.inl z)))))))))))))))))))))) (fun z => Or.elim z (fun z => (Or.inr (Or.inr (Or.inr (Or.inr (Or.inr (Or.inr (Or.inr (Or.inr (Or.inr (Or.inr (Or.inr (Or.inr (Or.inr (Or.inr (Or.inr (Or.inr (Or.inr (Or.inr (Or.inr (Or.inr (Or.inr (Or.inl z))))))))))))))))))))))) (fun z => Or.elim z (fun z => (Or.inr (Or.inr (Or.inr (Or.inr (Or.inr (Or.inr (Or.inr (Or.inr (Or.inr (Or.inr (Or.inr (Or.inr (Or.inr (Or.inr (Or.inr (Or.inr (Or.inr (Or.inr (Or.inr (Or.inr (Or.inr (Or.inr (Or.inl z)))))))))))))))))))))))) (fun z => Or.elim z (fun z => (Or.inr (Or.inr (Or.inr (Or.inr (Or.inr (Or.inr (Or.inr (Or.inr (Or.inr (Or.inr (Or.inr (Or.inr (Or.inr (Or.inr (Or.inr (Or.inr (Or.inr (Or.inr (Or.inr (Or.inr (Or.inr (Or.inr (Or.inr (Or.inl z))))))))))))))))))))))))) (fun z => Or.elim z (fun z => (Or.inr (Or.inr (Or.inr (Or.inr (Or.inr (Or.inr (Or.inr (Or.inr (Or.inr (Or.inr (Or.inr (Or.inr (Or.inr (Or.inr (Or.inr (Or.inr (Or.inr (Or.inr (Or.inr (Or.inr (Or.inr (Or.inr (Or.inr (Or.inr (Or.inr (Or.inr (Or.inl z)))))))))))))))))))))))))))) (fun z => (Or.inr (Or.inr (Or.inr (Or.inr (Or.inr (Or.inr (Or.inr (Or.inr (Or.inr (Or.inr (Or.inr (Or.inr (Or.inr (Or.inr (Or.inr (Or.inr (Or.inr (Or.inr (Or.inr (Or.inr (Or.inr (Or.inr (Or.inr (Or.inr (Or.inr (Or.inr (Or.inr z)))))))))))))))))))))))))))))))))))))))))
    replace e11_0 : 0 ≤ v11 ∧ v11 ≤ 1 := e11_0
    refine w_if (fun c5_ => ?_) (fun c5_ => ?_)
    · skip
      exact w_ret ⟨im11, km11, (show (-1) ≤ (-1) ∧ (-1) ≤ 8128 from ⟨by omega, by omega⟩), trivial⟩
    · skip
      refine w_gK (congrArg Prod.fst (kl_2 im11)) ?_
      refine w_call (s_X4_pickForms im11) ?_
      intro v20 m20 pp20
      obtain ⟨im20, kk20, -⟩ := pp20
      try dsimp only
      replace im20 : I n m20 := im20
      replace kk20 : Keep n W_X4_pickForms m11 m20 := kk20
      have km20 : Keep n W_X4_countGuessForms M m20 := km11.tr kk20 (fun b j z => Or.elim z (fun z => (Or.inr (Or.inl z))) (fun z => Or.elim z (fun z => (Or.inr (Or.inr (Or.inl z)))) (fun z => Or.elim z (fun z => (Or.inr (Or.inr (Or.inr (Or.inl z))))) (fun z => Or.elim z (fun z => (Or.inr (Or.inr (Or.inr (Or.inr (Or.inr (Or.inr (Or.inl z)))))))) (fun z => Or.elim z (fun z => (Or.inr (Or.inr (Or.inr (Or.inr (Or.inr (Or.inr (Or.inr (Or.inr (Or.inr (Or.inr (Or.inr (Or.inr (Or.inl z)))))))))))))) (fun z => Or.elim z (fun z => (Or.inr (Or.inr (Or.inr (Or.inr (Or.inr (Or.inr (Or.inr (Or.inr (Or.inr (Or.inr (Or.inr (Or.inr (Or.inr (Or.inl z))))))))))))))) (fun z => Or.elim z (fun z => (Or.inr (Or.inr (Or.inr (Or.inr (Or.inr (Or.inr (Or.inr (Or.inr (Or.inr (Or.inr (Or.inr (Or.inr (Or.inr (Or.inr (Or.inl z)))))))))))))))) (fun z => Or.elim z (fun z => (Or.inr (Or.inr (Or.inr (Or.inr (Or.inr (Or.inr (Or.inr (Or.inr (Or.inr (Or.inr (Or.inr (Or.inr (Or.inr (Or.inr (Or.inr (Or.inl z))))))))))))))))) (fun z => Or.elim z (fun z => (Or.inr (Or.inr (Or.inr (Or.inr (Or.inr (Or.inr (Or.inr (Or.inr (Or.inr (Or.inr (Or.inr (Or.inr (Or.inr (Or.inr (Or.inr (Or.inr (Or.inl z)))))))))))))))))) (fun z => Or.elim z (fun z => (Or.inr (Or.inr (Or.inr (Or.inr (Or.inr (Or.inr (Or.inr (Or.inr (Or.inr (Or.inr (Or.inr (Or.inr (Or.inr (Or.inr (Or.inr (Or.inr (Or.inr (Or.inl z))))))))))))))))))) (fun z => Or.elim z (fun z => (Or.inr (Or.inr (Or.inr (Or.inr (Or.inr (Or.inr (Or.inr (Or.inr (Or.inr (Or.inr (Or.inr (Or.inr (Or.inr (Or.inr (Or.inr (Or.inr (Or.inr (Or.inr (Or.inl z)))))))))))))))))))) (fun z => Or.elim z (fun z => (Or.inr (Or.inr (Or.inr (Or.inr (Or.inr (Or.inr (Or.inr (Or.inr (Or.inr (Or.inr (Or.inr (Or.inr (Or.inr (Or.inr (Or.inr (Or.inr (Or.inr (Or.inr (Or.inr (Or.inl z))))))))))))))))))))) (fun z => Or.elim z (fun z => (Or.inr (Or.inr (Or.inr (Or.inr (Or.inr (Or.inr (Or.inr (Or.inr (Or.inr (Or.inr (Or.inr (Or.inr (Or.inr (Or.inr (Or.inr (Or.inr (Or.inr (Or.inr (Or.inr (Or.inr (Or.inr (Or.inr (Or.inr (Or.inr (Or.inl z)))))))))))))))))))))))))) (fun z => (Or.inr (Or.inr (Or.inr (Or.inr (Or.inr (Or.inr (Or.inr (Or.inr (Or.inr (Or.inr (Or.inr (Or.inr (Or.inr (Or.inr (Or.inr (Or.inr (Or.inr (Or.inr (Or.inr (Or.inr (Or.inr (Or.inr (Or.inr (Or.inr (Or.inr (Or.inl z))))))))))))))))))))))))))))))))))))))))
      refine w_gFc (ji := 7) rfl (congrArg Prod.fst (kl_2 im20)) (show mG m20 2 7 = 36 from rd_Solver_7 im20 (a := 2) rfl) ?_
      refine w_gFc (ji := 0) rfl (congrArg Prod.fst (kl_2 im20)) (show mG m20 2 0 = 3 from rd_Solver_0 im20 (a := 2) rfl) ?_
      refine w_gFc (ji := 12) rfl (congrArg Prod.fst (kl_3 im20)) (show mG m20 3 12 = a4 from ((kk20.2.2 3 12 (by omega) (fun z => by unfold W_X4_pickForms at z; (try unfold isWS at z); (try unfold isShape at z); (try unfold isTold at z); (try dsimp only at z); omega)).trans ((kk11.2.2 3 12 (by omega) (fun z => by unfold W_X4_lookUp at z; (try unfold isWS at z); (try unfold isShape at z); (try unfold isTold at z); (try dsimp only at z); omega)).trans (show mG M 3 12 = a4 from ha4)))) ?_
      refine w_gK (congrArg Prod.fst (kl_2 im20)) ?_
      have x6_ : TX n m20 a4 := (TX.ot (TX.ot xa4 (otx_kp kk11 (fun b j z => by unfold W_X4_lookUp at z; (try unfold isWS at z); (try unfold isShape at z); (try unfold isTold at z); (try dsimp only at z); omega))) (otx_kp kk20 (fun b j z => by unfold W_X4_pickForms at z; (try unfold isWS at z); (try unfold isShape at z); (try unfold isTold at z); (try dsimp only at z); omega)))
      refine w_call (s_X4_truth ⟨by omega, by omega⟩ x6_ im20) ?_
      intro v37 m37 pp37
      obtain ⟨im37, kk37, e37_0, -⟩ := pp37
      try dsimp only
      replace im37 : I n m37 := im37
      replace kk37 : Keep n W_X4_truth m20 m37 := kk37
      have km37 : Keep n W_X4_countGuessForms M m37 := km20.tr kk37 (fun b j z => Or.elim z (fun z => (Or.inl z)) (fun z => Or.elim z (fun z => (Or.inr (Or.inr (Or.inr (Or.inr (Or.inr (Or.inr (Or.inr (Or.inl z))))))))) (fun z => Or.elim z (fun z => (Or.inr (Or.inr (Or.inr (Or.inr (Or.inr (Or.inr (Or.inr (Or.inr (Or.inl z)))))))))) (fun z => Or.elim z (fun z => (Or.inr (Or.inr (Or.inr (Or.inr (Or.inr (Or.inr (Or.inr (Or.inr (Or.inr (Or.inl z))))))))))) (fun z => Or.elim z (fun z => (Or.inr (Or.inr (Or.inr (Or.inr (Or.inr (Or.inr (Or.inr (Or.inr (Or.inr (Or.inr (Or.inl z)))))))))))) (fun z => Or.elim z (fun z => (Or.inr (Or.inr (Or.inr (Or.inr (Or.inr (Or.inr (Or.inr (Or.inr (Or.inr (Or.inr (Or.inr (Or.inl z))))))))))))) (fun z => Or.elim z (fun z => (Or.inr (Or.inr (Or.inr (Or.inr (Or.inr (Or.inr (Or.inr (Or.inr (Or.inr (Or.inr (Or.inr (Or.inr (Or.inr (Or.inr (Or.inr (Or.inr (Or.inr (Or.inr (Or.inr (Or.inr (Or.inr (Or.inr (Or.inr (Or.inr (Or.inr (Or.inr (Or.inl z)))))))))))))))))))))))))))) (fun z => (Or.inr (Or.inr (Or.inr (Or.inr (Or.inr (Or.inr (Or.inr (Or.inr (Or.inr (Or.inr (Or.inr (Or.inr (Or.inr (Or.inr (Or.inr (Or.inr (Or.inr (Or.inr (Or.inr (Or.inr (Or.inr (Or.inr (Or.inr (Or.inr (Or.inr (Or.inr (Or.inr z)))))))))))))))))))))))))))))))))))
      replace e37_0 : isWS v37 := e37_0
      have u_v37 := e37_0
      unfold isWS at u_v37
      refine w_gK (congrArg Prod.fst (kl_36 im37)) ?_
      refine w_call (s_X7_keepOnly (by unfold isWS; omega) e37_0 im37) ?_
      intro v40 m40 pp40
      obtain ⟨im40, kk40, -⟩ := pp40
      try dsimp only
      replace im40 : I n m40 := im40
      replace kk40 : Keep n (W_X7_keepOnly 36 v37) m37 m40 := kk40
      have km40 : Keep n W_X4_countGuessForms M m40 := km37.tr kk40 (fun b j z => (Or.inr (Or.inr (Or.inr (Or.inr (Or.inr (Or.inr (Or.inl (by omega)))))))))
      refine w_gFc (ji := 7) rfl (congrArg Prod.fst (kl_2 im40)) (show mG m40 2 7 = 36 from rd_Solver_7 im40 (a := 2) rfl) ?_
      refine w_gK (congrArg Prod.fst (kl_36 im40)) ?_
      refine w_call (s_X7_count (by unfold isWS; omega) im40) ?_
      intro v47 m47 pp47
      obtain ⟨im47, kk47, e47_0, -⟩ := pp47
      try dsimp only
      replace im47 : I n m47 := im47
      replace kk47 : Keep n (W_X7_count 36) m40 m47 := kk47
      have km47 : Keep n W_X4_countGuessForms M m47 := km40.tr kk47 (fun b j z => z.elim)
      replace e47_0 : 0 ≤ v47 ∧ v47 ≤ 8128 := e47_0
      exact w_ret ⟨im47, km47, (show (-1) ≤ v47 ∧ v47 ≤ 8128 from ⟨by omega, by omega⟩), trivial⟩
def W_X8_holds (b j : Int) : Prop := (21 ≤ b ∧ b ≤ 23) ∨ (25 ≤ b ∧ b ≤ 26) ∨ b = 28 ∨ b = 30 ∨ b = 33 ∨ b = 35 ∨ b = 37 ∨ isWS (b - 1) ∨ (b = 2 ∧ j = 4) ∨ (b = 20 ∧ j = 0) ∨ (b = 20 ∧ j = 1) ∨ (b = 20 ∧ j = 5) ∨ (b = 24 ∧ j = 4) ∨ (b = 24 ∧ j = 5) ∨ (b = 24 ∧ j = 6) ∨ (b = 24 ∧ j = 7) ∨ (b = 27 ∧ j = 1) ∨ (b = 27 ∧ j = 2) ∨ (b = 29 ∧ j = 1) ∨ (b = 29 ∧ j = 2) ∨ (b = 32 ∧ j = 1) ∨ (b = 32 ∧ j = 2) ∨ (b = 34 ∧ j = 1) ∨ (b = 34 ∧ j = 2) ∨ (b = 36 ∧ j = 1) ∨ (b = 36 ∧ j = 2) ∨ (isWS b ∧ j = 1) ∨ (isWS b ∧ j = 2)
theorem s_X8_holds {n : Nat} {l1 : Int} {M : Mem} (r_l1 : (-2147483648) ≤ l1 ∧ l1 ≤ 2147483647) (iM : I n M) : wp (mX8_holds 1 l1 M) (fun q => I n q.2 ∧ Keep n W_X8_holds M q.2 ∧ ((-1) ≤ q.1 ∧ q.1 ≤ 8128) ∧ True) := by
  have hn : (169 : Int) ≤ (n : Int) := by have := iM.2.2.2.2.1; omega
  have kM : Keep n W_X8_holds M M := Keep.rf
  unfold mX8_holds
  refine w_if (fun c1_ => ?_) (fun c1_ => ?_)
  · skip
    refine w_gFc (ji := 0) rfl (congrArg Prod.fst (kl_1 iM)) (show mG M 1 0 = 2 from rd_VS_0 iM (a := 1) rfl) ?_
    refine w_gK (congrArg Prod.fst (kl_2 iM)) ?_
    refine w_call (s_X4_countGuessWorlds iM) ?_
    intro v32 m32 pp32
    obtain ⟨im32, kk32, e32_0, -⟩ := pp32
    try dsimp only
    replace im32 : I n m32 := im32
    replace kk32 : Keep n W_X4_countGuessWorlds M m32 := kk32
    have km32 : Keep n W_X8_holds M m32 := kM.tr kk32 (fun b j z => Or.elim z (fun z => (Or.inl z)) (fun z => Or.elim z (fun z => (Or.inr (Or.inr (Or.inr (Or.inr (Or.inl z)))))) (fun z => Or.elim z (fun z => (Or.inr (Or.inr (Or.inr (Or.inr (Or.inr (Or.inl z))))))) (fun z => Or.elim z (fun z => (Or.inr (Or.inr (Or.inr (Or.inr (Or.inr (Or.inr (Or.inr (Or.inl z))))))))) (fun z => Or.elim z (fun z => (Or.inr (Or.inr (Or.inr (Or.inr (Or.inr (Or.inr (Or.inr (Or.inr (Or.inl z)))))))))) (fun z => Or.elim z (fun z => (Or.inr (Or.inr (Or.inr (Or.inr (Or.inr (Or.inr (Or.inr (Or.inr (Or.inr (Or.inl z))))))))))) (fun z => Or.elim z (fun z => (Or.inr (Or.inr (Or.inr (Or.inr (Or.inr (Or.inr (Or.inr (Or.inr (Or.inr (Or.inr (Or.inl z)))))))))))) (fun z => Or.elim z (fun z => (Or.inr (Or.inr (Or.inr (Or.inr (Or.inr (Or.inr (Or.inr (Or.inr (Or.inr (Or.inr (Or.inr (Or.inl z))))))))))))) (fun z => Or.elim z (fun z => (Or.inr (Or.inr (Or.inr (Or.inr (Or.inr (Or.inr (Or.inr (Or.inr (Or.inr (Or.inr (Or.inr (Or.inr (Or.inr (Or.inr (Or.inr (Or.inr (Or.inr (Or.inr (Or.inr (Or.inr (Or.inl z)))))))))))))))))))))) (fun z => Or.elim z (fun z => (Or.inr (Or.inr (Or.inr (Or.inr (Or.inr (Or.inr (Or.inr (Or.inr (Or.inr (Or.inr (Or.inr (Or.inr (Or.inr (Or.inr (Or.inr (Or.inr (Or.inr (Or.inr (Or.inr (Or.inr (Or.inr (Or.inl z))))))))))))))))))))))) (fun z => Or.elim z (fun z => (Or.inr (Or.inr (Or.inr (Or.inr (Or.inr (Or.inr (Or.inr (Or.inr (Or.inr (Or.inr (Or.inr (Or.inr (Or.inr (Or.inr (Or.inr (Or.inr (Or.inr (Or.inr (Or.inr (Or.inr (Or.inr (Or.inr (Or.inl z)))))))))))))))))))))))) (fun z => Or.elim z (fun z => (Or.inr (Or.inr (Or.inr (Or.inr (Or.inr (Or.inr (Or.inr (Or.inr (Or.inr (Or.inr (Or.inr (Or.inr (Or.inr (Or.inr (Or.inr (Or.inr (Or.inr (Or.inr (Or.inr (Or.inr (Or.inr (Or.inr (Or.inr (Or.inl z))))))))))))))))))))))))) (fun z => Or.elim z (fun z => (Or.inr (Or.inr (Or.inr (Or.inr (Or.inr (Or.inr (Or.inr (Or.inr (Or.inr (Or.inr (Or.inr (Or.inr (Or.inr (Or.inr (Or.inr (Or.inr (Or.inr (Or.inr (Or.inr (Or.inr (Or.inr (Or.inr (Or.inr (Or.inr (Or.inr (Or.inr (Or.inl z)))))))))))))))))))))))))))) (fun z => (Or.inr (Or.inr (Or.inr (Or.inr (Or.inr (Or.inr (Or.inr (Or.inr (Or.inr (Or.inr (Or.inr (Or.inr (Or.inr (Or.inr (Or.inr (Or.inr (Or.inr (Or.inr (Or.inr (Or.inr (Or.inr (Or.inr (Or.inr (Or.inr (Or.inr (Or.inr (Or.inr z)))))))))))))))))))))))))))))))))))))))))
    replace e32_0 : (-1) ≤ v32 ∧ v32 ≤ 8128 := e32_0
    exact w_ret ⟨im32, km32, (show (-1) ≤ v32 ∧ v32 ≤ 8128 from ⟨by omega, by omega⟩), trivial⟩
  · skip
    refine w_if (fun c2_ => ?_) (fun c2_ => ?_)
    · skip
      refine w_gFc (ji := 0) rfl (congrArg Prod.fst (kl_1 iM)) (show mG M 1 0 = 2 from rd_VS_0 iM (a := 1) rfl) ?_
      refine w_gK (congrArg Prod.fst (kl_2 iM)) ?_
      refine w_call (s_X4_countGuessForms iM) ?_
      intro v40 m40 pp40
      obtain ⟨im40, kk40, e40_0, -⟩ := pp40
      try dsimp only
      replace im40 : I n m40 := im40
      replace kk40 : Keep n W_X4_countGuessForms M m40 := kk40
      have km40 : Keep n W_X8_holds M m40 := kM.tr kk40 (fun b j z => Or.elim z (fun z => (Or.inl z)) (fun z => Or.elim z (fun z => (Or.inr (Or.inl z))) (fun z => Or.elim z (fun z => (Or.inr (Or.inr (Or.inl z)))) (fun z => Or.elim z (fun z => (Or.inr (Or.inr (Or.inr (Or.inl z))))) (fun z => Or.elim z (fun z => (Or.inr (Or.inr (Or.inr (Or.inr (Or.inl z)))))) (fun z => Or.elim z (fun z => (Or.inr (Or.inr (Or.inr (Or.inr (Or.inr (Or.inl z))))))) (fun z => Or.elim z (fun z => (Or.inr (Or.inr (Or.inr (Or.inr (Or.inr (Or.inr (Or.inl z)))))))) (fun z => Or.elim z (fun z => (Or.inr (Or.inr (Or.inr (Or.inr (Or.inr (Or.inr (Or.inr (Or.inl z))))))))) (fun z => Or.elim z (fun z => (Or.inr (Or.inr (Or.inr (Or.inr (Or.inr (Or.inr (Or.inr (Or.inr (Or.inl z)))))))))) (fun z => Or.elim z (fun z => (Or.inr (Or.inr (Or.inr (Or.inr (Or.inr (Or.inr (Or.inr (Or.inr (Or.inr (Or.inl z))))))))))) (fun z => Or.elim z (fun z => (Or.inr (Or.inr (Or.inr (Or.inr (Or.inr (Or.inr (Or.inr (Or.inr (Or.inr (Or.inr (Or.inl z)))))))))))) (fun z => Or.elim z (fun z => (Or.inr (Or.inr (Or.inr (Or.inr (Or.inr (Or.inr (Or.inr (Or.inr (Or.inr (Or.inr (Or.inr (Or.inl z))))))))))))) (fun z => Or.elim z (fun z => (Or.inr (Or.inr (Or.inr (Or.inr (Or.inr (Or.inr (Or.inr (Or.inr (Or.inr (Or.inr (Or.inr (Or.inr (Or.inl z)))))))))))))) (fun z => Or.elim z (fun z => (Or.inr (Or.inr (Or.inr (Or.inr (Or.inr (Or.inr (Or.inr (Or.inr (Or.inr (Or.inr (Or.inr (Or.inr (Or.inr (Or.inl z))))))))))))))) (fun z => Or.elim z (fun z => (Or.inr (Or.inr (Or.inr (Or.inr (Or.inr (Or.inr (Or.inr (Or.inr (Or.inr (Or.inr (Or.inr (Or.inr (Or.inr (Or.inr (Or.inl z)))))))))))))))) (fun z => Or.elim z (fun z => (Or.inr (Or.inr (Or.inr (Or.inr (Or.inr (Or.inr (Or.inr (Or.inr (Or.inr (Or.inr (Or.inr (Or.inr (Or.inr (Or.inr (Or.inr (Or.inl z))))))))))))))))) (fun z => Or.elim z (fun z => (Or.inr (Or.inr (Or.inr (Or.inr (Or.inr (Or.inr (Or.inr (Or.inr (Or.inr (Or.inr (Or.inr (Or.inr (Or.inr (Or.inr (Or.inr (Or.inr (Or.inl z)))))))))))))))))) (fun z => Or.elim z (fun z => (Or.inr (Or.inr (Or.inr (Or.inr (Or.inr (Or.inr (Or.inr (Or.inr (Or.inr (Or.inr (Or.inr (Or.inr (Or.inr (Or.inr (Or.inr (Or.inr (Or.inr (Or.inl z))))))))))))))))))) (fun z => Or.elim z (fun z => (Or.inr (Or.inr (Or.inr (Or.inr (Or.inr (Or.inr (Or.inr (Or.inr (Or.inr (Or.inr (Or.inr (Or.inr (Or.inr (Or.inr (Or.inr (Or.inr (Or.inr (Or.inr (Or.inl z)))))))))))))))))))) (fun z => Or.elim z (fun z => (Or.inr (Or.inr (Or.inr (Or.inr (Or.inr (Or.inr (Or.inr (Or.inr (Or.inr (Or.inr (Or.inr (Or.inr (Or.inr (Or.inr (Or.inr (Or.inr (Or.inr (Or.inr (Or.inr (Or.inl z))))))))))))))))))))) (fun z => Or.elim z (fun z => (Or.inr (Or.inr (Or.inr (Or.inr (Or.inr (Or.inr (Or.inr (Or.inr (Or.inr (Or.inr (Or.inr (Or.inr (Or.inr (Or.inr (Or.inr (Or.inr (Or.inr (Or.inr (Or.inr (Or.inr (Or.inl z)))))))))))))))))))))) (fun z => Or.elim z (fun z => (Or.inr (Or.inr (Or.inr (Or.inr (Or.inr (Or.inr (Or.inr (Or.inr (Or.inr (Or.inr (Or.inr (Or.inr (Or.inr (Or.inr (Or.inr (Or.inr (Or.inr (Or.inr (Or.inr (Or.inr (Or.inr (Or.inl z))))))))))))))))))))))) (fun z => Or.elim z (fun z => (Or.inr (Or.inr (Or.inr (Or.inr (Or.inr (Or.inr (Or.inr (Or.inr (Or.inr (Or.inr (Or.inr (Or.inr (Or.inr (Or.inr (Or.inr (Or.inr (Or.inr (Or.inr (Or.inr (Or.inr (Or.inr (Or.inr (Or.inl z)))))))))))))))))))))))) (fun z => Or.elim z (fun z => (Or.inr (Or.inr (Or.inr (Or.inr (Or.inr (Or.inr (Or.inr (Or.inr (Or.inr (Or.inr (Or.inr (Or.inr (Or.inr (Or.inr (Or.inr (Or.inr (Or.inr (Or.inr (Or.inr (Or.inr (Or.inr (Or.inr (Or.inr (Or.inl z))))))))))))))))))))))))) (fun z => Or.elim z (fun z => (Or.inr (Or.inr (Or.inr (Or.inr (Or.inr (Or.inr (Or.inr (Or.inr (Or.inr (Or.inr (Or.inr (Or.inr (Or.inr (Or.inr (Or.inr (Or.inr (Or.inr (Or.inr (Or.inr (Or.inr (Or.inr (Or.inr (Or.inr (Or.inr (Or.inl z)))))))))))))))))))))))))) (fun z => Or.elim z (fun z => (Or.inr (Or.inr (Or.inr (Or.inr (Or.inr (Or.inr (Or.inr (Or.inr (Or.inr (Or.inr (Or.inr (Or.inr (Or.inr (Or.inr (Or.inr (Or.inr (Or.inr (Or.inr (Or.inr (Or.inr (Or.inr (Or.inr (Or.inr (Or.inr (Or.inr (Or.inl z))))))))))))))))))))))))))) (fun z => Or.elim z (fun z => (Or.inr (Or.inr (Or.inr (Or.inr (Or.inr (Or.inr (Or.inr (Or.inr (Or.inr (Or.inr (Or.inr (Or.inr (Or.inr (Or.inr (Or.inr (Or.inr (Or.inr (Or.inr (Or.inr (Or.inr (Or.inr (Or.inr (Or.inr (Or.inr (Or.inr (Or.inr (Or.inl z)))))))))))))))))))))))))))) (fun z => (Or.inr (Or.inr (Or.inr (Or.inr (Or.inr (Or.inr (Or.inr (Or.inr (Or.inr (Or.inr (Or.inr (Or.inr (Or.inr (Or.inr (Or.inr (Or.inr (Or.inr (Or.inr (Or.inr (Or.inr (Or.inr (Or.inr (Or.inr (Or.inr (Or.inr (Or.inr (Or.inr z)))))))))))))))))))))))))))))))))))))))))))))))))))))))
      replace e40_0 : (-1) ≤ v40 ∧ v40 ≤ 8128 := e40_0
      exact w_ret ⟨im40, km40, (show (-1) ≤ v40 ∧ v40 ≤ 8128 from ⟨by omega, by omega⟩), trivial⟩
    · skip
      exact w_ret ⟨iM, kM, (show (-1) ≤ (-1) ∧ (-1) ≤ 8128 from ⟨by omega, by omega⟩), trivial⟩
def W_X7_drop (l0 : Int) (l1 : Int) (b j : Int) : Prop := b = (l0 + 1)
theorem sb_X7_drop_2 {n : Nat} {Me : Mem} {l0 l1 : Int} (h_l0 : isWS l0) (h_l1 : isWS l1) {k2 : Int → Int → Int → Mem → Option (Int × Mem)} {fu2 : Nat} (hk2 : ∀ (l2 : Int) (M : Mem), (0 ≤ l2 ∧ l2 ≤ 64) → 65 - l2 < (fu2 : Int) → I n M → Keep n (W_X7_drop l0 l1) Me M → wp (k2 l0 l1 l2 M) (fun q => I n q.2 ∧ Keep n (W_X7_drop l0 l1) Me q.2 ∧ True)) {l2 : Int} {M : Mem} (r_l2 : 0 ≤ l2 ∧ l2 ≤ 64) (hf2 : 65 - l2 < (fu2 : Int) + 1) (iM : I n M) (kM : Keep n (W_X7_drop l0 l1) Me M) : wp (bX7_drop_2 k2 l0 l1 l2 M) (fun q => I n q.2 ∧ Keep n (W_X7_drop l0 l1) Me q.2 ∧ True) := by
  have hn : (169 : Int) ≤ (n : Int) := by have := iM.2.2.2.2.1; omega
  have u_l0 := h_l0
  unfold isWS at u_l0
  have u_l1 := h_l1
  unfold isWS at u_l1
  unfold bX7_drop_2
  refine w_gF (ji := 1) rfl (congrArg Prod.fst (k_WS iM h_l0)) (fun a4 ha4 => ?_)
  have ra4 : 0 ≤ a4 ∧ a4 ≤ 64 := ha4.tr (P := fun z => 0 ≤ z ∧ z ≤ 64) (rd_WS_1 iM (f_WS h_l0))
  refine w_if (fun c1_ => ?_) (fun c1_ => ?_)
  · skip
    exact w_ret ⟨iM, kM, trivial⟩
  · skip
    refine w_gFc (ji := 0) rfl (congrArg Prod.fst (k_WS iM h_l0)) (show mG M l0 0 = (l0 + 1) from rd_WS_0 iM (a := l0) (f_WS h_l0)) ?_
    refine w_aG (k_Wwords iM h_l0) (by omega) (by omega) (fun a16 ha16 => ?_)
    refine w_gFc (ji := 0) rfl (congrArg Prod.fst (k_WS iM h_l1)) (show mG M l1 0 = (l1 + 1) from rd_WS_0 iM (a := l1) (f_WS h_l1)) ?_
    refine w_aG (k_Wwords iM h_l1) (by omega) (by omega) (fun a22 ha22 => ?_)
    refine w_aS (k_Wwords iM h_l0) (by omega) (by omega) (fun M28 hM28 => ?_)
    replace hM28 : M28 = mS M (l0 + 1) l2 (land a16 (lxor a22 (-1))) := hM28
    have iM28 : I n M28 := wr_Wwords iM (f_Wwords h_l0) hM28
    have kM28 : Keep n (W_X7_drop l0 l1) Me M28 := kM.st hM28 (Or.inl rfl)
    obtain ⟨svM28, esvM28⟩ : ∃ z, z = (land a16 (lxor a22 (-1))) := ⟨_, rfl⟩
    have w4_ := wI_id (x := (l2 + 1)) (by omega) (by omega)
    exact hk2 _ _ ⟨by omega, by omega⟩ (by omega) iM28 kM28
theorem s_X7_drop_2 {n : Nat} {Me : Mem} {l0 l1 : Int} (h_l0 : isWS l0) (h_l1 : isWS l1) : ∀ (fu : Nat) (l2 : Int) (M : Mem), (0 ≤ l2 ∧ l2 ≤ 64) → 65 - l2 < (fu : Int) → I n M → Keep n (W_X7_drop l0 l1) Me M → wp (mX7_drop_2 fu l0 l1 l2 M) (fun q => I n q.2 ∧ Keep n (W_X7_drop l0 l1) Me q.2 ∧ True) := by
  intro fu
  induction fu with
  | zero =>
    intro l2 M r_l2 hf iM kM
    exfalso
    omega
  | succ fu ih =>
    intro l2 M r_l2 hf iM kM
    exact sb_X7_drop_2 h_l0 h_l1 ih r_l2 (by have e : ((fu + 1 : Nat) : Int) = (fu : Int) + 1 := rfl; rw [e] at hf; exact hf) iM kM
theorem s_X7_drop {n : Nat} {l0 l1 : Int} {M : Mem} (h_l0 : isWS l0) (h_l1 : isWS l1) (iM : I n M) : wp (mX7_drop l0 l1 M) (fun q => I n q.2 ∧ Keep n (W_X7_drop l0 l1) M q.2 ∧ True) := by
  have hn : (169 : Int) ≤ (n : Int) := by have := iM.2.2.2.2.1; omega
  have kM : Keep n (W_X7_drop l0 l1) M M := Keep.rf
  have u_l0 := h_l0
  unfold isWS at u_l0
  have u_l1 := h_l1
  unfold isWS at u_l1
  unfold mX7_drop
  exact s_X7_drop_2 h_l0 h_l1 FU _ _ ⟨by omega, by omega⟩ (by show _ < (70000 : Int); omega) iM kM
def W_X4_formAgainst (b j : Int) : Prop := (21 ≤ b ∧ b ≤ 23) ∨ (25 ≤ b ∧ b ≤ 26) ∨ b = 28 ∨ b = 30 ∨ b = 33 ∨ b = 35 ∨ b = 37 ∨ isWS (b - 1) ∨ (b = 2 ∧ j = 4) ∨ (b = 20 ∧ j = 0) ∨ (b = 20 ∧ j = 1) ∨ (b = 20 ∧ j = 5) ∨ (b = 24 ∧ j = 4) ∨ (b = 24 ∧ j = 5) ∨ (b = 24 ∧ j = 6) ∨ (b = 24 ∧ j = 7) ∨ (b = 27 ∧ j = 1) ∨ (b = 27 ∧ j = 2) ∨ (b = 29 ∧ j = 1) ∨ (b = 29 ∧ j = 2) ∨ (b = 32 ∧ j = 1) ∨ (b = 32 ∧ j = 2) ∨ (b = 34 ∧ j = 1) ∨ (b = 34 ∧ j = 2) ∨ (b = 36 ∧ j = 1) ∨ (b = 36 ∧ j = 2) ∨ (isWS b ∧ j = 1) ∨ (isWS b ∧ j = 2)
theorem s_X4_formAgainst {n : Nat} {M : Mem} (iM : I n M) : wp (mX4_formAgainst 2 M) (fun q => I n q.2 ∧ Keep n W_X4_formAgainst M q.2 ∧ ((-1) ≤ q.1 ∧ q.1 ≤ 4095) ∧ True) := by
  have hn : (169 : Int) ≤ (n : Int) := by have := iM.2.2.2.2.1; omega
  have kM : Keep n W_X4_formAgainst M M := Keep.rf
  unfold mX4_formAgainst
  refine w_gFc (ji := 0) rfl (congrArg Prod.fst (kl_2 iM)) (show mG M 2 0 = 3 from rd_Solver_0 iM (a := 2) rfl) ?_
  refine w_gF (ji := 12) rfl (congrArg Prod.fst (kl_3 iM)) (fun a4 ha4 => ?_)
  have xa4 : TX n M a4 := by rw [← ha4.e]; exact iM.2.2.1.2.1 3 (by unfold isTold; omega)
  refine w_if (fun c1_ => ?_) (fun c1_ => ?_)
  · skip
    exact w_ret ⟨iM, kM, (show (-1) ≤ (-1) ∧ (-1) ≤ 4095 from ⟨by omega, by omega⟩), trivial⟩
  · skip
    obtain ⟨q2_, m3_, t4_⟩ := TX.nn xa4 c1_
    refine w_gK (congrArg Prod.fst (kl_2 iM)) ?_
    refine w_call (s_X4_lookUp iM) ?_
    intro v11 m11 pp11
    obtain ⟨im11, kk11, e11_0, -⟩ := pp11
    try dsimp only
    replace im11 : I n m11 := im11
    replace kk11 : Keep n W_X4_lookUp M m11 := kk11
    have km11 : Keep n W_X4_formAgainst M m11 := kM.tr kk11 (fun b j z => Or.elim z (fun z => (Or.inl z)) (fun z => Or.elim z (fun z => (Or.inr (Or.inr (Or.inr (Or.inr (Or.inl z)))))) (fun z => Or.elim z (fun z => (Or.inr (Or.inr (Or.inr (Or.inr (Or.inr (Or.inl z))))))) (fun z => Or.elim z (fun z => (Or.inr (Or.inr (Or.inr (Or.inr (Or.inr (Or.inr (Or.inr (Or.inl z))))))))) (fun z => Or.elim z (fun z => (Or.inr (Or.inr (Or.inr (Or.inr (Or.inr (Or.inr (Or.inr (Or.inr (Or.inl z)))))))))) (fun z => Or.elim z (fun z => (Or.inr (Or.inr (Or.inr (Or.inr (Or.inr (Or.inr (Or.inr (Or.inr (Or.inr (Or.inl z))))))))))) (fun z => Or.elim z (fun z => (Or.inr (Or.inr (Or.inr (Or.inr (Or.inr (Or.inr (Or.inr (Or.inr (Or.inr (Or.inr (Or.inl z)))))))))))) (fun z => Or.elim z (fun z => (Or.inr (Or.inr (Or.inr (Or.inr (Or.inr (Or.inr (Or.inr (Or.inr (Or.inr (Or.inr (Or.inr (Or.inl z))))))))))))) (fun z => Or.elim z (fun z => (Or.inr (Or.inr (Or.inr (Or.inr (Or.inr (Or.inr (Or.inr (Or.inr (Or.inr (Or.inr (Or.inr (Or.inr (Or.inr (Or.inr (Or.inr (Or.inr (Or.inr (Or.inr (Or.inr (Or.inr (Or.inl z)))))))))))))))))))))) (fun z => Or.elim z (fun z => (Or.inr (Or.inr (Or.inr (Or.inr (Or.inr (Or.inr (Or.inr (Or.inr (Or.inr (Or.inr (Or.inr (Or.inr (Or.inr (Or.inr (Or.inr (Or.inr (Or.inr (Or.inr (Or.inr (Or.inr (Or.inr (Or.inl z))))))))))))))))))))))) (fun z => Or.elim z (fun z => (Or.inr (Or.inr (Or.inr (Or.inr (Or.inr (Or.inr (Or.inr (Or.inr (Or.inr (Or.inr (Or.inr (Or.inr (Or.inr (Or.inr (Or.inr (Or.inr (Or.inr (Or.inr (Or.inr (Or.inr (Or.inr (Or.inr (Or.inl z)))))))))))))))))))))))) (fun z => Or.elim z (fun z => (Or.inr (Or.inr (Or.inr (Or.inr (Or.inr (Or.inr (Or.inr (Or.inr (Or.inr (Or.inr (Or.inr (Or.inr (Or.inr (Or.inr (Or.inr (Or.inr (Or.inr (Or.inr (Or.inr (Or.inr (Or.inr (Or.inr (Or.inr (Or.inl z))))))))))))))))))))))))) (fun z => Or.elim z (fun z => (Or.inr (Or.inr (Or.inr (Or.inr (Or.inr (Or.inr (Or.inr (Or.inr (Or.inr (Or.inr (Or.inr (Or.inr (Or.inr (Or.inr (Or.inr (Or.inr (Or.inr (Or.inr (Or.inr (Or.inr (Or.inr (Or.inr (Or.inr (Or.inr (Or.inr (Or.inr (Or.inl z)))))))))))))))))))))))))))) (fun z => (Or.inr (Or.inr (Or.inr (Or.inr (Or.inr (Or.inr (Or.inr (Or.inr (Or.inr (Or.inr (Or.inr (Or.inr (Or.inr (Or.inr (Or.inr (Or.inr (Or.inr (Or.inr (Or.inr (Or.inr (Or.inr (Or.inr (Or.inr (Or.inr (Or.inr (Or.inr (Or.inr z)))))))))))))))))))))))))))))))))))))))))
    replace e11_0 : 0 ≤ v11 ∧ v11 ≤ 1 := e11_0
    refine w_if (fun c5_ => ?_) (fun c5_ => ?_)
    · skip
      exact w_ret ⟨im11, km11, (show (-1) ≤ (-1) ∧ (-1) ≤ 4095 from ⟨by omega, by omega⟩), trivial⟩
    · skip
      refine w_gK (congrArg Prod.fst (kl_2 im11)) ?_
      refine w_call (s_X4_pickForms im11) ?_
      intro v20 m20 pp20
      obtain ⟨im20, kk20, -⟩ := pp20
      try dsimp only
      replace im20 : I n m20 := im20
      replace kk20 : Keep n W_X4_pickForms m11 m20 := kk20
      have km20 : Keep n W_X4_formAgainst M m20 := km11.tr kk20 (fun b j z => Or.elim z (fun z => (Or.inr (Or.inl z))) (fun z => Or.elim z (fun z => (Or.inr (Or.inr (Or.inl z)))) (fun z => Or.elim z (fun z => (Or.inr (Or.inr (Or.inr (Or.inl z))))) (fun z => Or.elim z (fun z => (Or.inr (Or.inr (Or.inr (Or.inr (Or.inr (Or.inr (Or.inl z)))))))) (fun z => Or.elim z (fun z => (Or.inr (Or.inr (Or.inr (Or.inr (Or.inr (Or.inr (Or.inr (Or.inr (Or.inr (Or.inr (Or.inr (Or.inr (Or.inl z)))))))))))))) (fun z => Or.elim z (fun z => (Or.inr (Or.inr (Or.inr (Or.inr (Or.inr (Or.inr (Or.inr (Or.inr (Or.inr (Or.inr (Or.inr (Or.inr (Or.inr (Or.inl z))))))))))))))) (fun z => Or.elim z (fun z => (Or.inr (Or.inr (Or.inr (Or.inr (Or.inr (Or.inr (Or.inr (Or.inr (Or.inr (Or.inr (Or.inr (Or.inr (Or.inr (Or.inr (Or.inl z)))))))))))))))) (fun z => Or.elim z (fun z => (Or.inr (Or.inr (Or.inr (Or.inr (Or.inr (Or.inr (Or.inr (Or.inr (Or.inr (Or.inr (Or.inr (Or.inr (Or.inr (Or.inr (Or.inr (Or.inl z))))))))))))))))) (fun z => Or.elim z (fun z => (Or.inr (Or.inr (Or.inr (Or.inr (Or.inr (Or.inr (Or.inr (Or.inr (Or.inr (Or.inr (Or.inr (Or.inr (Or.inr (Or.inr (Or.inr (Or.inr (Or.inl z)))))))))))))))))) (fun z => Or.elim z (fun z => (Or.inr (Or.inr (Or.inr (Or.inr (Or.inr (Or.inr (Or.inr (Or.inr (Or.inr (Or.inr (Or.inr (Or.inr (Or.inr (Or.inr (Or.inr (Or.inr (Or.inr (Or.inl z))))))))))))))))))) (fun z => Or.elim z (fun z => (Or.inr (Or.inr (Or.inr (Or.inr (Or.inr (Or.inr (Or.inr (Or.inr (Or.inr (Or.inr (Or.inr (Or.inr (Or.inr (Or.inr (Or.inr (Or.inr (Or.inr (Or.inr (Or.inl z)))))))))))))))))))) (fun z => Or.elim z (fun z => (Or.inr (Or.inr (Or.inr (Or.inr (Or.inr (Or.inr (Or.inr (Or.inr (Or.inr (Or.inr (Or.inr (Or.inr (Or.inr (Or.inr (Or.inr (Or.inr (Or.inr (Or.inr (Or.inr (Or.inl z))))))))))))))))))))) (fun z => Or.elim z (fun z => (Or.inr (Or.inr (Or.inr (Or.inr (Or.inr (Or.inr (Or.inr (Or.inr (Or.inr (Or.inr (Or.inr (Or.inr (Or.inr (Or.inr (Or.inr (Or.inr (Or.inr (Or.inr (Or.inr (Or.inr (Or.inr (Or.inr (Or.inr (Or.inr (Or.inl z)))))))))))))))))))))))))) (fun z => (Or.inr (Or.inr (Or.inr (Or.inr (Or.inr (Or.inr (Or.inr (Or.inr (Or.inr (Or.inr (Or.inr (Or.inr (Or.inr (Or.inr (Or.inr (Or.inr (Or.inr (Or.inr (Or.inr (Or.inr (Or.inr (Or.inr (Or.inr (Or.inr (Or.inr (Or.inl z))))))))))))))))))))))))))))))))))))))))
      refine w_gFc (ji := 7) rfl (congrArg Prod.fst (kl_2 im20)) (show mG m20 2 7 = 36 from rd_Solver_7 im20 (a := 2) rfl) ?_
      refine w_gFc (ji := 0) rfl (congrArg Prod.fst (kl_2 im20)) (show mG m20 2 0 = 3 from rd_Solver_0 im20 (a := 2) rfl) ?_
      refine w_gFc (ji := 12) rfl (congrArg Prod.fst (kl_3 im20)) (show mG m20 3 12 = a4 from ((kk20.2.2 3 12 (by omega) (fun z => by unfold W_X4_pickForms at z; (try unfold isWS at z); (try unfold isShape at z); (try unfold isTold at z); (try dsimp only at z); omega)).trans ((kk11.2.2 3 12 (by omega) (fun z => by unfold W_X4_lookUp at z; (try unfold isWS at z); (try unfold isShape at z); (try unfold isTold at z); (try dsimp only at z); omega)).trans (show mG M 3 12 = a4 from ha4)))) ?_
      refine w_gK (congrArg Prod.fst (kl_2 im20)) ?_
      have x6_ : TX n m20 a4 := (TX.ot (TX.ot xa4 (otx_kp kk11 (fun b j z => by unfold W_X4_lookUp at z; (try unfold isWS at z); (try unfold isShape at z); (try unfold isTold at z); (try dsimp only at z); omega))) (otx_kp kk20 (fun b j z => by unfold W_X4_pickForms at z; (try unfold isWS at z); (try unfold isShape at z); (try unfold isTold at z); (try dsimp only at z); omega)))
      refine w_call (s_X4_truth ⟨by omega, by omega⟩ x6_ im20) ?_
      intro v37 m37 pp37
      obtain ⟨im37, kk37, e37_0, -⟩ := pp37
      try dsimp only
      replace im37 : I n m37 := im37
      replace kk37 : Keep n W_X4_truth m20 m37 := kk37
      have km37 : Keep n W_X4_formAgainst M m37 := km20.tr kk37 (fun b j z => Or.elim z (fun z => (Or.inl z)) (fun z => Or.elim z (fun z => (Or.inr (Or.inr (Or.inr (Or.inr (Or.inr (Or.inr (Or.inr (Or.inl z))))))))) (fun z => Or.elim z (fun z => (Or.inr (Or.inr (Or.inr (Or.inr (Or.inr (Or.inr (Or.inr (Or.inr (Or.inl z)))))))))) (fun z => Or.elim z (fun z => (Or.inr (Or.inr (Or.inr (Or.inr (Or.inr (Or.inr (Or.inr (Or.inr (Or.inr (Or.inl z))))))))))) (fun z => Or.elim z (fun z => (Or.inr (Or.inr (Or.inr (Or.inr (Or.inr (Or.inr (Or.inr (Or.inr (Or.inr (Or.inr (Or.inl z)))))))))))) (fun z => Or.elim z (fun z => (Or.inr (Or.inr (Or.inr (Or.inr (Or.inr (Or.inr (Or.inr (Or.inr (Or.inr (Or.inr (Or.inr (Or.inl z))))))))))))) (fun z => Or.elim z (fun z => (Or.inr (Or.inr (Or.inr (Or.inr (Or.inr (Or.inr (Or.inr (Or.inr (Or.inr (Or.inr (Or.inr (Or.inr (Or.inr (Or.inr (Or.inr (Or.inr (Or.inr (Or.inr (Or.inr (Or.inr (Or.inr (Or.inr (Or.inr (Or.inr (Or.inr (Or.inr (Or.inl z)))))))))))))))))))))))))))) (fun z => (Or.inr (Or.inr (Or.inr (Or.inr (Or.inr (Or.inr (Or.inr (Or.inr (Or.inr (Or.inr (Or.inr (Or.inr (Or.inr (Or.inr (Or.inr (Or.inr (Or.inr (Or.inr (Or.inr (Or.inr (Or.inr (Or.inr (Or.inr (Or.inr (Or.inr (Or.inr (Or.inr z)))))))))))))))))))))))))))))))))))
      replace e37_0 : isWS v37 := e37_0
      have u_v37 := e37_0
      unfold isWS at u_v37
      refine w_gK (congrArg Prod.fst (kl_36 im37)) ?_
      refine w_call (s_X7_drop (by unfold isWS; omega) e37_0 im37) ?_
      intro v40 m40 pp40
      obtain ⟨im40, kk40, -⟩ := pp40
      try dsimp only
      replace im40 : I n m40 := im40
      replace kk40 : Keep n (W_X7_drop 36 v37) m37 m40 := kk40
      have km40 : Keep n W_X4_formAgainst M m40 := km37.tr kk40 (fun b j z => (Or.inr (Or.inr (Or.inr (Or.inr (Or.inr (Or.inr (Or.inl (by omega)))))))))
      refine w_gFc (ji := 7) rfl (congrArg Prod.fst (kl_2 im40)) (show mG m40 2 7 = 36 from rd_Solver_7 im40 (a := 2) rfl) ?_
      refine w_gK (congrArg Prod.fst (kl_36 im40)) ?_
      refine w_call (s_X7_nth (by unfold isWS; omega) ⟨by omega, by omega⟩ im40) ?_
      intro v48 m48 pp48
      obtain ⟨im48, kk48, e48_0, -⟩ := pp48
      try dsimp only
      replace im48 : I n m48 := im48
      replace kk48 : Keep n (W_X7_nth 36) m40 m48 := kk48
      have km48 : Keep n W_X4_formAgainst M m48 := km40.tr kk48 (fun b j z => z.elim)
      replace e48_0 : (-1) ≤ v48 ∧ v48 ≤ 4095 := e48_0
      exact w_ret ⟨im48, km48, (show (-1) ≤ v48 ∧ v48 ≤ 4095 from ⟨by omega, by omega⟩), trivial⟩
def W_X8_against (b j : Int) : Prop := (21 ≤ b ∧ b ≤ 23) ∨ (25 ≤ b ∧ b ≤ 26) ∨ b = 28 ∨ b = 30 ∨ b = 33 ∨ b = 35 ∨ b = 37 ∨ isWS (b - 1) ∨ (b = 2 ∧ j = 4) ∨ (b = 20 ∧ j = 0) ∨ (b = 20 ∧ j = 1) ∨ (b = 20 ∧ j = 5) ∨ (b = 24 ∧ j = 4) ∨ (b = 24 ∧ j = 5) ∨ (b = 24 ∧ j = 6) ∨ (b = 24 ∧ j = 7) ∨ (b = 27 ∧ j = 1) ∨ (b = 27 ∧ j = 2) ∨ (b = 29 ∧ j = 1) ∨ (b = 29 ∧ j = 2) ∨ (b = 3 ∧ j = 1) ∨ (b = 32 ∧ j = 1) ∨ (b = 32 ∧ j = 2) ∨ (b = 34 ∧ j = 1) ∨ (b = 34 ∧ j = 2) ∨ (b = 36 ∧ j = 1) ∨ (b = 36 ∧ j = 2) ∨ (isWS b ∧ j = 1) ∨ (isWS b ∧ j = 2)
theorem s_X8_against {n : Nat} {M : Mem} (iM : I n M) : wp (mX8_against 1 M) (fun q => I n q.2 ∧ Keep n W_X8_against M q.2 ∧ (0 ≤ q.1 ∧ q.1 ≤ 1) ∧ True) := by
  have hn : (169 : Int) ≤ (n : Int) := by have := iM.2.2.2.2.1; omega
  have kM : Keep n W_X8_against M M := Keep.rf
  unfold mX8_against
  refine w_gFc (ji := 0) rfl (congrArg Prod.fst (kl_1 iM)) (show mG M 1 0 = 2 from rd_VS_0 iM (a := 1) rfl) ?_
  refine w_gK (congrArg Prod.fst (kl_2 iM)) ?_
  refine w_call (s_X4_formAgainst iM) ?_
  intro v5 m5 pp5
  obtain ⟨im5, kk5, e5_0, -⟩ := pp5
  try dsimp only
  replace im5 : I n m5 := im5
  replace kk5 : Keep n W_X4_formAgainst M m5 := kk5
  have km5 : Keep n W_X8_against M m5 := kM.tr kk5 (fun b j z => Or.elim z (fun z => (Or.inl z)) (fun z => Or.elim z (fun z => (Or.inr (Or.inl z))) (fun z => Or.elim z (fun z => (Or.inr (Or.inr (Or.inl z)))) (fun z => Or.elim z (fun z => (Or.inr (Or.inr (Or.inr (Or.inl z))))) (fun z => Or.elim z (fun z => (Or.inr (Or.inr (Or.inr (Or.inr (Or.inl z)))))) (fun z => Or.elim z (fun z => (Or.inr (Or.inr (Or.inr (Or.inr (Or.inr (Or.inl z))))))) (fun z => Or.elim z (fun z => (Or.inr (Or.inr (Or.inr (Or.inr (Or.inr (Or.inr (Or.inl z)))))))) (fun z => Or.elim z (fun z => (Or.inr (Or.inr (Or.inr (Or.inr (Or.inr (Or.inr (Or.inr (Or.inl z))))))))) (fun z => Or.elim z (fun z => (Or.inr (Or.inr (Or.inr (Or.inr (Or.inr (Or.inr (Or.inr (Or.inr (Or.inl z)))))))))) (fun z => Or.elim z (fun z => (Or.inr (Or.inr (Or.inr (Or.inr (Or.inr (Or.inr (Or.inr (Or.inr (Or.inr (Or.inl z))))))))))) (fun z => Or.elim z (fun z => (Or.inr (Or.inr (Or.inr (Or.inr (Or.inr (Or.inr (Or.inr (Or.inr (Or.inr (Or.inr (Or.inl z)))))))))))) (fun z => Or.elim z (fun z => (Or.inr (Or.inr (Or.inr (Or.inr (Or.inr (Or.inr (Or.inr (Or.inr (Or.inr (Or.inr (Or.inr (Or.inl z))))))))))))) (fun z => Or.elim z (fun z => (Or.inr (Or.inr (Or.inr (Or.inr (Or.inr (Or.inr (Or.inr (Or.inr (Or.inr (Or.inr (Or.inr (Or.inr (Or.inl z)))))))))))))) (fun z => Or.elim z (fun z => (Or.inr (Or.inr (Or.inr (Or.inr (Or.inr (Or.inr (Or.inr (Or.inr (Or.inr (Or.inr (Or.inr (Or.inr (Or.inr (Or.inl z))))))))))))))) (fun z => Or.elim z (fun z => (Or.inr (Or.inr (Or.inr (Or.inr (Or.inr (Or.inr (Or.inr (Or.inr (Or.inr (Or.inr (Or.inr (Or.inr (Or.inr (Or.inr (Or.inl z)))))))))))))))) (fun z => Or.elim z (fun z => (Or.inr (Or.inr (Or.inr (Or.inr (Or.inr (Or.inr (Or.inr (Or.inr (Or.inr (Or.inr (Or.inr (Or.inr (Or.inr (Or.inr (Or.inr (Or.inl z))))))))))))))))) (fun z => Or.elim z (fun z => (Or.inr (Or.inr (Or.inr (Or.inr (Or.inr (Or.inr (Or.inr (Or.inr (Or.inr (Or.inr (Or.inr (Or.inr (Or.inr (Or.inr (Or.inr (Or.inr (Or.inl z)))))))))))))))))) (fun z => Or.elim z (fun z => (Or.inr (Or.inr (Or.inr (Or.inr (Or.inr (Or.inr (Or.inr (Or.inr (Or.inr (Or.inr (Or.inr (Or.inr (Or.inr (Or.inr (Or.inr (Or.inr (Or.inr (Or.inl z))))))))))))))))))) (fun z => Or.elim z (fun z => (Or.inr (Or.inr (Or.inr (Or.inr (Or.inr (Or.inr (Or.inr (Or.inr (Or.inr (Or.inr (Or.inr (Or.inr (Or.inr (Or.inr (Or.inr (Or.inr (Or.inr (Or.inr (Or.inl z)))))))))))))))))))) (fun z => Or.elim z (fun z => (Or.inr (Or.inr (Or.inr (Or.inr (Or.inr (Or.inr (Or.inr (Or.inr (Or.inr (Or.inr (Or.inr (Or.inr (Or.inr (Or.inr (Or.inr (Or.inr (Or.inr (Or.inr (Or.inr (Or.inl z))))))))))))))))))))) (fun z => Or.elim z (fun z => (Or.inr (Or.inr (Or.inr (Or.inr (Or.inr (Or.inr (Or.inr (Or.inr (Or.inr (Or.inr (Or.inr (Or.inr (Or.inr (Or.inr (Or.inr (Or.inr (Or.inr (Or.inr (Or.inr (Or.inr (Or.inr (Or.inl z))))))))))))))))))))))) (fun z => Or.elim z (fun z => (Or.inr (Or.inr (Or.inr (Or.inr (Or.inr (Or.inr (Or.inr (Or.inr (Or.inr (Or.inr (Or.inr (Or.inr (Or.inr (Or.inr (Or.inr (Or.inr (Or.inr (Or.inr (Or.inr (Or.inr (Or.inr (Or.inr (Or.inl z)))))))))))))))))))))))) (fun z => Or.elim z (fun z => (Or.inr (Or.inr (Or.inr (Or.inr (Or.inr (Or.inr (Or.inr (Or.inr (Or.inr (Or.inr (Or.inr (Or.inr (Or.inr (Or.inr (Or.inr (Or.inr (Or.inr (Or.inr (Or.inr (Or.inr (Or.inr (Or.inr (Or.inr (Or.inl z))))))))))))))))))))))))) (fun z => Or.elim z (fun z => (Or.inr (Or.inr (Or.inr (Or.inr (Or.inr (Or.inr (Or.inr (Or.inr (Or.inr (Or.inr (Or.inr (Or.inr (Or.inr (Or.inr (Or.inr (Or.inr (Or.inr (Or.inr (Or.inr (Or.inr (Or.inr (Or.inr (Or.inr (Or.inr (Or.inl z)))))))))))))))))))))))))) (fun z => Or.elim z (fun z => (Or.inr (Or.inr (Or.inr (Or.inr (Or.inr (Or.inr (Or.inr (Or.inr (Or.inr (Or.inr (Or.inr (Or.inr (Or.inr (Or.inr (Or.inr (Or.inr (Or.inr (Or.inr (Or.inr (Or.inr (Or.inr (Or.inr (Or.inr (Or.inr (Or.inr (Or.inl z))))))))))))))))))))))))))) (fun z => Or.elim z (fun z => (Or.inr (Or.inr (Or.inr (Or.inr (Or.inr (Or.inr (Or.inr (Or.inr (Or.inr (Or.inr (Or.inr (Or.inr (Or.inr (Or.inr (Or.inr (Or.inr (Or.inr (Or.inr (Or.inr (Or.inr (Or.inr (Or.inr (Or.inr (Or.inr (Or.inr (Or.inr (Or.inl z)))))))))))))))))))))))))))) (fun z => Or.elim z (fun z => (Or.inr (Or.inr (Or.inr (Or.inr (Or.inr (Or.inr (Or.inr (Or.inr (Or.inr (Or.inr (Or.inr (Or.inr (Or.inr (Or.inr (Or.inr (Or.inr (Or.inr (Or.inr (Or.inr (Or.inr (Or.inr (Or.inr (Or.inr (Or.inr (Or.inr (Or.inr (Or.inr (Or.inl z))))))))))))))))))))))))))))) (fun z => (Or.inr (Or.inr (Or.inr (Or.inr (Or.inr (Or.inr (Or.inr (Or.inr (Or.inr (Or.inr (Or.inr (Or.inr (Or.inr (Or.inr (Or.inr (Or.inr (Or.inr (Or.inr (Or.inr (Or.inr (Or.inr (Or.inr (Or.inr (Or.inr (Or.inr (Or.inr (Or.inr (Or.inr z))))))))))))))))))))))))))))))))))))))))))))))))))))))))
  replace e5_0 : (-1) ≤ v5 ∧ v5 ≤ 4095 := e5_0
  refine w_gK (congrArg Prod.fst (kl_1 im5)) ?_
  refine w_call (s_X8_becomes ⟨by omega, by omega⟩ im5) ?_
  intro v8 m8 pp8
  obtain ⟨im8, kk8, e8_0, -⟩ := pp8
  try dsimp only
  replace im8 : I n m8 := im8
  replace kk8 : Keep n W_X8_becomes m5 m8 := kk8
  have km8 : Keep n W_X8_against M m8 := km5.tr kk8 (fun b j z => (Or.inr (Or.inr (Or.inr (Or.inr (Or.inr (Or.inr (Or.inr (Or.inr (Or.inr (Or.inr (Or.inr (Or.inr (Or.inr (Or.inr (Or.inr (Or.inr (Or.inr (Or.inr (Or.inr (Or.inr (Or.inl z))))))))))))))))))))))
  replace e8_0 : 0 ≤ v8 ∧ v8 ≤ 1 := e8_0
  refine w_zR (by omega) (fun z hz => ?_)
  exact w_ret ⟨im8, km8, (show 0 ≤ z ∧ z ≤ 1 from ⟨by omega, by omega⟩), trivial⟩
def W_X8_many (b j : Int) : Prop := False
theorem s_X8_many {n : Nat} {l1 : Int} {M : Mem} (r_l1 : (-2147483648) ≤ l1 ∧ l1 ≤ 2147483647) (iM : I n M) : wp (mX8_many 1 l1 M) (fun q => I n q.2 ∧ Keep n W_X8_many M q.2 ∧ ((-2) ≤ q.1 ∧ q.1 ≤ 999) ∧ True) := by
  have hn : (169 : Int) ≤ (n : Int) := by have := iM.2.2.2.2.1; omega
  have kM : Keep n W_X8_many M M := Keep.rf
  unfold mX8_many
  refine w_if (fun c1_ => ?_) (fun c1_ => ?_)
  · skip
    refine w_gFc (ji := 1) rfl (congrArg Prod.fst (kl_1 iM)) (show mG M 1 1 = 3 from rd_VS_1 iM (a := 1) rfl) ?_
    refine w_gFc (ji := 0) rfl (congrArg Prod.fst (kl_3 iM)) (show mG M 3 0 = 4 from rd_Told_0 iM (a := 3) rfl) ?_
    refine w_gFc (ji := 0) rfl (congrArg Prod.fst (kl_4 iM)) (show mG M 4 0 = 5 from rd_Shape_0 iM (a := 4) rfl) ?_
    refine w_aG (kl_5 iM) (by omega) (by omega) (fun a71 ha71 => ?_)
    have ra71 : 1 ≤ a71 ∧ a71 ≤ 3 := ha71.tr (P := fun z => 1 ≤ z ∧ z ≤ 3) (rd_Ssizes iM rfl (by omega) (by omega))
    exact w_ret ⟨iM, kM, (show (-2) ≤ a71 ∧ a71 ≤ 999 from ⟨by omega, by omega⟩), trivial⟩
  · skip
    refine w_if (fun c2_ => ?_) (fun c2_ => ?_)
    · skip
      refine w_gFc (ji := 1) rfl (congrArg Prod.fst (kl_1 iM)) (show mG M 1 1 = 3 from rd_VS_1 iM (a := 1) rfl) ?_
      refine w_gFc (ji := 0) rfl (congrArg Prod.fst (kl_3 iM)) (show mG M 3 0 = 4 from rd_Told_0 iM (a := 3) rfl) ?_
      refine w_gFc (ji := 0) rfl (congrArg Prod.fst (kl_4 iM)) (show mG M 4 0 = 5 from rd_Shape_0 iM (a := 4) rfl) ?_
      refine w_aG (kl_5 iM) (by omega) (by omega) (fun a71 ha71 => ?_)
      have ra71 : 1 ≤ a71 ∧ a71 ≤ 3 := ha71.tr (P := fun z => 1 ≤ z ∧ z ≤ 3) (rd_Ssizes iM rfl (by omega) (by omega))
      exact w_ret ⟨iM, kM, (show (-2) ≤ a71 ∧ a71 ≤ 999 from ⟨by omega, by omega⟩), trivial⟩
    · skip
      refine w_if (fun c3_ => ?_) (fun c3_ => ?_)
      · skip
        refine w_gFc (ji := 1) rfl (congrArg Prod.fst (kl_1 iM)) (show mG M 1 1 = 3 from rd_VS_1 iM (a := 1) rfl) ?_
        refine w_gFc (ji := 0) rfl (congrArg Prod.fst (kl_3 iM)) (show mG M 3 0 = 4 from rd_Told_0 iM (a := 3) rfl) ?_
        refine w_gFc (ji := 0) rfl (congrArg Prod.fst (kl_4 iM)) (show mG M 4 0 = 5 from rd_Shape_0 iM (a := 4) rfl) ?_
        refine w_aG (kl_5 iM) (by omega) (by omega) (fun a71 ha71 => ?_)
        have ra71 : 1 ≤ a71 ∧ a71 ≤ 3 := ha71.tr (P := fun z => 1 ≤ z ∧ z ≤ 3) (rd_Ssizes iM rfl (by omega) (by omega))
        exact w_ret ⟨iM, kM, (show (-2) ≤ a71 ∧ a71 ≤ 999 from ⟨by omega, by omega⟩), trivial⟩
      · skip
        refine w_if (fun c4_ => ?_) (fun c4_ => ?_)
        · skip
          refine w_gFc (ji := 1) rfl (congrArg Prod.fst (kl_1 iM)) (show mG M 1 1 = 3 from rd_VS_1 iM (a := 1) rfl) ?_
          refine w_gFc (ji := 0) rfl (congrArg Prod.fst (kl_3 iM)) (show mG M 3 0 = 4 from rd_Told_0 iM (a := 3) rfl) ?_
          refine w_gF (ji := 6) rfl (congrArg Prod.fst (kl_4 iM)) (fun a80 ha80 => ?_)
          have ra80 : 0 ≤ a80 ∧ a80 ≤ 4 := ha80.tr (P := fun z => 0 ≤ z ∧ z ≤ 4) (rd_Shape_6 iM rfl)
          exact w_ret ⟨iM, kM, (show (-2) ≤ a80 ∧ a80 ≤ 999 from ⟨by omega, by omega⟩), trivial⟩
        · skip
          refine w_if (fun c5_ => ?_) (fun c5_ => ?_)
          · skip
            refine w_gFc (ji := 1) rfl (congrArg Prod.fst (kl_1 iM)) (show mG M 1 1 = 3 from rd_VS_1 iM (a := 1) rfl) ?_
            refine w_gF (ji := 11) rfl (congrArg Prod.fst (kl_3 iM)) (fun a88 ha88 => ?_)
            have ra88 : 0 ≤ a88 ∧ a88 ≤ 8 := ha88.tr (P := fun z => 0 ≤ z ∧ z ≤ 8) (rd_Told_11 iM rfl)
            exact w_ret ⟨iM, kM, (show (-2) ≤ a88 ∧ a88 ≤ 999 from ⟨by omega, by omega⟩), trivial⟩
          · skip
            refine w_if (fun c6_ => ?_) (fun c6_ => ?_)
            · skip
              refine w_gFc (ji := 1) rfl (congrArg Prod.fst (kl_1 iM)) (show mG M 1 1 = 3 from rd_VS_1 iM (a := 1) rfl) ?_
              refine w_gF (ji := 13) rfl (congrArg Prod.fst (kl_3 iM)) (fun a96 ha96 => ?_)
              have ra96 : 0 ≤ a96 ∧ a96 ≤ 999 := ha96.tr (P := fun z => 0 ≤ z ∧ z ≤ 999) (rd_Told_13 iM rfl)
              exact w_ret ⟨iM, kM, (show (-2) ≤ a96 ∧ a96 ≤ 999 from ⟨by omega, by omega⟩), trivial⟩
            · skip
              refine w_if (fun c7_ => ?_) (fun c7_ => ?_)
              · skip
                refine w_gFc (ji := 1) rfl (congrArg Prod.fst (kl_1 iM)) (show mG M 1 1 = 3 from rd_VS_1 iM (a := 1) rfl) ?_
                refine w_gF (ji := 14) rfl (congrArg Prod.fst (kl_3 iM)) (fun a104 ha104 => ?_)
                have ra104 : (-1) ≤ a104 ∧ a104 ≤ 999 := ha104.tr (P := fun z => (-1) ≤ z ∧ z ≤ 999) (rd_Told_14 iM rfl)
                exact w_ret ⟨iM, kM, (show (-2) ≤ a104 ∧ a104 ≤ 999 from ⟨by omega, by omega⟩), trivial⟩
              · skip
                refine w_if (fun c8_ => ?_) (fun c8_ => ?_)
                · skip
                  refine w_gFc (ji := 1) rfl (congrArg Prod.fst (kl_1 iM)) (show mG M 1 1 = 3 from rd_VS_1 iM (a := 1) rfl) ?_
                  refine w_gK (congrArg Prod.fst (kl_3 iM)) ?_
                  refine w_call (s_X6_viewedStories iM) ?_
                  intro v112 m112 pp112
                  obtain ⟨im112, kk112, e112_0, -⟩ := pp112
                  try dsimp only
                  replace im112 : I n m112 := im112
                  replace kk112 : Keep n W_X6_viewedStories M m112 := kk112
                  have km112 : Keep n W_X8_many M m112 := kM.tr kk112 (fun b j z => z.elim)
                  replace e112_0 : 0 ≤ v112 ∧ v112 ≤ 255 := e112_0
                  exact w_ret ⟨im112, km112, (show (-2) ≤ v112 ∧ v112 ≤ 999 from ⟨by omega, by omega⟩), trivial⟩
                · skip
                  refine w_if (fun c9_ => ?_) (fun c9_ => ?_)
                  · skip
                    refine w_gFc (ji := 1) rfl (congrArg Prod.fst (kl_1 iM)) (show mG M 1 1 = 3 from rd_VS_1 iM (a := 1) rfl) ?_
                    refine w_gF (ji := 1) rfl (congrArg Prod.fst (kl_3 iM)) (fun a120 ha120 => ?_)
                    refine w_call (s_J13_bitCount_95d88 iM) ?_
                    intro v123 m123 pp123
                    obtain ⟨im123, kk123, e123_0, -⟩ := pp123
                    try dsimp only
                    replace im123 : I n m123 := im123
                    replace kk123 : Keep n W_J13_bitCount_95d88 M m123 := kk123
                    have km123 : Keep n W_X8_many M m123 := kM.tr kk123 (fun b j z => z.elim)
                    replace e123_0 : 0 ≤ v123 ∧ v123 ≤ 127 := e123_0
                    exact w_ret ⟨im123, km123, (show (-2) ≤ v123 ∧ v123 ≤ 999 from ⟨by omega, by omega⟩), trivial⟩
                  · skip
                    refine w_if (fun c10_ => ?_) (fun c10_ => ?_)
                    · skip
                      refine w_gFc (ji := 1) rfl (congrArg Prod.fst (kl_1 iM)) (show mG M 1 1 = 3 from rd_VS_1 iM (a := 1) rfl) ?_
                      refine w_gF (ji := 12) rfl (congrArg Prod.fst (kl_3 iM)) (fun a131 ha131 => ?_)
                      have xa131 : TX n M a131 := by rw [← ha131.e]; exact iM.2.2.1.2.1 3 (by unfold isTold; omega)
                      refine w_if (fun c11_ => ?_) (fun c11_ => ?_)
                      · skip
                        exact w_ret ⟨iM, kM, (show (-2) ≤ 0 ∧ 0 ≤ 999 from ⟨by omega, by omega⟩), trivial⟩
                      · skip
                        obtain ⟨q12_, m13_, t14_⟩ := TX.nn xa131 c11_
                        refine w_gFc (ji := 1) rfl (congrArg Prod.fst (kl_1 iM)) (show mG M 1 1 = 3 from rd_VS_1 iM (a := 1) rfl) ?_
                        refine w_gFc (ji := 12) rfl (congrArg Prod.fst (kl_3 iM)) (show mG M 3 12 = a131 from (show mG M 3 12 = a131 from ha131)) ?_
                        refine w_gF (ji := 5) rfl (congrArg Prod.fst (tn_k t14_)) (fun a148 ha148 => ?_)
                        have ra148 : a148 = (m13_ : Int) ∧ 1 ≤ a148 ∧ a148 ≤ 40 := by rw [← ha148.e]; exact tn_p t14_
                        exact w_ret ⟨iM, kM, (show (-2) ≤ a148 ∧ a148 ≤ 999 from ⟨by omega, by omega⟩), trivial⟩
                    · skip
                      refine w_if (fun c15_ => ?_) (fun c15_ => ?_)
                      · skip
                        refine w_gFc (ji := 1) rfl (congrArg Prod.fst (kl_1 iM)) (show mG M 1 1 = 3 from rd_VS_1 iM (a := 1) rfl) ?_
                        refine w_gF (ji := 18) rfl (congrArg Prod.fst (kl_3 iM)) (fun a156 ha156 => ?_)
                        have ra156 : 0 ≤ a156 ∧ a156 ≤ 40 := ha156.tr (P := fun z => 0 ≤ z ∧ z ≤ 40) (rd_Told_18 iM rfl)
                        exact w_ret ⟨iM, kM, (show (-2) ≤ a156 ∧ a156 ≤ 999 from ⟨by omega, by omega⟩), trivial⟩
                      · skip
                        exact w_ret ⟨iM, kM, (show (-2) ≤ (-2) ∧ (-2) ≤ 999 from ⟨by omega, by omega⟩), trivial⟩
