def W_X8_without (b j : Int) : Prop := (21 ≤ b ∧ b ≤ 23) ∨ b = 33 ∨ b = 35 ∨ b = 37 ∨ isWS (b - 1) ∨ (b = 2 ∧ j = 4) ∨ (b = 20 ∧ j = 0) ∨ (b = 20 ∧ j = 1) ∨ (b = 20 ∧ j = 5) ∨ (b = 32 ∧ j = 1) ∨ (b = 32 ∧ j = 2) ∨ (b = 34 ∧ j = 1) ∨ (b = 34 ∧ j = 2) ∨ (b = 36 ∧ j = 1) ∨ (b = 36 ∧ j = 2) ∨ (isWS b ∧ j = 1) ∨ (isWS b ∧ j = 2)
theorem s_X8_without {n : Nat} {l1 : Int} {M : Mem} (r_l1 : (-2147483648) ≤ l1 ∧ l1 ≤ 2147483647) (iM : I n M) : wp (mX8_without 1 l1 M) (fun q => I n q.2 ∧ Keep n W_X8_without M q.2 ∧ ((-1) ≤ q.1 ∧ q.1 ≤ 8128) ∧ True) := by
  have hn : (169 : Int) ≤ (n : Int) := by have := iM.2.2.2.2.1; omega
  have kM : Keep n W_X8_without M M := Keep.rf
  unfold mX8_without
  refine w_gFc (ji := 0) rfl (congrArg Prod.fst (kl_1 iM)) (show mG M 1 0 = 2 from rd_VS_0 iM (a := 1) rfl) ?_
  refine w_gK (congrArg Prod.fst (kl_2 iM)) ?_
  refine w_call (s_X4_countWithout ⟨by omega, by omega⟩ iM) ?_
  intro v5 m5 pp5
  obtain ⟨im5, kk5, e5_0, -⟩ := pp5
  try dsimp only
  replace im5 : I n m5 := im5
  replace kk5 : Keep n W_X4_countWithout M m5 := kk5
  have km5 : Keep n W_X8_without M m5 := kM.tr kk5 (fun b j z => Or.elim z (fun z => (Or.inl z)) (fun z => Or.elim z (fun z => (Or.inr (Or.inl z))) (fun z => Or.elim z (fun z => (Or.inr (Or.inr (Or.inl z)))) (fun z => Or.elim z (fun z => (Or.inr (Or.inr (Or.inr (Or.inl z))))) (fun z => Or.elim z (fun z => (Or.inr (Or.inr (Or.inr (Or.inr (Or.inl z)))))) (fun z => Or.elim z (fun z => (Or.inr (Or.inr (Or.inr (Or.inr (Or.inr (Or.inl z))))))) (fun z => Or.elim z (fun z => (Or.inr (Or.inr (Or.inr (Or.inr (Or.inr (Or.inr (Or.inl z)))))))) (fun z => Or.elim z (fun z => (Or.inr (Or.inr (Or.inr (Or.inr (Or.inr (Or.inr (Or.inr (Or.inl z))))))))) (fun z => Or.elim z (fun z => (Or.inr (Or.inr (Or.inr (Or.inr (Or.inr (Or.inr (Or.inr (Or.inr (Or.inl z)))))))))) (fun z => Or.elim z (fun z => (Or.inr (Or.inr (Or.inr (Or.inr (Or.inr (Or.inr (Or.inr (Or.inr (Or.inr (Or.inl z))))))))))) (fun z => Or.elim z (fun z => (Or.inr (Or.inr (Or.inr (Or.inr (Or.inr (Or.inr (Or.inr (Or.inr (Or.inr (Or.inr (Or.inl z)))))))))))) (fun z => Or.elim z (fun z => (Or.inr (Or.inr (Or.inr (Or.inr (Or.inr (Or.inr (Or.inr (Or.inr (Or.inr (Or.inr (Or.inr (Or.inl z))))))))))))) (fun z => Or.elim z (fun z => (Or.inr (Or.inr (Or.inr (Or.inr (Or.inr (Or.inr (Or.inr (Or.inr (Or.inr (Or.inr (Or.inr (Or.inr (Or.inl z)))))))))))))) (fun z => Or.elim z (fun z => (Or.inr (Or.inr (Or.inr (Or.inr (Or.inr (Or.inr (Or.inr (Or.inr (Or.inr (Or.inr (Or.inr (Or.inr (Or.inr (Or.inl z))))))))))))))) (fun z => Or.elim z (fun z => (Or.inr (Or.inr (Or.inr (Or.inr (Or.inr (Or.inr (Or.inr (Or.inr (Or.inr (Or.inr (Or.inr (Or.inr (Or.inr (Or.inr (Or.inl z)))))))))))))))) (fun z => Or.elim z (fun z => (Or.inr (Or.inr (Or.inr (Or.inr (Or.inr (Or.inr (Or.inr (Or.inr (Or.inr (Or.inr (Or.inr (Or.inr (Or.inr (Or.inr (Or.inr (Or.inl z))))))))))))))))) (fun z => (Or.inr (Or.inr (Or.inr (Or.inr (Or.inr (Or.inr (Or.inr (Or.inr (Or.inr (Or.inr (Or.inr (Or.inr (Or.inr (Or.inr (Or.inr (Or.inr z)))))))))))))))))))))))))))))))))
  replace e5_0 : (-1) ≤ v5 ∧ v5 ≤ 8128 := e5_0
  exact w_ret ⟨im5, km5, (show (-1) ≤ v5 ∧ v5 ≤ 8128 from ⟨by omega, by omega⟩), trivial⟩
def W_X4_takeAsked (b j : Int) : Prop := b = 46
theorem s_X4_takeAsked_112 {n : Nat} {Me : Mem} {k33 : Int → Int → Int → Int → Mem → Option (Int × Mem)} {fu33 : Nat} (hk33 : ∀ (l1 l2 l3 : Int) (M : Mem), ((-2147483648) ≤ l1 ∧ l1 ≤ 2147483647) → (0 ≤ l2 ∧ l2 ≤ 8128) → (0 ≤ l3 ∧ l3 ≤ 8128) → 8129 - l3 < (fu33 : Int) → I n M → Keep n W_X4_takeAsked Me M → wp (k33 2 l1 l2 l3 M) (fun q => I n q.2 ∧ Keep n W_X4_takeAsked Me q.2 ∧ ((-2147483648) ≤ q.1 ∧ q.1 ≤ 2147483647) ∧ True)) {l1 l2 l3 : Int} {M : Mem} (r_l1 : (-2147483648) ≤ l1 ∧ l1 ≤ 2147483647) (r_l2 : 1 ≤ l2 ∧ l2 ≤ 8128) (r_l3 : 0 ≤ l3 ∧ l3 ≤ 8127) (hf33 : 8129 - l3 < (fu33 : Int) + 1) (iM : I n M) (kM : Keep n W_X4_takeAsked Me M) : wp (mX4_takeAsked_112 k33 2 l1 l2 l3 M) (fun q => I n q.2 ∧ Keep n W_X4_takeAsked Me q.2 ∧ ((-2147483648) ≤ q.1 ∧ q.1 ≤ 2147483647) ∧ True) := by
  have hn : (169 : Int) ≤ (n : Int) := by have := iM.2.2.2.2.1; omega
  unfold mX4_takeAsked_112
  have w1_ := ishl_in 1 l3
  have w2_ := ior_in l1 (ishl 1 l3)
  have w3_ := wI_id (x := (l3 + 1)) (by omega) (by omega)
  exact hk33 _ _ _ _ ⟨by omega, by omega⟩ ⟨by omega, by omega⟩ ⟨by omega, by omega⟩ (by omega) iM kM
theorem s_X4_takeAsked_106 {n : Nat} {Me : Mem} {k33 : Int → Int → Int → Int → Mem → Option (Int × Mem)} {fu33 : Nat} (hk33 : ∀ (l1 l2 l3 : Int) (M : Mem), ((-2147483648) ≤ l1 ∧ l1 ≤ 2147483647) → (0 ≤ l2 ∧ l2 ≤ 8128) → (0 ≤ l3 ∧ l3 ≤ 8128) → 8129 - l3 < (fu33 : Int) → I n M → Keep n W_X4_takeAsked Me M → wp (k33 2 l1 l2 l3 M) (fun q => I n q.2 ∧ Keep n W_X4_takeAsked Me q.2 ∧ ((-2147483648) ≤ q.1 ∧ q.1 ≤ 2147483647) ∧ True)) {k51 : Int → Int → Int → Int → Int → Int → Mem → Option (Int × Mem)} {fu51 : Nat} (hk51 : ∀ (l1 l2 l3 l4 l5 : Int) (M : Mem), ((-2147483648) ≤ l1 ∧ l1 ≤ 2147483647) → (1 ≤ l2 ∧ l2 ≤ 8128) → (0 ≤ l3 ∧ l3 ≤ 8127) → ((-1) ≤ l4 ∧ l4 ≤ 4095) → (0 ≤ l5 ∧ l5 ≤ 12) → 8129 - l3 < (fu33 : Int) + 1 → 13 - l5 < (fu51 : Int) → I n M → Keep n W_X4_takeAsked Me M → wp (k51 2 l1 l2 l3 l4 l5 M) (fun q => I n q.2 ∧ Keep n W_X4_takeAsked Me q.2 ∧ ((-2147483648) ≤ q.1 ∧ q.1 ≤ 2147483647) ∧ True)) {l1 l2 l3 l4 l5 : Int} {M : Mem} (r_l1 : (-2147483648) ≤ l1 ∧ l1 ≤ 2147483647) (r_l2 : 1 ≤ l2 ∧ l2 ≤ 8128) (r_l3 : 0 ≤ l3 ∧ l3 ≤ 8127) (r_l4 : (-1) ≤ l4 ∧ l4 ≤ 4095) (r_l5 : 0 ≤ l5 ∧ l5 ≤ 11) (hf33 : 8129 - l3 < (fu33 : Int) + 1) (hf51 : 13 - l5 < (fu51 : Int) + 1) (iM : I n M) (kM : Keep n W_X4_takeAsked Me M) : wp (mX4_takeAsked_106 k33 k51 2 l1 l2 l3 l4 l5 M) (fun q => I n q.2 ∧ Keep n W_X4_takeAsked Me q.2 ∧ ((-2147483648) ≤ q.1 ∧ q.1 ≤ 2147483647) ∧ True) := by
  have hn : (169 : Int) ≤ (n : Int) := by have := iM.2.2.2.2.1; omega
  unfold mX4_takeAsked_106
  have w1_ := wI_id (x := (l5 + 1)) (by omega) (by omega)
  exact hk51 _ _ _ _ _ _ ⟨by omega, by omega⟩ ⟨by omega, by omega⟩ ⟨by omega, by omega⟩ ⟨by omega, by omega⟩ ⟨by omega, by omega⟩ (by omega) (by omega) iM kM
theorem sb_X4_takeAsked_51 {n : Nat} {Me : Mem} {k33 : Int → Int → Int → Int → Mem → Option (Int × Mem)} {fu33 : Nat} (hk33 : ∀ (l1 l2 l3 : Int) (M : Mem), ((-2147483648) ≤ l1 ∧ l1 ≤ 2147483647) → (0 ≤ l2 ∧ l2 ≤ 8128) → (0 ≤ l3 ∧ l3 ≤ 8128) → 8129 - l3 < (fu33 : Int) → I n M → Keep n W_X4_takeAsked Me M → wp (k33 2 l1 l2 l3 M) (fun q => I n q.2 ∧ Keep n W_X4_takeAsked Me q.2 ∧ ((-2147483648) ≤ q.1 ∧ q.1 ≤ 2147483647) ∧ True)) {k51 : Int → Int → Int → Int → Int → Int → Mem → Option (Int × Mem)} {fu51 : Nat} (hk51 : ∀ (l1 l2 l3 l4 l5 : Int) (M : Mem), ((-2147483648) ≤ l1 ∧ l1 ≤ 2147483647) → (1 ≤ l2 ∧ l2 ≤ 8128) → (0 ≤ l3 ∧ l3 ≤ 8127) → ((-1) ≤ l4 ∧ l4 ≤ 4095) → (0 ≤ l5 ∧ l5 ≤ 12) → 8129 - l3 < (fu33 : Int) + 1 → 13 - l5 < (fu51 : Int) → I n M → Keep n W_X4_takeAsked Me M → wp (k51 2 l1 l2 l3 l4 l5 M) (fun q => I n q.2 ∧ Keep n W_X4_takeAsked Me q.2 ∧ ((-2147483648) ≤ q.1 ∧ q.1 ≤ 2147483647) ∧ True)) {l1 l2 l3 l4 l5 : Int} {M : Mem} (r_l1 : (-2147483648) ≤ l1 ∧ l1 ≤ 2147483647) (r_l2 : 1 ≤ l2 ∧ l2 ≤ 8128) (r_l3 : 0 ≤ l3 ∧ l3 ≤ 8127) (r_l4 : (-1) ≤ l4 ∧ l4 ≤ 4095) (r_l5 : 0 ≤ l5 ∧ l5 ≤ 12) (hf33 : 8129 - l3 < (fu33 : Int) + 1) (hf51 : 13 - l5 < (fu51 : Int) + 1) (iM : I n M) (kM : Keep n W_X4_takeAsked Me M) : wp (bX4_takeAsked_51 k33 k51 2 l1 l2 l3 l4 l5 M) (fun q => I n q.2 ∧ Keep n W_X4_takeAsked Me q.2 ∧ ((-2147483648) ≤ q.1 ∧ q.1 ≤ 2147483647) ∧ True) := by
  have hn : (169 : Int) ≤ (n : Int) := by have := iM.2.2.2.2.1; omega
  unfold bX4_takeAsked_51
  refine w_gFc (ji := 0) rfl (congrArg Prod.fst (kl_2 iM)) (show mG M 2 0 = 3 from rd_Solver_0 iM (a := 2) rfl) ?_
  refine w_gFc (ji := 0) rfl (congrArg Prod.fst (kl_3 iM)) (show mG M 3 0 = 4 from rd_Told_0 iM (a := 3) rfl) ?_
  refine w_gF (ji := 7) rfl (congrArg Prod.fst (kl_4 iM)) (fun a60 ha60 => ?_)
  have ra60 : 0 ≤ a60 ∧ a60 ≤ 36 := ha60.tr (P := fun z => 0 ≤ z ∧ z ≤ 36) (rd_Shape_7 iM rfl)
  refine w_if (fun c1_ => ?_) (fun c1_ => ?_)
  · skip
    exact s_X4_takeAsked_112 hk33 ⟨by omega, by omega⟩ ⟨by omega, by omega⟩ ⟨by omega, by omega⟩ (by omega) iM kM
  · skip
    refine w_if (fun c2_ => ?_) (fun c2_ => ?_)
    · skip
      exact s_X4_takeAsked_112 hk33 ⟨by omega, by omega⟩ ⟨by omega, by omega⟩ ⟨by omega, by omega⟩ (by omega) iM kM
    · skip
      refine w_gFc (ji := 0) rfl (congrArg Prod.fst (kl_2 iM)) (show mG M 2 0 = 3 from rd_Solver_0 iM (a := 2) rfl) ?_
      refine w_gFc (ji := 0) rfl (congrArg Prod.fst (kl_3 iM)) (show mG M 3 0 = 4 from rd_Told_0 iM (a := 3) rfl) ?_
      refine w_gK (congrArg Prod.fst (kl_4 iM)) ?_
      refine w_call (s_X3_bit (by unfold isShape; omega) ⟨by omega, by omega⟩ iM) ?_
      intro v84 m84 pp84
      obtain ⟨im84, kk84, e84_0, -⟩ := pp84
      try dsimp only
      replace im84 : I n m84 := im84
      replace kk84 : Keep n (W_X3_bit 4) M m84 := kk84
      have km84 : Keep n W_X4_takeAsked Me m84 := kM.tr kk84 (fun b j z => z.elim)
      replace e84_0 : (-36) ≤ v84 ∧ v84 ≤ 36 := e84_0
      have w3_ := ishr_in l4 v84
      have w4_ := iand_r (x := (ishr l4 v84)) (y := 1) (by omega) (by omega)
      refine w_if (fun c5_ => ?_) (fun c5_ => ?_)
      · skip
        exact s_X4_takeAsked_106 hk33 hk51 ⟨by omega, by omega⟩ ⟨by omega, by omega⟩ ⟨by omega, by omega⟩ ⟨by omega, by omega⟩ ⟨by omega, by omega⟩ (by omega) (by omega) im84 km84
      · skip
        refine w_gFc (ji := 11) rfl (congrArg Prod.fst (kl_2 im84)) (show mG m84 2 11 = 46 from rd_Solver_11 im84 (a := 2) rfl) ?_
        refine w_aG (kl_46 im84) (by omega) (by omega) (fun a100 ha100 => ?_)
        have ra100 : (-2147483648) ≤ a100 ∧ a100 ≤ 2147483647 := ha100.tr (P := fun z => (-2147483648) ≤ z ∧ z ≤ 2147483647) (rd_Vasked im84 rfl)
        have w6_ := ishl_in 1 l3
        have w7_ := ior_in a100 (ishl 1 l3)
        refine w_aS (kl_46 im84) (by omega) (by omega) (fun M105 hM105 => ?_)
        replace hM105 : M105 = mS m84 46 l5 (ior a100 (ishl 1 l3)) := hM105
        have iM105 : I n M105 := wr_Vasked im84 rfl ⟨by omega, by omega⟩ hM105
        have kM105 : Keep n W_X4_takeAsked Me M105 := km84.st hM105 (Or.inl rfl)
        obtain ⟨svM105, esvM105⟩ : ∃ z, z = (ior a100 (ishl 1 l3)) := ⟨_, rfl⟩
        exact s_X4_takeAsked_106 hk33 hk51 ⟨by omega, by omega⟩ ⟨by omega, by omega⟩ ⟨by omega, by omega⟩ ⟨by omega, by omega⟩ ⟨by omega, by omega⟩ (by omega) (by omega) iM105 kM105
theorem s_X4_takeAsked_51 {n : Nat} {Me : Mem} {k33 : Int → Int → Int → Int → Mem → Option (Int × Mem)} {fu33 : Nat} (hk33 : ∀ (l1 l2 l3 : Int) (M : Mem), ((-2147483648) ≤ l1 ∧ l1 ≤ 2147483647) → (0 ≤ l2 ∧ l2 ≤ 8128) → (0 ≤ l3 ∧ l3 ≤ 8128) → 8129 - l3 < (fu33 : Int) → I n M → Keep n W_X4_takeAsked Me M → wp (k33 2 l1 l2 l3 M) (fun q => I n q.2 ∧ Keep n W_X4_takeAsked Me q.2 ∧ ((-2147483648) ≤ q.1 ∧ q.1 ≤ 2147483647) ∧ True)) : ∀ (fu : Nat) (l1 l2 l3 l4 l5 : Int) (M : Mem), ((-2147483648) ≤ l1 ∧ l1 ≤ 2147483647) → (1 ≤ l2 ∧ l2 ≤ 8128) → (0 ≤ l3 ∧ l3 ≤ 8127) → ((-1) ≤ l4 ∧ l4 ≤ 4095) → (0 ≤ l5 ∧ l5 ≤ 12) → 8129 - l3 < (fu33 : Int) + 1 → 13 - l5 < (fu : Int) → I n M → Keep n W_X4_takeAsked Me M → wp (mX4_takeAsked_51 k33 fu 2 l1 l2 l3 l4 l5 M) (fun q => I n q.2 ∧ Keep n W_X4_takeAsked Me q.2 ∧ ((-2147483648) ≤ q.1 ∧ q.1 ≤ 2147483647) ∧ True) := by
  intro fu
  induction fu with
  | zero =>
    intro l1 l2 l3 l4 l5 M r_l1 r_l2 r_l3 r_l4 r_l5 hf33 hf iM kM
    exfalso
    omega
  | succ fu ih =>
    intro l1 l2 l3 l4 l5 M r_l1 r_l2 r_l3 r_l4 r_l5 hf33 hf iM kM
    exact sb_X4_takeAsked_51 hk33 ih r_l1 r_l2 r_l3 r_l4 r_l5 hf33 (by have e : ((fu + 1 : Nat) : Int) = (fu : Int) + 1 := rfl; rw [e] at hf; exact hf) iM kM
theorem sb_X4_takeAsked_33 {n : Nat} {Me : Mem} {k33 : Int → Int → Int → Int → Mem → Option (Int × Mem)} {fu33 : Nat} (hk33 : ∀ (l1 l2 l3 : Int) (M : Mem), ((-2147483648) ≤ l1 ∧ l1 ≤ 2147483647) → (0 ≤ l2 ∧ l2 ≤ 8128) → (0 ≤ l3 ∧ l3 ≤ 8128) → 8129 - l3 < (fu33 : Int) → I n M → Keep n W_X4_takeAsked Me M → wp (k33 2 l1 l2 l3 M) (fun q => I n q.2 ∧ Keep n W_X4_takeAsked Me q.2 ∧ ((-2147483648) ≤ q.1 ∧ q.1 ≤ 2147483647) ∧ True)) {l1 l2 l3 : Int} {M : Mem} (r_l1 : (-2147483648) ≤ l1 ∧ l1 ≤ 2147483647) (r_l2 : 0 ≤ l2 ∧ l2 ≤ 8128) (r_l3 : 0 ≤ l3 ∧ l3 ≤ 8128) (hf33 : 8129 - l3 < (fu33 : Int) + 1) (iM : I n M) (kM : Keep n W_X4_takeAsked Me M) : wp (bX4_takeAsked_33 k33 2 l1 l2 l3 M) (fun q => I n q.2 ∧ Keep n W_X4_takeAsked Me q.2 ∧ ((-2147483648) ≤ q.1 ∧ q.1 ≤ 2147483647) ∧ True) := by
  have hn : (169 : Int) ≤ (n : Int) := by have := iM.2.2.2.2.1; omega
  unfold bX4_takeAsked_33
  refine w_if (fun c1_ => ?_) (fun c1_ => ?_)
  · skip
    exact w_ret ⟨iM, kM, (show (-2147483648) ≤ l1 ∧ l1 ≤ 2147483647 from ⟨by omega, by omega⟩), trivial⟩
  · skip
    refine w_gFc (ji := 6) rfl (congrArg Prod.fst (kl_2 iM)) (show mG M 2 6 = 34 from rd_Solver_6 iM (a := 2) rfl) ?_
    refine w_gK (congrArg Prod.fst (kl_34 iM)) ?_
    refine w_call (s_X7_nth (by unfold isWS; omega) ⟨by omega, by omega⟩ iM) ?_
    intro v43 m43 pp43
    obtain ⟨im43, kk43, e43_0, -⟩ := pp43
    try dsimp only
    replace im43 : I n m43 := im43
    replace kk43 : Keep n (W_X7_nth 34) M m43 := kk43
    have km43 : Keep n W_X4_takeAsked Me m43 := kM.tr kk43 (fun b j z => z.elim)
    replace e43_0 : (-1) ≤ v43 ∧ v43 ≤ 4095 := e43_0
    exact s_X4_takeAsked_51 hk33 FU _ _ _ _ _ _ ⟨by omega, by omega⟩ ⟨by omega, by omega⟩ ⟨by omega, by omega⟩ ⟨by omega, by omega⟩ ⟨by omega, by omega⟩ (by omega) (by show _ < (70000 : Int); omega) im43 km43
theorem s_X4_takeAsked_33 {n : Nat} {Me : Mem} : ∀ (fu : Nat) (l1 l2 l3 : Int) (M : Mem), ((-2147483648) ≤ l1 ∧ l1 ≤ 2147483647) → (0 ≤ l2 ∧ l2 ≤ 8128) → (0 ≤ l3 ∧ l3 ≤ 8128) → 8129 - l3 < (fu : Int) → I n M → Keep n W_X4_takeAsked Me M → wp (mX4_takeAsked_33 fu 2 l1 l2 l3 M) (fun q => I n q.2 ∧ Keep n W_X4_takeAsked Me q.2 ∧ ((-2147483648) ≤ q.1 ∧ q.1 ≤ 2147483647) ∧ True) := by
  intro fu
  induction fu with
  | zero =>
    intro l1 l2 l3 M r_l1 r_l2 r_l3 hf iM kM
    exfalso
    omega
  | succ fu ih =>
    intro l1 l2 l3 M r_l1 r_l2 r_l3 hf iM kM
    exact sb_X4_takeAsked_33 ih r_l1 r_l2 r_l3 (by have e : ((fu + 1 : Nat) : Int) = (fu : Int) + 1 := rfl; rw [e] at hf; exact hf) iM kM
theorem sb_X4_takeAsked_4 {n : Nat} {Me : Mem} {k4 : Int → Int → Int → Mem → Option (Int × Mem)} {fu4 : Nat} (hk4 : ∀ (l1 l2 : Int) (M : Mem), (0 ≤ l1 ∧ l1 ≤ 0) → (0 ≤ l2 ∧ l2 ≤ 12) → 13 - l2 < (fu4 : Int) → I n M → Keep n W_X4_takeAsked Me M → wp (k4 2 l1 l2 M) (fun q => I n q.2 ∧ Keep n W_X4_takeAsked Me q.2 ∧ ((-2147483648) ≤ q.1 ∧ q.1 ≤ 2147483647) ∧ True)) {l1 l2 : Int} {M : Mem} (r_l1 : 0 ≤ l1 ∧ l1 ≤ 0) (r_l2 : 0 ≤ l2 ∧ l2 ≤ 12) (hf4 : 13 - l2 < (fu4 : Int) + 1) (iM : I n M) (kM : Keep n W_X4_takeAsked Me M) : wp (bX4_takeAsked_4 k4 2 l1 l2 M) (fun q => I n q.2 ∧ Keep n W_X4_takeAsked Me q.2 ∧ ((-2147483648) ≤ q.1 ∧ q.1 ≤ 2147483647) ∧ True) := by
  have hn : (169 : Int) ≤ (n : Int) := by have := iM.2.2.2.2.1; omega
  unfold bX4_takeAsked_4
  refine w_if (fun c1_ => ?_) (fun c1_ => ?_)
  · skip
    refine w_gFc (ji := 6) rfl (congrArg Prod.fst (kl_2 iM)) (show mG M 2 6 = 34 from rd_Solver_6 iM (a := 2) rfl) ?_
    refine w_gK (congrArg Prod.fst (kl_34 iM)) ?_
    refine w_call (s_X7_count (by unfold isWS; omega) iM) ?_
    intro v27 m27 pp27
    obtain ⟨im27, kk27, e27_0, -⟩ := pp27
    try dsimp only
    replace im27 : I n m27 := im27
    replace kk27 : Keep n (W_X7_count 34) M m27 := kk27
    have km27 : Keep n W_X4_takeAsked Me m27 := kM.tr kk27 (fun b j z => z.elim)
    replace e27_0 : 0 ≤ v27 ∧ v27 ≤ 8128 := e27_0
    exact s_X4_takeAsked_33 FU _ _ _ _ ⟨by omega, by omega⟩ ⟨by omega, by omega⟩ ⟨by omega, by omega⟩ (by show _ < (70000 : Int); omega) im27 km27
  · skip
    refine w_gFc (ji := 11) rfl (congrArg Prod.fst (kl_2 iM)) (show mG M 2 11 = 46 from rd_Solver_11 iM (a := 2) rfl) ?_
    refine w_aS (kl_46 iM) (by omega) (by omega) (fun M16 hM16 => ?_)
    replace hM16 : M16 = mS M 46 l2 0 := hM16
    have iM16 : I n M16 := wr_Vasked iM rfl ⟨by omega, by omega⟩ hM16
    have kM16 : Keep n W_X4_takeAsked Me M16 := kM.st hM16 (Or.inl rfl)
    have w2_ := wI_id (x := (l2 + 1)) (by omega) (by omega)
    exact hk4 _ _ _ ⟨by omega, by omega⟩ ⟨by omega, by omega⟩ (by omega) iM16 kM16
theorem s_X4_takeAsked_4 {n : Nat} {Me : Mem} : ∀ (fu : Nat) (l1 l2 : Int) (M : Mem), (0 ≤ l1 ∧ l1 ≤ 0) → (0 ≤ l2 ∧ l2 ≤ 12) → 13 - l2 < (fu : Int) → I n M → Keep n W_X4_takeAsked Me M → wp (mX4_takeAsked_4 fu 2 l1 l2 M) (fun q => I n q.2 ∧ Keep n W_X4_takeAsked Me q.2 ∧ ((-2147483648) ≤ q.1 ∧ q.1 ≤ 2147483647) ∧ True) := by
  intro fu
  induction fu with
  | zero =>
    intro l1 l2 M r_l1 r_l2 hf iM kM
    exfalso
    omega
  | succ fu ih =>
    intro l1 l2 M r_l1 r_l2 hf iM kM
    exact sb_X4_takeAsked_4 ih r_l1 r_l2 (by have e : ((fu + 1 : Nat) : Int) = (fu : Int) + 1 := rfl; rw [e] at hf; exact hf) iM kM
theorem s_X4_takeAsked {n : Nat} {M : Mem} (iM : I n M) : wp (mX4_takeAsked 2 M) (fun q => I n q.2 ∧ Keep n W_X4_takeAsked M q.2 ∧ ((-2147483648) ≤ q.1 ∧ q.1 ≤ 2147483647) ∧ True) := by
  have hn : (169 : Int) ≤ (n : Int) := by have := iM.2.2.2.2.1; omega
  have kM : Keep n W_X4_takeAsked M M := Keep.rf
  unfold mX4_takeAsked
  exact s_X4_takeAsked_4 FU _ _ _ ⟨by omega, by omega⟩ ⟨by omega, by omega⟩ (by show _ < (70000 : Int); omega) iM kM
def W_X4_suffice (b j : Int) : Prop := False
theorem s_X4_suffice_98 {n : Nat} {Me : Mem} {dd : Int} {f_suffice : Int → Int → Int → Mem → Option (Int × Mem)} (hf_suffice : ∀ (l1 l2 : Int) (M : Mem), ((-2147483648) ≤ l1 ∧ l1 ≤ 2147483647) → (0 ≤ l2 ∧ l2 ≤ 4) → (l2 < dd) → I n M → wp (f_suffice 46 l1 l2 M) (fun q => I n q.2 ∧ Keep n W_X4_suffice M q.2 ∧ (0 ≤ q.1 ∧ q.1 ≤ 1) ∧ True)) {k28 : Int → Int → Int → Int → Mem → Option (Int × Mem)} {fu28 : Nat} (hk28 : ∀ (l1 l2 l3 : Int) (M : Mem), ((-2147483648) ≤ l1 ∧ l1 ≤ 2147483647) → (1 ≤ l2 ∧ l2 ≤ 4) → (0 ≤ l3 ∧ l3 ≤ 12) → (l2 < dd + 1) → 13 - l3 < (fu28 : Int) → I n M → Keep n W_X4_suffice Me M → wp (k28 46 l1 l2 l3 M) (fun q => I n q.2 ∧ Keep n W_X4_suffice Me q.2 ∧ (0 ≤ q.1 ∧ q.1 ≤ 1) ∧ True)) {l1 l2 l3 : Int} {M : Mem} (r_l1 : (-2147483648) ≤ l1 ∧ l1 ≤ 2147483647) (r_l2 : 1 ≤ l2 ∧ l2 ≤ 4) (r_l3 : 0 ≤ l3 ∧ l3 ≤ 11) (z0 : l2 < dd + 1) (hf28 : 13 - l3 < (fu28 : Int) + 1) (iM : I n M) (kM : Keep n W_X4_suffice Me M) : wp (mX4_suffice_98 k28 f_suffice 46 l1 l2 l3 M) (fun q => I n q.2 ∧ Keep n W_X4_suffice Me q.2 ∧ (0 ≤ q.1 ∧ q.1 ≤ 1) ∧ True) := by
  have hn : (169 : Int) ≤ (n : Int) := by have := iM.2.2.2.2.1; omega
  unfold mX4_suffice_98
  have w1_ := wI_id (x := (l3 + 1)) (by omega) (by omega)
  exact hk28 _ _ _ _ ⟨by omega, by omega⟩ ⟨by omega, by omega⟩ ⟨by omega, by omega⟩ (by all_goals omega) (by omega) iM kM
theorem s_X4_suffice_65 {n : Nat} {Me : Mem} {dd : Int} {f_suffice : Int → Int → Int → Mem → Option (Int × Mem)} (hf_suffice : ∀ (l1 l2 : Int) (M : Mem), ((-2147483648) ≤ l1 ∧ l1 ≤ 2147483647) → (0 ≤ l2 ∧ l2 ≤ 4) → (l2 < dd) → I n M → wp (f_suffice 46 l1 l2 M) (fun q => I n q.2 ∧ Keep n W_X4_suffice M q.2 ∧ (0 ≤ q.1 ∧ q.1 ≤ 1) ∧ True)) {k28 : Int → Int → Int → Int → Mem → Option (Int × Mem)} {fu28 : Nat} (hk28 : ∀ (l1 l2 l3 : Int) (M : Mem), ((-2147483648) ≤ l1 ∧ l1 ≤ 2147483647) → (1 ≤ l2 ∧ l2 ≤ 4) → (0 ≤ l3 ∧ l3 ≤ 12) → (l2 < dd + 1) → 13 - l3 < (fu28 : Int) → I n M → Keep n W_X4_suffice Me M → wp (k28 46 l1 l2 l3 M) (fun q => I n q.2 ∧ Keep n W_X4_suffice Me q.2 ∧ (0 ≤ q.1 ∧ q.1 ≤ 1) ∧ True)) {l1 l2 l3 l4 l5 s0 : Int} {M : Mem} (r_l1 : (-2147483648) ≤ l1 ∧ l1 ≤ 2147483647) (r_l2 : 1 ≤ l2 ∧ l2 ≤ 4) (r_l3 : 0 ≤ l3 ∧ l3 ≤ 11) (r_l4 : (-2147483648) ≤ l4 ∧ l4 ≤ 2147483647) (r_l5 : (-2147483648) ≤ l5 ∧ l5 ≤ 2147483647) (r_s0 : 0 ≤ s0 ∧ s0 ≤ 1) (z0 : l2 < dd + 1) (hf28 : 13 - l3 < (fu28 : Int) + 1) (iM : I n M) (kM : Keep n W_X4_suffice Me M) : wp (mX4_suffice_65 k28 f_suffice 46 l1 l2 l3 l4 l5 s0 M) (fun q => I n q.2 ∧ Keep n W_X4_suffice Me q.2 ∧ (0 ≤ q.1 ∧ q.1 ≤ 1) ∧ True) := by
  have hn : (169 : Int) ≤ (n : Int) := by have := iM.2.2.2.2.1; omega
  unfold mX4_suffice_65
  refine w_if (fun c1_ => ?_) (fun c1_ => ?_)
  · skip
    exact s_X4_suffice_98 hf_suffice hk28 ⟨by omega, by omega⟩ ⟨by omega, by omega⟩ ⟨by omega, by omega⟩ (by all_goals omega) (by omega) iM kM
  · skip
    have w2_ := wI_id (x := (l2 - 1)) (by omega) (by omega)
    refine w_call (hf_suffice _ _ _ ⟨by omega, by omega⟩ ⟨by omega, by omega⟩ (by all_goals omega) iM) ?_
    intro v78 m78 pp78
    obtain ⟨im78, kk78, e78_0, -⟩ := pp78
    try dsimp only
    replace im78 : I n m78 := im78
    replace kk78 : Keep n W_X4_suffice M m78 := kk78
    have km78 : Keep n W_X4_suffice Me m78 := kM.tr kk78 (fun b j z => z.elim)
    replace e78_0 : 0 ≤ v78 ∧ v78 ≤ 1 := e78_0
    refine w_if (fun c3_ => ?_) (fun c3_ => ?_)
    · skip
      exact s_X4_suffice_98 hf_suffice hk28 ⟨by omega, by omega⟩ ⟨by omega, by omega⟩ ⟨by omega, by omega⟩ (by all_goals omega) (by omega) im78 km78
    · skip
      refine w_call (hf_suffice _ _ _ ⟨by omega, by omega⟩ ⟨by omega, by omega⟩ (by all_goals omega) im78) ?_
      intro v90 m90 pp90
      obtain ⟨im90, kk90, e90_0, -⟩ := pp90
      try dsimp only
      replace im90 : I n m90 := im90
      replace kk90 : Keep n W_X4_suffice m78 m90 := kk90
      have km90 : Keep n W_X4_suffice Me m90 := km78.tr kk90 (fun b j z => z.elim)
      replace e90_0 : 0 ≤ v90 ∧ v90 ≤ 1 := e90_0
      refine w_if (fun c4_ => ?_) (fun c4_ => ?_)
      · skip
        exact s_X4_suffice_98 hf_suffice hk28 ⟨by omega, by omega⟩ ⟨by omega, by omega⟩ ⟨by omega, by omega⟩ (by all_goals omega) (by omega) im90 km90
      · skip
        exact w_ret ⟨im90, km90, (show 0 ≤ 1 ∧ 1 ≤ 1 from ⟨by omega, by omega⟩), trivial⟩
theorem s_X4_suffice_64 {n : Nat} {Me : Mem} {dd : Int} {f_suffice : Int → Int → Int → Mem → Option (Int × Mem)} (hf_suffice : ∀ (l1 l2 : Int) (M : Mem), ((-2147483648) ≤ l1 ∧ l1 ≤ 2147483647) → (0 ≤ l2 ∧ l2 ≤ 4) → (l2 < dd) → I n M → wp (f_suffice 46 l1 l2 M) (fun q => I n q.2 ∧ Keep n W_X4_suffice M q.2 ∧ (0 ≤ q.1 ∧ q.1 ≤ 1) ∧ True)) {k28 : Int → Int → Int → Int → Mem → Option (Int × Mem)} {fu28 : Nat} (hk28 : ∀ (l1 l2 l3 : Int) (M : Mem), ((-2147483648) ≤ l1 ∧ l1 ≤ 2147483647) → (1 ≤ l2 ∧ l2 ≤ 4) → (0 ≤ l3 ∧ l3 ≤ 12) → (l2 < dd + 1) → 13 - l3 < (fu28 : Int) → I n M → Keep n W_X4_suffice Me M → wp (k28 46 l1 l2 l3 M) (fun q => I n q.2 ∧ Keep n W_X4_suffice Me q.2 ∧ (0 ≤ q.1 ∧ q.1 ≤ 1) ∧ True)) {l1 l2 l3 l4 l5 : Int} {M : Mem} (r_l1 : (-2147483648) ≤ l1 ∧ l1 ≤ 2147483647) (r_l2 : 1 ≤ l2 ∧ l2 ≤ 4) (r_l3 : 0 ≤ l3 ∧ l3 ≤ 11) (r_l4 : (-2147483648) ≤ l4 ∧ l4 ≤ 2147483647) (r_l5 : (-2147483648) ≤ l5 ∧ l5 ≤ 2147483647) (z0 : l2 < dd + 1) (hf28 : 13 - l3 < (fu28 : Int) + 1) (iM : I n M) (kM : Keep n W_X4_suffice Me M) : wp (mX4_suffice_64 k28 f_suffice 46 l1 l2 l3 l4 l5 M) (fun q => I n q.2 ∧ Keep n W_X4_suffice Me q.2 ∧ (0 ≤ q.1 ∧ q.1 ≤ 1) ∧ True) := by
  have hn : (169 : Int) ≤ (n : Int) := by have := iM.2.2.2.2.1; omega
  unfold mX4_suffice_64
  exact s_X4_suffice_65 hf_suffice hk28 ⟨by omega, by omega⟩ ⟨by omega, by omega⟩ ⟨by omega, by omega⟩ ⟨by omega, by omega⟩ ⟨by omega, by omega⟩ ⟨by omega, by omega⟩ (by all_goals omega) (by omega) iM kM
theorem sb_X4_suffice_28 {n : Nat} {Me : Mem} {dd : Int} {f_suffice : Int → Int → Int → Mem → Option (Int × Mem)} (hf_suffice : ∀ (l1 l2 : Int) (M : Mem), ((-2147483648) ≤ l1 ∧ l1 ≤ 2147483647) → (0 ≤ l2 ∧ l2 ≤ 4) → (l2 < dd) → I n M → wp (f_suffice 46 l1 l2 M) (fun q => I n q.2 ∧ Keep n W_X4_suffice M q.2 ∧ (0 ≤ q.1 ∧ q.1 ≤ 1) ∧ True)) {k28 : Int → Int → Int → Int → Mem → Option (Int × Mem)} {fu28 : Nat} (hk28 : ∀ (l1 l2 l3 : Int) (M : Mem), ((-2147483648) ≤ l1 ∧ l1 ≤ 2147483647) → (1 ≤ l2 ∧ l2 ≤ 4) → (0 ≤ l3 ∧ l3 ≤ 12) → (l2 < dd + 1) → 13 - l3 < (fu28 : Int) → I n M → Keep n W_X4_suffice Me M → wp (k28 46 l1 l2 l3 M) (fun q => I n q.2 ∧ Keep n W_X4_suffice Me q.2 ∧ (0 ≤ q.1 ∧ q.1 ≤ 1) ∧ True)) {l1 l2 l3 : Int} {M : Mem} (r_l1 : (-2147483648) ≤ l1 ∧ l1 ≤ 2147483647) (r_l2 : 1 ≤ l2 ∧ l2 ≤ 4) (r_l3 : 0 ≤ l3 ∧ l3 ≤ 12) (z0 : l2 < dd + 1) (hf28 : 13 - l3 < (fu28 : Int) + 1) (iM : I n M) (kM : Keep n W_X4_suffice Me M) : wp (bX4_suffice_28 f_suffice k28 46 l1 l2 l3 M) (fun q => I n q.2 ∧ Keep n W_X4_suffice Me q.2 ∧ (0 ≤ q.1 ∧ q.1 ≤ 1) ∧ True) := by
  have hn : (169 : Int) ≤ (n : Int) := by have := iM.2.2.2.2.1; omega
  unfold bX4_suffice_28
  refine w_aL (kl_46 iM) (fun a30 ha30 => ?_)
  refine w_if (fun c1_ => ?_) (fun c1_ => ?_)
  · skip
    exact w_ret ⟨iM, kM, (show 0 ≤ 0 ∧ 0 ≤ 1 from ⟨by omega, by omega⟩), trivial⟩
  · skip
    refine w_aG (kl_46 iM) (by omega) (by omega) (fun a37 ha37 => ?_)
    have ra37 : (-2147483648) ≤ a37 ∧ a37 ≤ 2147483647 := ha37.tr (P := fun z => (-2147483648) ≤ z ∧ z ≤ 2147483647) (rd_Vasked iM rfl)
    refine w_aGc (kl_46 iM) (by omega) (by omega) (show mG M 46 l3 = a37 from (show mG M 46 l3 = a37 from ha37)) ?_
    have w2_ := ixor_in a37 (-1)
    have w3_ := iand_in l1 (ixor a37 (-1))
    refine w_some (fun b48 hb48 => ?_)
    replace hb48 : b48 = (iand l1 (ixor a37 (-1))) := hb48
    have w4_ := iand_in l1 a37
    refine w_if (fun c5_ => ?_) (fun c5_ => ?_)
    · skip
      exact s_X4_suffice_64 hf_suffice hk28 ⟨by omega, by omega⟩ ⟨by omega, by omega⟩ ⟨by omega, by omega⟩ ⟨by omega, by omega⟩ ⟨by omega, by omega⟩ (by all_goals omega) (by omega) iM kM
    · skip
      refine w_if (fun c6_ => ?_) (fun c6_ => ?_)
      · skip
        exact s_X4_suffice_64 hf_suffice hk28 ⟨by omega, by omega⟩ ⟨by omega, by omega⟩ ⟨by omega, by omega⟩ ⟨by omega, by omega⟩ ⟨by omega, by omega⟩ (by all_goals omega) (by omega) iM kM
      · skip
        exact s_X4_suffice_65 hf_suffice hk28 ⟨by omega, by omega⟩ ⟨by omega, by omega⟩ ⟨by omega, by omega⟩ ⟨by omega, by omega⟩ ⟨by omega, by omega⟩ ⟨by omega, by omega⟩ (by all_goals omega) (by omega) iM kM
theorem s_X4_suffice_28 {n : Nat} {Me : Mem} {dd : Int} {f_suffice : Int → Int → Int → Mem → Option (Int × Mem)} (hf_suffice : ∀ (l1 l2 : Int) (M : Mem), ((-2147483648) ≤ l1 ∧ l1 ≤ 2147483647) → (0 ≤ l2 ∧ l2 ≤ 4) → (l2 < dd) → I n M → wp (f_suffice 46 l1 l2 M) (fun q => I n q.2 ∧ Keep n W_X4_suffice M q.2 ∧ (0 ≤ q.1 ∧ q.1 ≤ 1) ∧ True)) : ∀ (fu : Nat) (l1 l2 l3 : Int) (M : Mem), ((-2147483648) ≤ l1 ∧ l1 ≤ 2147483647) → (1 ≤ l2 ∧ l2 ≤ 4) → (0 ≤ l3 ∧ l3 ≤ 12) → (l2 < dd + 1) → 13 - l3 < (fu : Int) → I n M → Keep n W_X4_suffice Me M → wp (mX4_suffice_28 f_suffice fu 46 l1 l2 l3 M) (fun q => I n q.2 ∧ Keep n W_X4_suffice Me q.2 ∧ (0 ≤ q.1 ∧ q.1 ≤ 1) ∧ True) := by
  intro fu
  induction fu with
  | zero =>
    intro l1 l2 l3 M r_l1 r_l2 r_l3 z0 hf iM kM
    exfalso
    omega
  | succ fu ih =>
    intro l1 l2 l3 M r_l1 r_l2 r_l3 z0 hf iM kM
    exact sb_X4_suffice_28 hf_suffice ih r_l1 r_l2 r_l3 z0 (by have e : ((fu + 1 : Nat) : Int) = (fu : Int) + 1 := rfl; rw [e] at hf; exact hf) iM kM
theorem s_X4_suffice {n : Nat} {dd : Int} {f_suffice : Int → Int → Int → Mem → Option (Int × Mem)} (hf_suffice : ∀ (l1 l2 : Int) (M : Mem), ((-2147483648) ≤ l1 ∧ l1 ≤ 2147483647) → (0 ≤ l2 ∧ l2 ≤ 4) → (l2 < dd) → I n M → wp (f_suffice 46 l1 l2 M) (fun q => I n q.2 ∧ Keep n W_X4_suffice M q.2 ∧ (0 ≤ q.1 ∧ q.1 ≤ 1) ∧ True)) {l1 l2 : Int} {M : Mem} (r_l1 : (-2147483648) ≤ l1 ∧ l1 ≤ 2147483647) (r_l2 : 0 ≤ l2 ∧ l2 ≤ 4) (z0 : l2 < dd + 1) (iM : I n M) : wp (mX4_suffice f_suffice 46 l1 l2 M) (fun q => I n q.2 ∧ Keep n W_X4_suffice M q.2 ∧ (0 ≤ q.1 ∧ q.1 ≤ 1) ∧ True) := by
  have hn : (169 : Int) ≤ (n : Int) := by have := iM.2.2.2.2.1; omega
  have kM : Keep n W_X4_suffice M M := Keep.rf
  unfold mX4_suffice
  refine w_call (s_J6_bitCount_0f7a4 ⟨by omega, by omega⟩ iM) ?_
  intro v1 m1 pp1
  obtain ⟨im1, kk1, e1_0, -⟩ := pp1
  try dsimp only
  replace im1 : I n m1 := im1
  replace kk1 : Keep n W_J6_bitCount_0f7a4 M m1 := kk1
  have km1 : Keep n W_X4_suffice M m1 := kM.tr kk1 (fun b j z => z.elim)
  replace e1_0 : 0 ≤ v1 ∧ v1 ≤ 63 := e1_0
  refine w_if (fun c1_ => ?_) (fun c1_ => ?_)
  · skip
    refine w_if (fun c2_ => ?_) (fun c2_ => ?_)
    · skip
      exact w_ret ⟨im1, km1, (show 0 ≤ 0 ∧ 0 ≤ 1 from ⟨by omega, by omega⟩), trivial⟩
    · skip
      refine w_call (s_J6_bitCount_0f7a4 ⟨by omega, by omega⟩ im1) ?_
      intro v15 m15 pp15
      obtain ⟨im15, kk15, e15_0, -⟩ := pp15
      try dsimp only
      replace im15 : I n m15 := im15
      replace kk15 : Keep n W_J6_bitCount_0f7a4 m1 m15 := kk15
      have km15 : Keep n W_X4_suffice M m15 := km1.tr kk15 (fun b j z => z.elim)
      replace e15_0 : 0 ≤ v15 ∧ v15 ≤ 63 := e15_0
      have w3_ := ishl1_b (k := l2) (B := 4) (by omega) (by omega) (by decide)
      refine w_if (fun c4_ => ?_) (fun c4_ => ?_)
      · skip
        exact s_X4_suffice_28 hf_suffice FU _ _ _ _ ⟨by omega, by omega⟩ ⟨by omega, by omega⟩ ⟨by omega, by omega⟩ (by all_goals omega) (by show _ < (70000 : Int); omega) im15 km15
      · skip
        exact w_ret ⟨im15, km15, (show 0 ≤ 0 ∧ 0 ≤ 1 from ⟨by omega, by omega⟩), trivial⟩
  · skip
    exact w_ret ⟨im1, km1, (show 0 ≤ 1 ∧ 1 ≤ 1 from ⟨by omega, by omega⟩), trivial⟩
theorem s_g4 {n : Nat} : ∀ (d : Nat) (l1 l2 : Int) (M : Mem), ((-2147483648) ≤ l1 ∧ l1 ≤ 2147483647) → (0 ≤ l2 ∧ l2 ≤ 4) → (l2 < (d : Int)) → I n M → wp (gX4_suffice d 46 l1 l2 M) (fun q => I n q.2 ∧ Keep n W_X4_suffice M q.2 ∧ (0 ≤ q.1 ∧ q.1 ≤ 1) ∧ True) := by
  intro d
  induction d with
  | zero =>
    intro l1 l2 M r_l1 r_l2 z0 iM
    exfalso
    omega
  | succ d ih =>
    intro l1 l2 M r_l1 r_l2 z0 iM
    exact s_X4_suffice (dd := (d : Int)) (f_suffice := gX4_suffice d) ih r_l1 r_l2 z0 iM
theorem s_gX4_suffice {n : Nat} {l1 l2 : Int} {M : Mem} (r_l1 : (-2147483648) ≤ l1 ∧ l1 ≤ 2147483647) (r_l2 : 0 ≤ l2 ∧ l2 ≤ 4) (z0 : l2 < (8 : Int)) (iM : I n M) : wp (gX4_suffice 8 46 l1 l2 M) (fun q => I n q.2 ∧ Keep n W_X4_suffice M q.2 ∧ (0 ≤ q.1 ∧ q.1 ≤ 1) ∧ True) := s_g4 8 _ _ _ r_l1 r_l2 z0 iM

def W_X4_fewestQuestions (b j : Int) : Prop := (21 ≤ b ∧ b ≤ 23) ∨ b = 33 ∨ b = 35 ∨ b = 46 ∨ isWS (b - 1) ∨ (b = 2 ∧ j = 4) ∨ (b = 20 ∧ j = 0) ∨ (b = 20 ∧ j = 1) ∨ (b = 20 ∧ j = 5) ∨ (b = 32 ∧ j = 1) ∨ (b = 32 ∧ j = 2) ∨ (b = 34 ∧ j = 1) ∨ (b = 34 ∧ j = 2) ∨ (isWS b ∧ j = 1) ∨ (isWS b ∧ j = 2)
theorem sb_X4_fewestQuestions_38 {n : Nat} {Me : Mem} {k38 : Int → Int → Int → Mem → Option (Int × Mem)} {fu38 : Nat} (hk38 : ∀ (l1 l2 : Int) (M : Mem), ((-2147483648) ≤ l1 ∧ l1 ≤ 2147483647) → (0 ≤ l2 ∧ l2 ≤ 5) → 6 - l2 < (fu38 : Int) → I n M → Keep n W_X4_fewestQuestions Me M → wp (k38 2 l1 l2 M) (fun q => I n q.2 ∧ Keep n W_X4_fewestQuestions Me q.2 ∧ ((-1) ≤ q.1 ∧ q.1 ≤ 4) ∧ True)) {l1 l2 : Int} {M : Mem} (r_l1 : (-2147483648) ≤ l1 ∧ l1 ≤ 2147483647) (r_l2 : 0 ≤ l2 ∧ l2 ≤ 5) (hf38 : 6 - l2 < (fu38 : Int) + 1) (iM : I n M) (kM : Keep n W_X4_fewestQuestions Me M) : wp (bX4_fewestQuestions_38 k38 2 l1 l2 M) (fun q => I n q.2 ∧ Keep n W_X4_fewestQuestions Me q.2 ∧ ((-1) ≤ q.1 ∧ q.1 ≤ 4) ∧ True) := by
  have hn : (169 : Int) ≤ (n : Int) := by have := iM.2.2.2.2.1; omega
  unfold bX4_fewestQuestions_38
  refine w_if (fun c1_ => ?_) (fun c1_ => ?_)
  · skip
    exact w_ret ⟨iM, kM, (show (-1) ≤ (-1) ∧ (-1) ≤ 4 from ⟨by omega, by omega⟩), trivial⟩
  · skip
    refine w_gFc (ji := 11) rfl (congrArg Prod.fst (kl_2 iM)) (show mG M 2 11 = 46 from rd_Solver_11 iM (a := 2) rfl) ?_
    refine w_call (s_gX4_suffice ⟨by omega, by omega⟩ ⟨by omega, by omega⟩ (by all_goals omega) iM) ?_
    intro v49 m49 pp49
    obtain ⟨im49, kk49, e49_0, -⟩ := pp49
    try dsimp only
    replace im49 : I n m49 := im49
    replace kk49 : Keep n W_X4_suffice M m49 := kk49
    have km49 : Keep n W_X4_fewestQuestions Me m49 := kM.tr kk49 (fun b j z => z.elim)
    replace e49_0 : 0 ≤ v49 ∧ v49 ≤ 1 := e49_0
    refine w_if (fun c2_ => ?_) (fun c2_ => ?_)
    · skip
      have w3_ := wI_id (x := (l2 + 1)) (by omega) (by omega)
      exact hk38 _ _ _ ⟨by omega, by omega⟩ ⟨by omega, by omega⟩ (by omega) im49 km49
    · skip
      exact w_ret ⟨im49, km49, (show (-1) ≤ l2 ∧ l2 ≤ 4 from ⟨by omega, by omega⟩), trivial⟩
theorem s_X4_fewestQuestions_38 {n : Nat} {Me : Mem} : ∀ (fu : Nat) (l1 l2 : Int) (M : Mem), ((-2147483648) ≤ l1 ∧ l1 ≤ 2147483647) → (0 ≤ l2 ∧ l2 ≤ 5) → 6 - l2 < (fu : Int) → I n M → Keep n W_X4_fewestQuestions Me M → wp (mX4_fewestQuestions_38 fu 2 l1 l2 M) (fun q => I n q.2 ∧ Keep n W_X4_fewestQuestions Me q.2 ∧ ((-1) ≤ q.1 ∧ q.1 ≤ 4) ∧ True) := by
  intro fu
  induction fu with
  | zero =>
    intro l1 l2 M r_l1 r_l2 hf iM kM
    exfalso
    omega
  | succ fu ih =>
    intro l1 l2 M r_l1 r_l2 hf iM kM
    exact sb_X4_fewestQuestions_38 ih r_l1 r_l2 (by have e : ((fu + 1 : Nat) : Int) = (fu : Int) + 1 := rfl; rw [e] at hf; exact hf) iM kM
theorem s_X4_fewestQuestions {n : Nat} {M : Mem} (iM : I n M) : wp (mX4_fewestQuestions 2 M) (fun q => I n q.2 ∧ Keep n W_X4_fewestQuestions M q.2 ∧ ((-1) ≤ q.1 ∧ q.1 ≤ 4) ∧ True) := by
  have hn : (169 : Int) ≤ (n : Int) := by have := iM.2.2.2.2.1; omega
  have kM : Keep n W_X4_fewestQuestions M M := Keep.rf
  unfold mX4_fewestQuestions
  refine w_gK (congrArg Prod.fst (kl_2 iM)) ?_
  refine w_call (s_X4_lookUp iM) ?_
  intro v1 m1 pp1
  obtain ⟨im1, kk1, e1_0, -⟩ := pp1
  try dsimp only
  replace im1 : I n m1 := im1
  replace kk1 : Keep n W_X4_lookUp M m1 := kk1
  have km1 : Keep n W_X4_fewestQuestions M m1 := kM.tr kk1 (fun b j z => Or.elim z (fun z => (Or.inl z)) (fun z => Or.elim z (fun z => (Or.inr (Or.inl z))) (fun z => Or.elim z (fun z => (Or.inr (Or.inr (Or.inl z)))) (fun z => Or.elim z (fun z => (Or.inr (Or.inr (Or.inr (Or.inr (Or.inl z)))))) (fun z => Or.elim z (fun z => (Or.inr (Or.inr (Or.inr (Or.inr (Or.inr (Or.inl z))))))) (fun z => Or.elim z (fun z => (Or.inr (Or.inr (Or.inr (Or.inr (Or.inr (Or.inr (Or.inl z)))))))) (fun z => Or.elim z (fun z => (Or.inr (Or.inr (Or.inr (Or.inr (Or.inr (Or.inr (Or.inr (Or.inl z))))))))) (fun z => Or.elim z (fun z => (Or.inr (Or.inr (Or.inr (Or.inr (Or.inr (Or.inr (Or.inr (Or.inr (Or.inl z)))))))))) (fun z => Or.elim z (fun z => (Or.inr (Or.inr (Or.inr (Or.inr (Or.inr (Or.inr (Or.inr (Or.inr (Or.inr (Or.inl z))))))))))) (fun z => Or.elim z (fun z => (Or.inr (Or.inr (Or.inr (Or.inr (Or.inr (Or.inr (Or.inr (Or.inr (Or.inr (Or.inr (Or.inl z)))))))))))) (fun z => Or.elim z (fun z => (Or.inr (Or.inr (Or.inr (Or.inr (Or.inr (Or.inr (Or.inr (Or.inr (Or.inr (Or.inr (Or.inr (Or.inl z))))))))))))) (fun z => Or.elim z (fun z => (Or.inr (Or.inr (Or.inr (Or.inr (Or.inr (Or.inr (Or.inr (Or.inr (Or.inr (Or.inr (Or.inr (Or.inr (Or.inl z)))))))))))))) (fun z => Or.elim z (fun z => (Or.inr (Or.inr (Or.inr (Or.inr (Or.inr (Or.inr (Or.inr (Or.inr (Or.inr (Or.inr (Or.inr (Or.inr (Or.inr (Or.inl z))))))))))))))) (fun z => (Or.inr (Or.inr (Or.inr (Or.inr (Or.inr (Or.inr (Or.inr (Or.inr (Or.inr (Or.inr (Or.inr (Or.inr (Or.inr (Or.inr z))))))))))))))))))))))))))))
  replace e1_0 : 0 ≤ v1 ∧ v1 ≤ 1 := e1_0
  refine w_if (fun c1_ => ?_) (fun c1_ => ?_)
  · skip
    exact w_ret ⟨im1, km1, (show (-1) ≤ (-1) ∧ (-1) ≤ 4 from ⟨by omega, by omega⟩), trivial⟩
  · skip
    refine w_gFc (ji := 6) rfl (congrArg Prod.fst (kl_2 im1)) (show mG m1 2 6 = 34 from rd_Solver_6 im1 (a := 2) rfl) ?_
    refine w_gK (congrArg Prod.fst (kl_34 im1)) ?_
    refine w_call (s_X7_isNothing (by unfold isWS; omega) im1) ?_
    intro v11 m11 pp11
    obtain ⟨im11, kk11, e11_0, -⟩ := pp11
    try dsimp only
    replace im11 : I n m11 := im11
    replace kk11 : Keep n (W_X7_isNothing 34) m1 m11 := kk11
    have km11 : Keep n W_X4_fewestQuestions M m11 := km1.tr kk11 (fun b j z => z.elim)
    replace e11_0 : 0 ≤ v11 ∧ v11 ≤ 1 := e11_0
    refine w_if (fun c2_ => ?_) (fun c2_ => ?_)
    · skip
      refine w_gFc (ji := 6) rfl (congrArg Prod.fst (kl_2 im11)) (show mG m11 2 6 = 34 from rd_Solver_6 im11 (a := 2) rfl) ?_
      refine w_gK (congrArg Prod.fst (kl_34 im11)) ?_
      refine w_call (s_X7_count (by unfold isWS; omega) im11) ?_
      intro v21 m21 pp21
      obtain ⟨im21, kk21, e21_0, -⟩ := pp21
      try dsimp only
      replace im21 : I n m21 := im21
      replace kk21 : Keep n (W_X7_count 34) m11 m21 := kk21
      have km21 : Keep n W_X4_fewestQuestions M m21 := km11.tr kk21 (fun b j z => z.elim)
      replace e21_0 : 0 ≤ v21 ∧ v21 ≤ 8128 := e21_0
      refine w_if (fun c3_ => ?_) (fun c3_ => ?_)
      · skip
        refine w_gK (congrArg Prod.fst (kl_2 im21)) ?_
        refine w_call (s_X4_takeAsked im21) ?_
        intro v32 m32 pp32
        obtain ⟨im32, kk32, e32_0, -⟩ := pp32
        try dsimp only
        replace im32 : I n m32 := im32
        replace kk32 : Keep n W_X4_takeAsked m21 m32 := kk32
        have km32 : Keep n W_X4_fewestQuestions M m32 := km21.tr kk32 (fun b j z => by unfold W_X4_takeAsked at z; exact (Or.inr (Or.inr (Or.inr (Or.inl z)))))
        replace e32_0 : (-2147483648) ≤ v32 ∧ v32 ≤ 2147483647 := e32_0
        exact s_X4_fewestQuestions_38 FU _ _ _ ⟨by omega, by omega⟩ ⟨by omega, by omega⟩ (by show _ < (70000 : Int); omega) im32 km32
      · skip
        exact w_ret ⟨im21, km21, (show (-1) ≤ (-1) ∧ (-1) ≤ 4 from ⟨by omega, by omega⟩), trivial⟩
    · skip
      exact w_ret ⟨im11, km11, (show (-1) ≤ (-1) ∧ (-1) ≤ 4 from ⟨by omega, by omega⟩), trivial⟩
def W_X8_questions (b j : Int) : Prop := (21 ≤ b ∧ b ≤ 23) ∨ b = 33 ∨ b = 35 ∨ b = 46 ∨ isWS (b - 1) ∨ (b = 2 ∧ j = 4) ∨ (b = 20 ∧ j = 0) ∨ (b = 20 ∧ j = 1) ∨ (b = 20 ∧ j = 5) ∨ (b = 32 ∧ j = 1) ∨ (b = 32 ∧ j = 2) ∨ (b = 34 ∧ j = 1) ∨ (b = 34 ∧ j = 2) ∨ (isWS b ∧ j = 1) ∨ (isWS b ∧ j = 2)
theorem s_X8_questions {n : Nat} {M : Mem} (iM : I n M) : wp (mX8_questions 1 M) (fun q => I n q.2 ∧ Keep n W_X8_questions M q.2 ∧ ((-1) ≤ q.1 ∧ q.1 ≤ 4) ∧ True) := by
  have hn : (169 : Int) ≤ (n : Int) := by have := iM.2.2.2.2.1; omega
  have kM : Keep n W_X8_questions M M := Keep.rf
  unfold mX8_questions
  refine w_gFc (ji := 0) rfl (congrArg Prod.fst (kl_1 iM)) (show mG M 1 0 = 2 from rd_VS_0 iM (a := 1) rfl) ?_
  refine w_gK (congrArg Prod.fst (kl_2 iM)) ?_
  refine w_call (s_X4_fewestQuestions iM) ?_
  intro v4 m4 pp4
  obtain ⟨im4, kk4, e4_0, -⟩ := pp4
  try dsimp only
  replace im4 : I n m4 := im4
  replace kk4 : Keep n W_X4_fewestQuestions M m4 := kk4
  have km4 : Keep n W_X8_questions M m4 := kM.tr kk4 (fun b j z => Or.elim z (fun z => (Or.inl z)) (fun z => Or.elim z (fun z => (Or.inr (Or.inl z))) (fun z => Or.elim z (fun z => (Or.inr (Or.inr (Or.inl z)))) (fun z => Or.elim z (fun z => (Or.inr (Or.inr (Or.inr (Or.inl z))))) (fun z => Or.elim z (fun z => (Or.inr (Or.inr (Or.inr (Or.inr (Or.inl z)))))) (fun z => Or.elim z (fun z => (Or.inr (Or.inr (Or.inr (Or.inr (Or.inr (Or.inl z))))))) (fun z => Or.elim z (fun z => (Or.inr (Or.inr (Or.inr (Or.inr (Or.inr (Or.inr (Or.inl z)))))))) (fun z => Or.elim z (fun z => (Or.inr (Or.inr (Or.inr (Or.inr (Or.inr (Or.inr (Or.inr (Or.inl z))))))))) (fun z => Or.elim z (fun z => (Or.inr (Or.inr (Or.inr (Or.inr (Or.inr (Or.inr (Or.inr (Or.inr (Or.inl z)))))))))) (fun z => Or.elim z (fun z => (Or.inr (Or.inr (Or.inr (Or.inr (Or.inr (Or.inr (Or.inr (Or.inr (Or.inr (Or.inl z))))))))))) (fun z => Or.elim z (fun z => (Or.inr (Or.inr (Or.inr (Or.inr (Or.inr (Or.inr (Or.inr (Or.inr (Or.inr (Or.inr (Or.inl z)))))))))))) (fun z => Or.elim z (fun z => (Or.inr (Or.inr (Or.inr (Or.inr (Or.inr (Or.inr (Or.inr (Or.inr (Or.inr (Or.inr (Or.inr (Or.inl z))))))))))))) (fun z => Or.elim z (fun z => (Or.inr (Or.inr (Or.inr (Or.inr (Or.inr (Or.inr (Or.inr (Or.inr (Or.inr (Or.inr (Or.inr (Or.inr (Or.inl z)))))))))))))) (fun z => Or.elim z (fun z => (Or.inr (Or.inr (Or.inr (Or.inr (Or.inr (Or.inr (Or.inr (Or.inr (Or.inr (Or.inr (Or.inr (Or.inr (Or.inr (Or.inl z))))))))))))))) (fun z => (Or.inr (Or.inr (Or.inr (Or.inr (Or.inr (Or.inr (Or.inr (Or.inr (Or.inr (Or.inr (Or.inr (Or.inr (Or.inr (Or.inr z)))))))))))))))))))))))))))))
  replace e4_0 : (-1) ≤ v4 ∧ v4 ≤ 4 := e4_0
  exact w_ret ⟨im4, km4, (show (-1) ≤ v4 ∧ v4 ≤ 4 from ⟨by omega, by omega⟩), trivial⟩
def W_X4_greaterAt (b j : Int) : Prop := False
theorem s_X4_greaterAt {n : Nat} {l1 : Int} {M : Mem} (r_l1 : 0 ≤ l1 ∧ l1 ≤ 35) (iM : I n M) : wp (mX4_greaterAt 2 l1 M) (fun q => I n q.2 ∧ Keep n W_X4_greaterAt M q.2 ∧ (0 ≤ q.1 ∧ q.1 ≤ 8128) ∧ True) := by
  have hn : (169 : Int) ≤ (n : Int) := by have := iM.2.2.2.2.1; omega
  have kM : Keep n W_X4_greaterAt M M := Keep.rf
  unfold mX4_greaterAt
  refine w_gFc (ji := 6) rfl (congrArg Prod.fst (kl_2 iM)) (show mG M 2 6 = 34 from rd_Solver_6 iM (a := 2) rfl) ?_
  refine w_gFc (ji := 0) rfl (congrArg Prod.fst (kl_2 iM)) (show mG M 2 0 = 3 from rd_Solver_0 iM (a := 2) rfl) ?_
  refine w_gFc (ji := 0) rfl (congrArg Prod.fst (kl_3 iM)) (show mG M 3 0 = 4 from rd_Told_0 iM (a := 3) rfl) ?_
  refine w_gK (congrArg Prod.fst (kl_4 iM)) ?_
  refine w_call (s_X3_bit (by unfold isShape; omega) ⟨by omega, by omega⟩ iM) ?_
  intro v12 m12 pp12
  obtain ⟨im12, kk12, e12_0, -⟩ := pp12
  try dsimp only
  replace im12 : I n m12 := im12
  replace kk12 : Keep n (W_X3_bit 4) M m12 := kk12
  have km12 : Keep n W_X4_greaterAt M m12 := kM.tr kk12 (fun b j z => z.elim)
  replace e12_0 : (-36) ≤ v12 ∧ v12 ≤ 36 := e12_0
  refine w_gK (congrArg Prod.fst (kl_34 im12)) ?_
  refine w_call (s_X7_countWhere (by unfold isWS; omega) ⟨by omega, by omega⟩ im12) ?_
  intro v15 m15 pp15
  obtain ⟨im15, kk15, e15_0, -⟩ := pp15
  try dsimp only
  replace im15 : I n m15 := im15
  replace kk15 : Keep n (W_X7_countWhere 34) m12 m15 := kk15
  have km15 : Keep n W_X4_greaterAt M m15 := km12.tr kk15 (fun b j z => z.elim)
  replace e15_0 : 0 ≤ v15 ∧ v15 ≤ 8128 := e15_0
  refine w_gFc (ji := 6) rfl (congrArg Prod.fst (kl_2 im15)) (show mG m15 2 6 = 34 from rd_Solver_6 im15 (a := 2) rfl) ?_
  refine w_gK (congrArg Prod.fst (kl_34 im15)) ?_
  refine w_call (s_X7_count (by unfold isWS; omega) im15) ?_
  intro v24 m24 pp24
  obtain ⟨im24, kk24, e24_0, -⟩ := pp24
  try dsimp only
  replace im24 : I n m24 := im24
  replace kk24 : Keep n (W_X7_count 34) m15 m24 := kk24
  have km24 : Keep n W_X4_greaterAt M m24 := km15.tr kk24 (fun b j z => z.elim)
  replace e24_0 : 0 ≤ v24 ∧ v24 ≤ 8128 := e24_0
  have w1_ := wI_id (x := (v24 - v15)) (by omega) (by omega)
  obtain ⟨w2_e, w2_⟩ : ∃ z, (if v15 < (wI (v24 - v15)) then (wI (v24 - v15)) else v15) = z := ⟨_, rfl⟩
  have w2_x : (v15 < (wI (v24 - v15)) ∧ w2_e = (wI (v24 - v15))) ∨ (¬ v15 < (wI (v24 - v15)) ∧ w2_e = v15) := by rw [← w2_]; split <;> omega
  have w2_y : (if v15 < (wI (v24 - v15)) then (wI (v24 - v15)) else v15) = w2_e := w2_
  exact w_ret ⟨im24, km24, (show 0 ≤ (if v15 < (wI (v24 - v15)) then (wI (v24 - v15)) else v15) ∧ (if v15 < (wI (v24 - v15)) then (wI (v24 - v15)) else v15) ≤ 8128 from ⟨by omega, by omega⟩), trivial⟩
def W_X4_settlingPlace (b j : Int) : Prop := (21 ≤ b ∧ b ≤ 23) ∨ b = 33 ∨ b = 35 ∨ isWS (b - 1) ∨ (b = 2 ∧ j = 4) ∨ (b = 20 ∧ j = 0) ∨ (b = 20 ∧ j = 1) ∨ (b = 20 ∧ j = 5) ∨ (b = 32 ∧ j = 1) ∨ (b = 32 ∧ j = 2) ∨ (b = 34 ∧ j = 1) ∨ (b = 34 ∧ j = 2) ∨ (isWS b ∧ j = 1) ∨ (isWS b ∧ j = 2)
theorem s_X4_settlingPlace_57 {n : Nat} {Me : Mem} {k23 : Int → Int → Int → Mem → Option (Int × Mem)} {fu23 : Nat} (hk23 : ∀ (l1 l2 : Int) (M : Mem), ((-1) ≤ l1 ∧ l1 ≤ 35) → (0 ≤ l2 ∧ l2 ≤ 36) → 37 - l2 < (fu23 : Int) → I n M → Keep n W_X4_settlingPlace Me M → wp (k23 2 l1 l2 M) (fun q => I n q.2 ∧ Keep n W_X4_settlingPlace Me q.2 ∧ ((-1) ≤ q.1 ∧ q.1 ≤ 35) ∧ True)) {l1 l2 : Int} {M : Mem} (r_l1 : 0 ≤ l1 ∧ l1 ≤ 35) (r_l2 : 0 ≤ l2 ∧ l2 ≤ 35) (hf23 : 37 - l2 < (fu23 : Int) + 1) (iM : I n M) (kM : Keep n W_X4_settlingPlace Me M) : wp (mX4_settlingPlace_57 k23 2 l1 l2 M) (fun q => I n q.2 ∧ Keep n W_X4_settlingPlace Me q.2 ∧ ((-1) ≤ q.1 ∧ q.1 ≤ 35) ∧ True) := by
  have hn : (169 : Int) ≤ (n : Int) := by have := iM.2.2.2.2.1; omega
  unfold mX4_settlingPlace_57
  have w1_ := wI_id (x := (l2 + 1)) (by omega) (by omega)
  exact hk23 _ _ _ ⟨by omega, by omega⟩ ⟨by omega, by omega⟩ (by omega) iM kM
theorem s_X4_settlingPlace_55 {n : Nat} {Me : Mem} {k23 : Int → Int → Int → Mem → Option (Int × Mem)} {fu23 : Nat} (hk23 : ∀ (l1 l2 : Int) (M : Mem), ((-1) ≤ l1 ∧ l1 ≤ 35) → (0 ≤ l2 ∧ l2 ≤ 36) → 37 - l2 < (fu23 : Int) → I n M → Keep n W_X4_settlingPlace Me M → wp (k23 2 l1 l2 M) (fun q => I n q.2 ∧ Keep n W_X4_settlingPlace Me q.2 ∧ ((-1) ≤ q.1 ∧ q.1 ≤ 35) ∧ True)) {l2 : Int} {M : Mem} (r_l2 : 0 ≤ l2 ∧ l2 ≤ 35) (hf23 : 37 - l2 < (fu23 : Int) + 1) (iM : I n M) (kM : Keep n W_X4_settlingPlace Me M) : wp (mX4_settlingPlace_55 k23 2 l2 M) (fun q => I n q.2 ∧ Keep n W_X4_settlingPlace Me q.2 ∧ ((-1) ≤ q.1 ∧ q.1 ≤ 35) ∧ True) := by
  have hn : (169 : Int) ≤ (n : Int) := by have := iM.2.2.2.2.1; omega
  unfold mX4_settlingPlace_55
  exact s_X4_settlingPlace_57 hk23 ⟨by omega, by omega⟩ ⟨by omega, by omega⟩ (by omega) iM kM
theorem sb_X4_settlingPlace_23 {n : Nat} {Me : Mem} {k23 : Int → Int → Int → Mem → Option (Int × Mem)} {fu23 : Nat} (hk23 : ∀ (l1 l2 : Int) (M : Mem), ((-1) ≤ l1 ∧ l1 ≤ 35) → (0 ≤ l2 ∧ l2 ≤ 36) → 37 - l2 < (fu23 : Int) → I n M → Keep n W_X4_settlingPlace Me M → wp (k23 2 l1 l2 M) (fun q => I n q.2 ∧ Keep n W_X4_settlingPlace Me q.2 ∧ ((-1) ≤ q.1 ∧ q.1 ≤ 35) ∧ True)) {l1 l2 : Int} {M : Mem} (r_l1 : (-1) ≤ l1 ∧ l1 ≤ 35) (r_l2 : 0 ≤ l2 ∧ l2 ≤ 36) (hf23 : 37 - l2 < (fu23 : Int) + 1) (iM : I n M) (kM : Keep n W_X4_settlingPlace Me M) : wp (bX4_settlingPlace_23 k23 2 l1 l2 M) (fun q => I n q.2 ∧ Keep n W_X4_settlingPlace Me q.2 ∧ ((-1) ≤ q.1 ∧ q.1 ≤ 35) ∧ True) := by
  have hn : (169 : Int) ≤ (n : Int) := by have := iM.2.2.2.2.1; omega
  unfold bX4_settlingPlace_23
  refine w_gFc (ji := 0) rfl (congrArg Prod.fst (kl_2 iM)) (show mG M 2 0 = 3 from rd_Solver_0 iM (a := 2) rfl) ?_
  refine w_gFc (ji := 0) rfl (congrArg Prod.fst (kl_3 iM)) (show mG M 3 0 = 4 from rd_Told_0 iM (a := 3) rfl) ?_
  refine w_gF (ji := 7) rfl (congrArg Prod.fst (kl_4 iM)) (fun a31 ha31 => ?_)
  have ra31 : 0 ≤ a31 ∧ a31 ≤ 36 := ha31.tr (P := fun z => 0 ≤ z ∧ z ≤ 36) (rd_Shape_7 iM rfl)
  refine w_if (fun c1_ => ?_) (fun c1_ => ?_)
  · skip
    exact w_ret ⟨iM, kM, (show (-1) ≤ l1 ∧ l1 ≤ 35 from ⟨by omega, by omega⟩), trivial⟩
  · skip
    refine w_if (fun c2_ => ?_) (fun c2_ => ?_)
    · skip
      exact s_X4_settlingPlace_55 hk23 ⟨by omega, by omega⟩ (by omega) iM kM
    · skip
      refine w_gK (congrArg Prod.fst (kl_2 iM)) ?_
      refine w_call (s_X4_greaterAt ⟨by omega, by omega⟩ iM) ?_
      intro v44 m44 pp44
      obtain ⟨im44, kk44, e44_0, -⟩ := pp44
      try dsimp only
      replace im44 : I n m44 := im44
      replace kk44 : Keep n W_X4_greaterAt M m44 := kk44
      have km44 : Keep n W_X4_settlingPlace Me m44 := kM.tr kk44 (fun b j z => z.elim)
      replace e44_0 : 0 ≤ v44 ∧ v44 ≤ 8128 := e44_0
      refine w_gK (congrArg Prod.fst (kl_2 im44)) ?_
      refine w_call (s_X4_greaterAt ⟨by omega, by omega⟩ im44) ?_
      intro v49 m49 pp49
      obtain ⟨im49, kk49, e49_0, -⟩ := pp49
      try dsimp only
      replace im49 : I n m49 := im49
      replace kk49 : Keep n W_X4_greaterAt m44 m49 := kk49
      have km49 : Keep n W_X4_settlingPlace Me m49 := km44.tr kk49 (fun b j z => z.elim)
      replace e49_0 : 0 ≤ v49 ∧ v49 ≤ 8128 := e49_0
      refine w_if (fun c3_ => ?_) (fun c3_ => ?_)
      · skip
        exact s_X4_settlingPlace_57 hk23 ⟨by omega, by omega⟩ ⟨by omega, by omega⟩ (by omega) im49 km49
      · skip
        exact s_X4_settlingPlace_55 hk23 ⟨by omega, by omega⟩ (by omega) im49 km49
theorem s_X4_settlingPlace_23 {n : Nat} {Me : Mem} : ∀ (fu : Nat) (l1 l2 : Int) (M : Mem), ((-1) ≤ l1 ∧ l1 ≤ 35) → (0 ≤ l2 ∧ l2 ≤ 36) → 37 - l2 < (fu : Int) → I n M → Keep n W_X4_settlingPlace Me M → wp (mX4_settlingPlace_23 fu 2 l1 l2 M) (fun q => I n q.2 ∧ Keep n W_X4_settlingPlace Me q.2 ∧ ((-1) ≤ q.1 ∧ q.1 ≤ 35) ∧ True) := by
  intro fu
  induction fu with
  | zero =>
    intro l1 l2 M r_l1 r_l2 hf iM kM
    exfalso
    omega
  | succ fu ih =>
    intro l1 l2 M r_l1 r_l2 hf iM kM
    exact sb_X4_settlingPlace_23 ih r_l1 r_l2 (by have e : ((fu + 1 : Nat) : Int) = (fu : Int) + 1 := rfl; rw [e] at hf; exact hf) iM kM
theorem s_X4_settlingPlace {n : Nat} {M : Mem} (iM : I n M) : wp (mX4_settlingPlace 2 M) (fun q => I n q.2 ∧ Keep n W_X4_settlingPlace M q.2 ∧ ((-1) ≤ q.1 ∧ q.1 ≤ 35) ∧ True) := by
  have hn : (169 : Int) ≤ (n : Int) := by have := iM.2.2.2.2.1; omega
  have kM : Keep n W_X4_settlingPlace M M := Keep.rf
  unfold mX4_settlingPlace
  refine w_gK (congrArg Prod.fst (kl_2 iM)) ?_
  refine w_call (s_X4_lookUp iM) ?_
  intro v1 m1 pp1
  obtain ⟨im1, kk1, e1_0, -⟩ := pp1
  try dsimp only
  replace im1 : I n m1 := im1
  replace kk1 : Keep n W_X4_lookUp M m1 := kk1
  have km1 : Keep n W_X4_settlingPlace M m1 := kM.tr kk1 (fun b j z => Or.elim z (fun z => (Or.inl z)) (fun z => Or.elim z (fun z => (Or.inr (Or.inl z))) (fun z => Or.elim z (fun z => (Or.inr (Or.inr (Or.inl z)))) (fun z => Or.elim z (fun z => (Or.inr (Or.inr (Or.inr (Or.inl z))))) (fun z => Or.elim z (fun z => (Or.inr (Or.inr (Or.inr (Or.inr (Or.inl z)))))) (fun z => Or.elim z (fun z => (Or.inr (Or.inr (Or.inr (Or.inr (Or.inr (Or.inl z))))))) (fun z => Or.elim z (fun z => (Or.inr (Or.inr (Or.inr (Or.inr (Or.inr (Or.inr (Or.inl z)))))))) (fun z => Or.elim z (fun z => (Or.inr (Or.inr (Or.inr (Or.inr (Or.inr (Or.inr (Or.inr (Or.inl z))))))))) (fun z => Or.elim z (fun z => (Or.inr (Or.inr (Or.inr (Or.inr (Or.inr (Or.inr (Or.inr (Or.inr (Or.inl z)))))))))) (fun z => Or.elim z (fun z => (Or.inr (Or.inr (Or.inr (Or.inr (Or.inr (Or.inr (Or.inr (Or.inr (Or.inr (Or.inl z))))))))))) (fun z => Or.elim z (fun z => (Or.inr (Or.inr (Or.inr (Or.inr (Or.inr (Or.inr (Or.inr (Or.inr (Or.inr (Or.inr (Or.inl z)))))))))))) (fun z => Or.elim z (fun z => (Or.inr (Or.inr (Or.inr (Or.inr (Or.inr (Or.inr (Or.inr (Or.inr (Or.inr (Or.inr (Or.inr (Or.inl z))))))))))))) (fun z => Or.elim z (fun z => (Or.inr (Or.inr (Or.inr (Or.inr (Or.inr (Or.inr (Or.inr (Or.inr (Or.inr (Or.inr (Or.inr (Or.inr (Or.inl z)))))))))))))) (fun z => (Or.inr (Or.inr (Or.inr (Or.inr (Or.inr (Or.inr (Or.inr (Or.inr (Or.inr (Or.inr (Or.inr (Or.inr (Or.inr z)))))))))))))))))))))))))))
  replace e1_0 : 0 ≤ v1 ∧ v1 ≤ 1 := e1_0
  refine w_if (fun c1_ => ?_) (fun c1_ => ?_)
  · skip
    exact w_ret ⟨im1, km1, (show (-1) ≤ (-1) ∧ (-1) ≤ 35 from ⟨by omega, by omega⟩), trivial⟩
  · skip
    refine w_gFc (ji := 6) rfl (congrArg Prod.fst (kl_2 im1)) (show mG m1 2 6 = 34 from rd_Solver_6 im1 (a := 2) rfl) ?_
    refine w_gK (congrArg Prod.fst (kl_34 im1)) ?_
    refine w_call (s_X7_isNothing (by unfold isWS; omega) im1) ?_
    intro v11 m11 pp11
    obtain ⟨im11, kk11, e11_0, -⟩ := pp11
    try dsimp only
    replace im11 : I n m11 := im11
    replace kk11 : Keep n (W_X7_isNothing 34) m1 m11 := kk11
    have km11 : Keep n W_X4_settlingPlace M m11 := km1.tr kk11 (fun b j z => z.elim)
    replace e11_0 : 0 ≤ v11 ∧ v11 ≤ 1 := e11_0
    refine w_if (fun c2_ => ?_) (fun c2_ => ?_)
    · skip
      exact s_X4_settlingPlace_23 FU _ _ _ ⟨by omega, by omega⟩ ⟨by omega, by omega⟩ (by show _ < (70000 : Int); omega) im11 km11
    · skip
      exact w_ret ⟨im11, km11, (show (-1) ≤ (-1) ∧ (-1) ≤ 35 from ⟨by omega, by omega⟩), trivial⟩
def W_X3_relationAt (l0 : Int) (b j : Int) : Prop := False
theorem s_X3_relationAt_24 {n : Nat} {Me : Mem} {l0 : Int} (h_l0 : isShape l0) {k4 : Int → Int → Int → Int → Mem → Option (Int × Mem)} {fu4 : Nat} (hk4 : ∀ (l1 l2 l3 : Int) (M : Mem), (0 ≤ l1 ∧ l1 ≤ 35) → ((-1) ≤ l2 ∧ l2 ≤ 3) → (0 ≤ l3 ∧ l3 ≤ 4) → 5 - l3 < (fu4 : Int) → I n M → Keep n (W_X3_relationAt l0) Me M → wp (k4 l0 l1 l2 l3 M) (fun q => I n q.2 ∧ Keep n (W_X3_relationAt l0) Me q.2 ∧ ((-1) ≤ q.1 ∧ q.1 ≤ 3) ∧ True)) {l1 l2 l3 : Int} {M : Mem} (r_l1 : 0 ≤ l1 ∧ l1 ≤ 35) (r_l2 : (-1) ≤ l2 ∧ l2 ≤ 3) (r_l3 : 0 ≤ l3 ∧ l3 ≤ 3) (hf4 : 5 - l3 < (fu4 : Int) + 1) (iM : I n M) (kM : Keep n (W_X3_relationAt l0) Me M) : wp (mX3_relationAt_24 k4 l0 l1 l2 l3 M) (fun q => I n q.2 ∧ Keep n (W_X3_relationAt l0) Me q.2 ∧ ((-1) ≤ q.1 ∧ q.1 ≤ 3) ∧ True) := by
  have hn : (169 : Int) ≤ (n : Int) := by have := iM.2.2.2.2.1; omega
  have u_l0 := h_l0
  unfold isShape at u_l0
  unfold mX3_relationAt_24
  have w1_ := wI_id (x := (l3 + 1)) (by omega) (by omega)
  exact hk4 _ _ _ _ ⟨by omega, by omega⟩ ⟨by omega, by omega⟩ ⟨by omega, by omega⟩ (by omega) iM kM
theorem sb_X3_relationAt_4 {n : Nat} {Me : Mem} {l0 : Int} (h_l0 : isShape l0) {k4 : Int → Int → Int → Int → Mem → Option (Int × Mem)} {fu4 : Nat} (hk4 : ∀ (l1 l2 l3 : Int) (M : Mem), (0 ≤ l1 ∧ l1 ≤ 35) → ((-1) ≤ l2 ∧ l2 ≤ 3) → (0 ≤ l3 ∧ l3 ≤ 4) → 5 - l3 < (fu4 : Int) → I n M → Keep n (W_X3_relationAt l0) Me M → wp (k4 l0 l1 l2 l3 M) (fun q => I n q.2 ∧ Keep n (W_X3_relationAt l0) Me q.2 ∧ ((-1) ≤ q.1 ∧ q.1 ≤ 3) ∧ True)) {l1 l2 l3 : Int} {M : Mem} (r_l1 : 0 ≤ l1 ∧ l1 ≤ 35) (r_l2 : (-1) ≤ l2 ∧ l2 ≤ 3) (r_l3 : 0 ≤ l3 ∧ l3 ≤ 4) (hf4 : 5 - l3 < (fu4 : Int) + 1) (iM : I n M) (kM : Keep n (W_X3_relationAt l0) Me M) : wp (bX3_relationAt_4 k4 l0 l1 l2 l3 M) (fun q => I n q.2 ∧ Keep n (W_X3_relationAt l0) Me q.2 ∧ ((-1) ≤ q.1 ∧ q.1 ≤ 3) ∧ True) := by
  have hn : (169 : Int) ≤ (n : Int) := by have := iM.2.2.2.2.1; omega
  have u_l0 := h_l0
  unfold isShape at u_l0
  unfold bX3_relationAt_4
  refine w_gF (ji := 6) rfl (congrArg Prod.fst (k_Shape iM h_l0)) (fun a6 ha6 => ?_)
  have ra6 : 0 ≤ a6 ∧ a6 ≤ 4 := ha6.tr (P := fun z => 0 ≤ z ∧ z ≤ 4) (rd_Shape_6 iM (f_Shape h_l0))
  refine w_if (fun c1_ => ?_) (fun c1_ => ?_)
  · skip
    exact w_ret ⟨iM, kM, (show (-1) ≤ l2 ∧ l2 ≤ 3 from ⟨by omega, by omega⟩), trivial⟩
  · skip
    refine w_gFc (ji := 3) rfl (congrArg Prod.fst (k_Shape iM h_l0)) (show mG M l0 3 = (l0 + 4) from rd_Shape_3 iM (a := l0) (f_Shape h_l0)) ?_
    refine w_aG (k_Sstart iM h_l0) (by omega) (by omega) (fun a17 ha17 => ?_)
    have ra17 : 0 ≤ a17 ∧ a17 ≤ 9 * l3 := ha17.tr (P := fun z => 0 ≤ z ∧ z ≤ 9 * l3) (rd_Sstart iM (f_Sstart h_l0) (by omega) (by omega))
    refine w_if (fun c2_ => ?_) (fun c2_ => ?_)
    · skip
      exact s_X3_relationAt_24 h_l0 hk4 ⟨by omega, by omega⟩ ⟨by omega, by omega⟩ ⟨by omega, by omega⟩ (by omega) iM kM
    · skip
      exact s_X3_relationAt_24 h_l0 hk4 ⟨by omega, by omega⟩ ⟨by omega, by omega⟩ ⟨by omega, by omega⟩ (by omega) iM kM
theorem s_X3_relationAt_4 {n : Nat} {Me : Mem} {l0 : Int} (h_l0 : isShape l0) : ∀ (fu : Nat) (l1 l2 l3 : Int) (M : Mem), (0 ≤ l1 ∧ l1 ≤ 35) → ((-1) ≤ l2 ∧ l2 ≤ 3) → (0 ≤ l3 ∧ l3 ≤ 4) → 5 - l3 < (fu : Int) → I n M → Keep n (W_X3_relationAt l0) Me M → wp (mX3_relationAt_4 fu l0 l1 l2 l3 M) (fun q => I n q.2 ∧ Keep n (W_X3_relationAt l0) Me q.2 ∧ ((-1) ≤ q.1 ∧ q.1 ≤ 3) ∧ True) := by
  intro fu
  induction fu with
  | zero =>
    intro l1 l2 l3 M r_l1 r_l2 r_l3 hf iM kM
    exfalso
    omega
  | succ fu ih =>
    intro l1 l2 l3 M r_l1 r_l2 r_l3 hf iM kM
    exact sb_X3_relationAt_4 h_l0 ih r_l1 r_l2 r_l3 (by have e : ((fu + 1 : Nat) : Int) = (fu : Int) + 1 := rfl; rw [e] at hf; exact hf) iM kM
theorem s_X3_relationAt {n : Nat} {l0 l1 : Int} {M : Mem} (h_l0 : isShape l0) (r_l1 : 0 ≤ l1 ∧ l1 ≤ 35) (iM : I n M) : wp (mX3_relationAt l0 l1 M) (fun q => I n q.2 ∧ Keep n (W_X3_relationAt l0) M q.2 ∧ ((-1) ≤ q.1 ∧ q.1 ≤ 3) ∧ True) := by
  have hn : (169 : Int) ≤ (n : Int) := by have := iM.2.2.2.2.1; omega
  have kM : Keep n (W_X3_relationAt l0) M M := Keep.rf
  have u_l0 := h_l0
  unfold isShape at u_l0
  unfold mX3_relationAt
  exact s_X3_relationAt_4 h_l0 FU _ _ _ _ ⟨by omega, by omega⟩ ⟨by omega, by omega⟩ ⟨by omega, by omega⟩ (by show _ < (70000 : Int); omega) iM kM
def W_X3_firstAt (l0 : Int) (b j : Int) : Prop := False
theorem sb_X3_firstAt_12 {n : Nat} {Me : Mem} {l0 : Int} (h_l0 : isShape l0) {k12 : Int → Int → Int → Int → Mem → Option (Int × Mem)} {fu12 : Nat} (hk12 : ∀ (l1 l2 l3 : Int) (M : Mem), (0 ≤ l1 ∧ l1 ≤ 3) → (0 ≤ l2 ∧ l2 ≤ 35) → (0 ≤ l3 ∧ l3 ≤ 3) → 4 - l3 < (fu12 : Int) → I n M → Keep n (W_X3_firstAt l0) Me M → wp (k12 l0 l1 l2 l3 M) (fun q => I n q.2 ∧ Keep n (W_X3_firstAt l0) Me q.2 ∧ ((-1) ≤ q.1 ∧ q.1 ≤ 2) ∧ True)) {l1 l2 l3 : Int} {M : Mem} (r_l1 : 0 ≤ l1 ∧ l1 ≤ 3) (r_l2 : 0 ≤ l2 ∧ l2 ≤ 35) (r_l3 : 0 ≤ l3 ∧ l3 ≤ 3) (hf12 : 4 - l3 < (fu12 : Int) + 1) (iM : I n M) (kM : Keep n (W_X3_firstAt l0) Me M) : wp (bX3_firstAt_12 k12 l0 l1 l2 l3 M) (fun q => I n q.2 ∧ Keep n (W_X3_firstAt l0) Me q.2 ∧ ((-1) ≤ q.1 ∧ q.1 ≤ 2) ∧ True) := by
  have hn : (169 : Int) ≤ (n : Int) := by have := iM.2.2.2.2.1; omega
  have u_l0 := h_l0
  unfold isShape at u_l0
  unfold bX3_firstAt_12
  refine w_gFc (ji := 4) rfl (congrArg Prod.fst (k_Shape iM h_l0)) (show mG M l0 4 = (l0 + 5) from rd_Shape_4 iM (a := l0) (f_Shape h_l0)) ?_
  refine w_aG (k_Sheight iM h_l0) (by omega) (by omega) (fun a18 ha18 => ?_)
  have ra18 : 0 ≤ a18 ∧ a18 ≤ 3 := ha18.tr (P := fun z => 0 ≤ z ∧ z ≤ 3) (rd_Sheight iM (f_Sheight h_l0))
  refine w_if (fun c1_ => ?_) (fun c1_ => ?_)
  · skip
    exact w_ret ⟨iM, kM, (show (-1) ≤ (-1) ∧ (-1) ≤ 2 from ⟨by omega, by omega⟩), trivial⟩
  · skip
    refine w_gFc (ji := 3) rfl (congrArg Prod.fst (k_Shape iM h_l0)) (show mG M l0 3 = (l0 + 4) from rd_Shape_3 iM (a := l0) (f_Shape h_l0)) ?_
    refine w_aG (k_Sstart iM h_l0) (by omega) (by omega) (fun a28 ha28 => ?_)
    have ra28 : 0 ≤ a28 ∧ a28 ≤ 9 * l1 := ha28.tr (P := fun z => 0 ≤ z ∧ z ≤ 9 * l1) (rd_Sstart iM (f_Sstart h_l0) (by omega) (by omega))
    refine w_gFc (ji := 5) rfl (congrArg Prod.fst (k_Shape iM h_l0)) (show mG M l0 5 = (l0 + 6) from rd_Shape_5 iM (a := l0) (f_Shape h_l0)) ?_
    refine w_aG (k_Swidth iM h_l0) (by omega) (by omega) (fun a37 ha37 => ?_)
    have ra37 : 0 ≤ a37 ∧ a37 ≤ 3 := ha37.tr (P := fun z => 0 ≤ z ∧ z ≤ 3) (rd_Swidth iM (f_Swidth h_l0))
    have w2_ := wI_id (x := (l3 + 1)) (by omega) (by omega)
    have w3_ := mul_b (x := wI (l3 + 1)) (y := a37) (a := 3) (b := 3) (by omega) (by omega) (by omega) (by omega)
    have w4_ := wI_id (x := ((wI (l3 + 1)) * a37)) (by omega) (by omega)
    have w5_ := wI_id (x := (a28 + (wI ((wI (l3 + 1)) * a37)))) (by omega) (by omega)
    refine w_if (fun c6_ => ?_) (fun c6_ => ?_)
    · skip
      exact hk12 _ _ _ _ ⟨by omega, by omega⟩ ⟨by omega, by omega⟩ ⟨by omega, by omega⟩ (by omega) iM kM
    · skip
      exact w_ret ⟨iM, kM, (show (-1) ≤ l3 ∧ l3 ≤ 2 from ⟨by omega, by omega⟩), trivial⟩
theorem s_X3_firstAt_12 {n : Nat} {Me : Mem} {l0 : Int} (h_l0 : isShape l0) : ∀ (fu : Nat) (l1 l2 l3 : Int) (M : Mem), (0 ≤ l1 ∧ l1 ≤ 3) → (0 ≤ l2 ∧ l2 ≤ 35) → (0 ≤ l3 ∧ l3 ≤ 3) → 4 - l3 < (fu : Int) → I n M → Keep n (W_X3_firstAt l0) Me M → wp (mX3_firstAt_12 fu l0 l1 l2 l3 M) (fun q => I n q.2 ∧ Keep n (W_X3_firstAt l0) Me q.2 ∧ ((-1) ≤ q.1 ∧ q.1 ≤ 2) ∧ True) := by
  intro fu
  induction fu with
  | zero =>
    intro l1 l2 l3 M r_l1 r_l2 r_l3 hf iM kM
    exfalso
    omega
  | succ fu ih =>
    intro l1 l2 l3 M r_l1 r_l2 r_l3 hf iM kM
    exact sb_X3_firstAt_12 h_l0 ih r_l1 r_l2 r_l3 (by have e : ((fu + 1 : Nat) : Int) = (fu : Int) + 1 := rfl; rw [e] at hf; exact hf) iM kM
theorem s_X3_firstAt {n : Nat} {l0 l1 l2 : Int} {M : Mem} (h_l0 : isShape l0) (r_l1 : (-1) ≤ l1 ∧ l1 ≤ 3) (r_l2 : 0 ≤ l2 ∧ l2 ≤ 35) (iM : I n M) : wp (mX3_firstAt l0 l1 l2 M) (fun q => I n q.2 ∧ Keep n (W_X3_firstAt l0) M q.2 ∧ ((-1) ≤ q.1 ∧ q.1 ≤ 2) ∧ True) := by
  have hn : (169 : Int) ≤ (n : Int) := by have := iM.2.2.2.2.1; omega
  have kM : Keep n (W_X3_firstAt l0) M M := Keep.rf
  have u_l0 := h_l0
  unfold isShape at u_l0
  unfold mX3_firstAt
  refine w_gK (congrArg Prod.fst (k_Shape iM h_l0)) ?_
  refine w_call (s_X3_hasRelation h_l0 ⟨by omega, by omega⟩ iM) ?_
  intro v2 m2 pp2
  obtain ⟨im2, kk2, e2_0, e2_1, -⟩ := pp2
  try dsimp only
  replace im2 : I n m2 := im2
  replace kk2 : Keep n (W_X3_hasRelation l0) M m2 := kk2
  have km2 : Keep n (W_X3_firstAt l0) M m2 := kM.tr kk2 (fun b j z => z.elim)
  replace e2_0 : 0 ≤ v2 ∧ v2 ≤ 1 := e2_0
  replace e2_1 : v2 = 1 → 0 ≤ l1 ∧ l1 ≤ 3 := e2_1
  refine w_if (fun c1_ => ?_) (fun c1_ => ?_)
  · skip
    exact w_ret ⟨im2, km2, (show (-1) ≤ (-1) ∧ (-1) ≤ 2 from ⟨by omega, by omega⟩), trivial⟩
  · skip
    exact s_X3_firstAt_12 h_l0 FU _ _ _ _ ⟨by omega, by omega⟩ ⟨by omega, by omega⟩ ⟨by omega, by omega⟩ (by show _ < (70000 : Int); omega) im2 km2
def W_X3_secondAt (l0 : Int) (b j : Int) : Prop := False
theorem s_X3_secondAt {n : Nat} {l0 l1 l2 : Int} {M : Mem} (h_l0 : isShape l0) (r_l1 : (-1) ≤ l1 ∧ l1 ≤ 3) (r_l2 : 0 ≤ l2 ∧ l2 ≤ 35) (iM : I n M) : wp (mX3_secondAt l0 l1 l2 M) (fun q => I n q.2 ∧ Keep n (W_X3_secondAt l0) M q.2 ∧ ((-33) ≤ q.1 ∧ q.1 ≤ 38) ∧ True) := by
  have hn : (169 : Int) ≤ (n : Int) := by have := iM.2.2.2.2.1; omega
  have kM : Keep n (W_X3_secondAt l0) M M := Keep.rf
  have u_l0 := h_l0
  unfold isShape at u_l0
  unfold mX3_secondAt
  refine w_gK (congrArg Prod.fst (k_Shape iM h_l0)) ?_
  refine w_call (s_X3_isOfTwo h_l0 ⟨by omega, by omega⟩ iM) ?_
  intro v2 m2 pp2
  obtain ⟨im2, kk2, e2_0, e2_1, -⟩ := pp2
  try dsimp only
  replace im2 : I n m2 := im2
  replace kk2 : Keep n (W_X3_isOfTwo l0) M m2 := kk2
  have km2 : Keep n (W_X3_secondAt l0) M m2 := kM.tr kk2 (fun b j z => z.elim)
  replace e2_0 : 0 ≤ v2 ∧ v2 ≤ 1 := e2_0
  replace e2_1 : v2 = 1 → 0 ≤ l1 ∧ l1 ≤ 3 := e2_1
  refine w_if (fun c1_ => ?_) (fun c1_ => ?_)
  · skip
    exact w_ret ⟨im2, km2, (show (-33) ≤ (-1) ∧ (-1) ≤ 38 from ⟨by omega, by omega⟩), trivial⟩
  · skip
    refine w_gFc (ji := 3) rfl (congrArg Prod.fst (k_Shape im2 h_l0)) (show mG m2 l0 3 = (l0 + 4) from rd_Shape_3 im2 (a := l0) (f_Shape h_l0)) ?_
    refine w_aG (k_Sstart im2 h_l0) (by omega) (by omega) (fun a16 ha16 => ?_)
    have ra16 : 0 ≤ a16 ∧ a16 ≤ 9 * l1 := ha16.tr (P := fun z => 0 ≤ z ∧ z ≤ 9 * l1) (rd_Sstart im2 (f_Sstart h_l0) (by omega) (by omega))
    refine w_gK (congrArg Prod.fst (k_Shape im2 h_l0)) ?_
    refine w_call (s_X3_firstAt h_l0 ⟨by omega, by omega⟩ ⟨by omega, by omega⟩ im2) ?_
    intro v21 m21 pp21
    obtain ⟨im21, kk21, e21_0, -⟩ := pp21
    try dsimp only
    replace im21 : I n m21 := im21
    replace kk21 : Keep n (W_X3_firstAt l0) m2 m21 := kk21
    have km21 : Keep n (W_X3_secondAt l0) M m21 := km2.tr kk21 (fun b j z => z.elim)
    replace e21_0 : (-1) ≤ v21 ∧ v21 ≤ 2 := e21_0
    refine w_gFc (ji := 5) rfl (congrArg Prod.fst (k_Shape im21 h_l0)) (show mG m21 l0 5 = (l0 + 6) from rd_Shape_5 im21 (a := l0) (f_Shape h_l0)) ?_
    refine w_aG (k_Swidth im21 h_l0) (by omega) (by omega) (fun a29 ha29 => ?_)
    have ra29 : 0 ≤ a29 ∧ a29 ≤ 3 := ha29.tr (P := fun z => 0 ≤ z ∧ z ≤ 3) (rd_Swidth im21 (f_Swidth h_l0))
    have w2_ := wI_id (x := (l2 - a16)) (by omega) (by omega)
    have w3_ := mul_s (x := v21) (y := a29) (a0 := (-1)) (a1 := 2) (b := 3) (by omega) (by omega) (by omega) (by omega) (by decide) (by decide)
    have w4_ := wI_id (x := (v21 * a29)) (by omega) (by omega)
    have w5_ := wI_id (x := ((wI (l2 - a16)) - (wI (v21 * a29)))) (by omega) (by omega)
    exact w_ret ⟨im21, km21, (show (-33) ≤ (wI ((wI (l2 - a16)) - (wI (v21 * a29)))) ∧ (wI ((wI (l2 - a16)) - (wI (v21 * a29)))) ≤ 38 from ⟨by omega, by omega⟩), trivial⟩
def W_X8_settle (b j : Int) : Prop := (21 ≤ b ∧ b ≤ 23) ∨ b = 33 ∨ b = 35 ∨ isWS (b - 1) ∨ (b = 2 ∧ j = 4) ∨ (b = 20 ∧ j = 0) ∨ (b = 20 ∧ j = 1) ∨ (b = 20 ∧ j = 5) ∨ (b = 32 ∧ j = 1) ∨ (b = 32 ∧ j = 2) ∨ (b = 34 ∧ j = 1) ∨ (b = 34 ∧ j = 2) ∨ (isWS b ∧ j = 1) ∨ (isWS b ∧ j = 2)
theorem s_X8_settle {n : Nat} {l1 : Int} {M : Mem} (r_l1 : (-2147483648) ≤ l1 ∧ l1 ≤ 2147483647) (iM : I n M) : wp (mX8_settle 1 l1 M) (fun q => I n q.2 ∧ Keep n W_X8_settle M q.2 ∧ ((-33) ≤ q.1 ∧ q.1 ≤ 8128) ∧ True) := by
  have hn : (169 : Int) ≤ (n : Int) := by have := iM.2.2.2.2.1; omega
  have kM : Keep n W_X8_settle M M := Keep.rf
  unfold mX8_settle
  refine w_gFc (ji := 0) rfl (congrArg Prod.fst (kl_1 iM)) (show mG M 1 0 = 2 from rd_VS_0 iM (a := 1) rfl) ?_
  refine w_gK (congrArg Prod.fst (kl_2 iM)) ?_
  refine w_call (s_X4_settlingPlace iM) ?_
  intro v4 m4 pp4
  obtain ⟨im4, kk4, e4_0, -⟩ := pp4
  try dsimp only
  replace im4 : I n m4 := im4
  replace kk4 : Keep n W_X4_settlingPlace M m4 := kk4
  have km4 : Keep n W_X8_settle M m4 := kM.tr kk4 (fun b j z => Or.elim z (fun z => (Or.inl z)) (fun z => Or.elim z (fun z => (Or.inr (Or.inl z))) (fun z => Or.elim z (fun z => (Or.inr (Or.inr (Or.inl z)))) (fun z => Or.elim z (fun z => (Or.inr (Or.inr (Or.inr (Or.inl z))))) (fun z => Or.elim z (fun z => (Or.inr (Or.inr (Or.inr (Or.inr (Or.inl z)))))) (fun z => Or.elim z (fun z => (Or.inr (Or.inr (Or.inr (Or.inr (Or.inr (Or.inl z))))))) (fun z => Or.elim z (fun z => (Or.inr (Or.inr (Or.inr (Or.inr (Or.inr (Or.inr (Or.inl z)))))))) (fun z => Or.elim z (fun z => (Or.inr (Or.inr (Or.inr (Or.inr (Or.inr (Or.inr (Or.inr (Or.inl z))))))))) (fun z => Or.elim z (fun z => (Or.inr (Or.inr (Or.inr (Or.inr (Or.inr (Or.inr (Or.inr (Or.inr (Or.inl z)))))))))) (fun z => Or.elim z (fun z => (Or.inr (Or.inr (Or.inr (Or.inr (Or.inr (Or.inr (Or.inr (Or.inr (Or.inr (Or.inl z))))))))))) (fun z => Or.elim z (fun z => (Or.inr (Or.inr (Or.inr (Or.inr (Or.inr (Or.inr (Or.inr (Or.inr (Or.inr (Or.inr (Or.inl z)))))))))))) (fun z => Or.elim z (fun z => (Or.inr (Or.inr (Or.inr (Or.inr (Or.inr (Or.inr (Or.inr (Or.inr (Or.inr (Or.inr (Or.inr (Or.inl z))))))))))))) (fun z => Or.elim z (fun z => (Or.inr (Or.inr (Or.inr (Or.inr (Or.inr (Or.inr (Or.inr (Or.inr (Or.inr (Or.inr (Or.inr (Or.inr (Or.inl z)))))))))))))) (fun z => (Or.inr (Or.inr (Or.inr (Or.inr (Or.inr (Or.inr (Or.inr (Or.inr (Or.inr (Or.inr (Or.inr (Or.inr (Or.inr z)))))))))))))))))))))))))))
  replace e4_0 : (-1) ≤ v4 ∧ v4 ≤ 35 := e4_0
  refine w_if (fun c1_ => ?_) (fun c1_ => ?_)
  · skip
    exact w_ret ⟨im4, km4, (show (-33) ≤ (-1) ∧ (-1) ≤ 8128 from ⟨by omega, by omega⟩), trivial⟩
  · skip
    refine w_gFc (ji := 1) rfl (congrArg Prod.fst (kl_1 im4)) (show mG m4 1 1 = 3 from rd_VS_1 im4 (a := 1) rfl) ?_
    refine w_gFc (ji := 0) rfl (congrArg Prod.fst (kl_3 im4)) (show mG m4 3 0 = 4 from rd_Told_0 im4 (a := 3) rfl) ?_
    refine w_gK (congrArg Prod.fst (kl_4 im4)) ?_
    refine w_call (s_X3_relationAt (by unfold isShape; omega) ⟨by omega, by omega⟩ im4) ?_
    intro v23 m23 pp23
    obtain ⟨im23, kk23, e23_0, -⟩ := pp23
    try dsimp only
    replace im23 : I n m23 := im23
    replace kk23 : Keep n (W_X3_relationAt 4) m4 m23 := kk23
    have km23 : Keep n W_X8_settle M m23 := km4.tr kk23 (fun b j z => z.elim)
    replace e23_0 : (-1) ≤ v23 ∧ v23 ≤ 3 := e23_0
    refine w_if (fun c2_ => ?_) (fun c2_ => ?_)
    · skip
      exact w_ret ⟨im23, km23, (show (-33) ≤ v23 ∧ v23 ≤ 8128 from ⟨by omega, by omega⟩), trivial⟩
    · skip
      refine w_if (fun c3_ => ?_) (fun c3_ => ?_)
      · skip
        refine w_gFc (ji := 1) rfl (congrArg Prod.fst (kl_1 im23)) (show mG m23 1 1 = 3 from rd_VS_1 im23 (a := 1) rfl) ?_
        refine w_gFc (ji := 0) rfl (congrArg Prod.fst (kl_3 im23)) (show mG m23 3 0 = 4 from rd_Told_0 im23 (a := 3) rfl) ?_
        refine w_gK (congrArg Prod.fst (kl_4 im23)) ?_
        refine w_call (s_X3_firstAt (by unfold isShape; omega) ⟨by omega, by omega⟩ ⟨by omega, by omega⟩ im23) ?_
        intro v71 m71 pp71
        obtain ⟨im71, kk71, e71_0, -⟩ := pp71
        try dsimp only
        replace im71 : I n m71 := im71
        replace kk71 : Keep n (W_X3_firstAt 4) m23 m71 := kk71
        have km71 : Keep n W_X8_settle M m71 := km23.tr kk71 (fun b j z => z.elim)
        replace e71_0 : (-1) ≤ v71 ∧ v71 ≤ 2 := e71_0
        exact w_ret ⟨im71, km71, (show (-33) ≤ v71 ∧ v71 ≤ 8128 from ⟨by omega, by omega⟩), trivial⟩
      · skip
        refine w_if (fun c4_ => ?_) (fun c4_ => ?_)
        · skip
          refine w_gFc (ji := 1) rfl (congrArg Prod.fst (kl_1 im23)) (show mG m23 1 1 = 3 from rd_VS_1 im23 (a := 1) rfl) ?_
          refine w_gFc (ji := 0) rfl (congrArg Prod.fst (kl_3 im23)) (show mG m23 3 0 = 4 from rd_Told_0 im23 (a := 3) rfl) ?_
          refine w_gK (congrArg Prod.fst (kl_4 im23)) ?_
          refine w_call (s_X3_secondAt (by unfold isShape; omega) ⟨by omega, by omega⟩ ⟨by omega, by omega⟩ im23) ?_
          intro v84 m84 pp84
          obtain ⟨im84, kk84, e84_0, -⟩ := pp84
          try dsimp only
          replace im84 : I n m84 := im84
          replace kk84 : Keep n (W_X3_secondAt 4) m23 m84 := kk84
          have km84 : Keep n W_X8_settle M m84 := km23.tr kk84 (fun b j z => z.elim)
          replace e84_0 : (-33) ≤ v84 ∧ v84 ≤ 38 := e84_0
          exact w_ret ⟨im84, km84, (show (-33) ≤ v84 ∧ v84 ≤ 8128 from ⟨by omega, by omega⟩), trivial⟩
        · skip
          refine w_if (fun c5_ => ?_) (fun c5_ => ?_)
          · skip
            refine w_gFc (ji := 0) rfl (congrArg Prod.fst (kl_1 im23)) (show mG m23 1 0 = 2 from rd_VS_0 im23 (a := 1) rfl) ?_
            refine w_gK (congrArg Prod.fst (kl_2 im23)) ?_
            refine w_call (s_X4_greaterAt ⟨by omega, by omega⟩ im23) ?_
            intro v93 m93 pp93
            obtain ⟨im93, kk93, e93_0, -⟩ := pp93
            try dsimp only
            replace im93 : I n m93 := im93
            replace kk93 : Keep n W_X4_greaterAt m23 m93 := kk93
            have km93 : Keep n W_X8_settle M m93 := km23.tr kk93 (fun b j z => z.elim)
            replace e93_0 : 0 ≤ v93 ∧ v93 ≤ 8128 := e93_0
            exact w_ret ⟨im93, km93, (show (-33) ≤ v93 ∧ v93 ≤ 8128 from ⟨by omega, by omega⟩), trivial⟩
          · skip
            exact w_ret ⟨im23, km23, (show (-33) ≤ (-1) ∧ (-1) ≤ 8128 from ⟨by omega, by omega⟩), trivial⟩
def W_X4_nearestWorld (b j : Int) : Prop := (21 ≤ b ∧ b ≤ 23) ∨ b = 33 ∨ b = 35 ∨ isWS (b - 1) ∨ (b = 2 ∧ j = 4) ∨ (b = 20 ∧ j = 0) ∨ (b = 20 ∧ j = 1) ∨ (b = 20 ∧ j = 5) ∨ (b = 32 ∧ j = 1) ∨ (b = 32 ∧ j = 2) ∨ (b = 34 ∧ j = 1) ∨ (b = 34 ∧ j = 2) ∨ (isWS b ∧ j = 1) ∨ (isWS b ∧ j = 2)
theorem s_X4_nearestWorld_64 {n : Nat} {Me : Mem} {k16 : Int → Int → Int → Int → Mem → Option (Int × Mem)} {fu16 : Nat} (hk16 : ∀ (l1 l2 l3 : Int) (M : Mem), ((-1) ≤ l1 ∧ l1 ≤ 4095) → (0 ≤ l2 ∧ l2 ≤ 13) → (0 ≤ l3 ∧ l3 ≤ 4096) → 4097 - l3 < (fu16 : Int) → I n M → Keep n W_X4_nearestWorld Me M → wp (k16 2 l1 l2 l3 M) (fun q => I n q.2 ∧ Keep n W_X4_nearestWorld Me q.2 ∧ ((-1) ≤ q.1 ∧ q.1 ≤ 4095) ∧ True)) {l1 l2 l3 : Int} {M : Mem} (r_l1 : (-1) ≤ l1 ∧ l1 ≤ 4095) (r_l2 : 0 ≤ l2 ∧ l2 ≤ 13) (r_l3 : 0 ≤ l3 ∧ l3 ≤ 4095) (hf16 : 4097 - l3 < (fu16 : Int) + 1) (iM : I n M) (kM : Keep n W_X4_nearestWorld Me M) : wp (mX4_nearestWorld_64 k16 2 l1 l2 l3 M) (fun q => I n q.2 ∧ Keep n W_X4_nearestWorld Me q.2 ∧ ((-1) ≤ q.1 ∧ q.1 ≤ 4095) ∧ True) := by
  have hn : (169 : Int) ≤ (n : Int) := by have := iM.2.2.2.2.1; omega
  unfold mX4_nearestWorld_64
  have w1_ := wI_id (x := (l3 + 1)) (by omega) (by omega)
  exact hk16 _ _ _ _ ⟨by omega, by omega⟩ ⟨by omega, by omega⟩ ⟨by omega, by omega⟩ (by omega) iM kM
theorem sb_X4_nearestWorld_16 {n : Nat} {Me : Mem} {k16 : Int → Int → Int → Int → Mem → Option (Int × Mem)} {fu16 : Nat} (hk16 : ∀ (l1 l2 l3 : Int) (M : Mem), ((-1) ≤ l1 ∧ l1 ≤ 4095) → (0 ≤ l2 ∧ l2 ≤ 13) → (0 ≤ l3 ∧ l3 ≤ 4096) → 4097 - l3 < (fu16 : Int) → I n M → Keep n W_X4_nearestWorld Me M → wp (k16 2 l1 l2 l3 M) (fun q => I n q.2 ∧ Keep n W_X4_nearestWorld Me q.2 ∧ ((-1) ≤ q.1 ∧ q.1 ≤ 4095) ∧ True)) {l1 l2 l3 : Int} {M : Mem} (r_l1 : (-1) ≤ l1 ∧ l1 ≤ 4095) (r_l2 : 0 ≤ l2 ∧ l2 ≤ 13) (r_l3 : 0 ≤ l3 ∧ l3 ≤ 4096) (hf16 : 4097 - l3 < (fu16 : Int) + 1) (iM : I n M) (kM : Keep n W_X4_nearestWorld Me M) : wp (bX4_nearestWorld_16 k16 2 l1 l2 l3 M) (fun q => I n q.2 ∧ Keep n W_X4_nearestWorld Me q.2 ∧ ((-1) ≤ q.1 ∧ q.1 ≤ 4095) ∧ True) := by
  have hn : (169 : Int) ≤ (n : Int) := by have := iM.2.2.2.2.1; omega
  unfold bX4_nearestWorld_16
  refine w_gFc (ji := 6) rfl (congrArg Prod.fst (kl_2 iM)) (show mG M 2 6 = 34 from rd_Solver_6 iM (a := 2) rfl) ?_
  refine w_gK (congrArg Prod.fst (kl_34 iM)) ?_
  refine w_call (s_X7_most (by unfold isWS; omega) iM) ?_
  intro v21 m21 pp21
  obtain ⟨im21, kk21, e21_0, -⟩ := pp21
  try dsimp only
  replace im21 : I n m21 := im21
  replace kk21 : Keep n (W_X7_most 34) M m21 := kk21
  have km21 : Keep n W_X4_nearestWorld Me m21 := kM.tr kk21 (fun b j z => z.elim)
  replace e21_0 : 1 ≤ v21 ∧ v21 ≤ 4096 := e21_0
  refine w_if (fun c1_ => ?_) (fun c1_ => ?_)
  · skip
    exact w_ret ⟨im21, km21, (show (-1) ≤ l1 ∧ l1 ≤ 4095 from ⟨by omega, by omega⟩), trivial⟩
  · skip
    refine w_gFc (ji := 0) rfl (congrArg Prod.fst (kl_2 im21)) (show mG m21 2 0 = 3 from rd_Solver_0 im21 (a := 2) rfl) ?_
    refine w_gF (ji := 1) rfl (congrArg Prod.fst (kl_3 im21)) (fun a31 ha31 => ?_)
    have w2_ := (rfl : i2l l3 = l3)
    refine w_call (s_J13_bitCount_95d88 im21) ?_
    intro v37 m37 pp37
    obtain ⟨im37, kk37, e37_0, -⟩ := pp37
    try dsimp only
    replace im37 : I n m37 := im37
    replace kk37 : Keep n W_J13_bitCount_95d88 m21 m37 := kk37
    have km37 : Keep n W_X4_nearestWorld Me m37 := km21.tr kk37 (fun b j z => z.elim)
    replace e37_0 : 0 ≤ v37 ∧ v37 ≤ 127 := e37_0
    refine w_if (fun c4_ => ?_) (fun c4_ => ?_)
    · skip
      exact s_X4_nearestWorld_64 hk16 ⟨by omega, by omega⟩ ⟨by omega, by omega⟩ ⟨by omega, by omega⟩ (by omega) im37 km37
    · skip
      refine w_gFc (ji := 6) rfl (congrArg Prod.fst (kl_2 im37)) (show mG m37 2 6 = 34 from rd_Solver_6 im37 (a := 2) rfl) ?_
      refine w_gK (congrArg Prod.fst (kl_34 im37)) ?_
      refine w_call (s_X7_has (by unfold isWS; omega) ⟨by omega, by omega⟩ im37) ?_
      intro v53 m53 pp53
      obtain ⟨im53, kk53, e53_0, -⟩ := pp53
      try dsimp only
      replace im53 : I n m53 := im53
      replace kk53 : Keep n (W_X7_has 34) m37 m53 := kk53
      have km53 : Keep n W_X4_nearestWorld Me m53 := km37.tr kk53 (fun b j z => z.elim)
      replace e53_0 : 0 ≤ v53 ∧ v53 ≤ 1 := e53_0
      refine w_if (fun c5_ => ?_) (fun c5_ => ?_)
      · skip
        exact s_X4_nearestWorld_64 hk16 ⟨by omega, by omega⟩ ⟨by omega, by omega⟩ ⟨by omega, by omega⟩ (by omega) im53 km53
      · skip
        exact s_X4_nearestWorld_64 hk16 ⟨by omega, by omega⟩ ⟨by omega, by omega⟩ ⟨by omega, by omega⟩ (by omega) im53 km53
theorem s_X4_nearestWorld_16 {n : Nat} {Me : Mem} : ∀ (fu : Nat) (l1 l2 l3 : Int) (M : Mem), ((-1) ≤ l1 ∧ l1 ≤ 4095) → (0 ≤ l2 ∧ l2 ≤ 13) → (0 ≤ l3 ∧ l3 ≤ 4096) → 4097 - l3 < (fu : Int) → I n M → Keep n W_X4_nearestWorld Me M → wp (mX4_nearestWorld_16 fu 2 l1 l2 l3 M) (fun q => I n q.2 ∧ Keep n W_X4_nearestWorld Me q.2 ∧ ((-1) ≤ q.1 ∧ q.1 ≤ 4095) ∧ True) := by
  intro fu
  induction fu with
  | zero =>
    intro l1 l2 l3 M r_l1 r_l2 r_l3 hf iM kM
    exfalso
    omega
  | succ fu ih =>
    intro l1 l2 l3 M r_l1 r_l2 r_l3 hf iM kM
    exact sb_X4_nearestWorld_16 ih r_l1 r_l2 r_l3 (by have e : ((fu + 1 : Nat) : Int) = (fu : Int) + 1 := rfl; rw [e] at hf; exact hf) iM kM
theorem s_X4_nearestWorld {n : Nat} {M : Mem} (iM : I n M) : wp (mX4_nearestWorld 2 M) (fun q => I n q.2 ∧ Keep n W_X4_nearestWorld M q.2 ∧ ((-1) ≤ q.1 ∧ q.1 ≤ 4095) ∧ True) := by
  have hn : (169 : Int) ≤ (n : Int) := by have := iM.2.2.2.2.1; omega
  have kM : Keep n W_X4_nearestWorld M M := Keep.rf
  unfold mX4_nearestWorld
  refine w_gK (congrArg Prod.fst (kl_2 iM)) ?_
  refine w_call (s_X4_lookUp iM) ?_
  intro v1 m1 pp1
  obtain ⟨im1, kk1, e1_0, -⟩ := pp1
  try dsimp only
  replace im1 : I n m1 := im1
  replace kk1 : Keep n W_X4_lookUp M m1 := kk1
  have km1 : Keep n W_X4_nearestWorld M m1 := kM.tr kk1 (fun b j z => Or.elim z (fun z => (Or.inl z)) (fun z => Or.elim z (fun z => (Or.inr (Or.inl z))) (fun z => Or.elim z (fun z => (Or.inr (Or.inr (Or.inl z)))) (fun z => Or.elim z (fun z => (Or.inr (Or.inr (Or.inr (Or.inl z))))) (fun z => Or.elim z (fun z => (Or.inr (Or.inr (Or.inr (Or.inr (Or.inl z)))))) (fun z => Or.elim z (fun z => (Or.inr (Or.inr (Or.inr (Or.inr (Or.inr (Or.inl z))))))) (fun z => Or.elim z (fun z => (Or.inr (Or.inr (Or.inr (Or.inr (Or.inr (Or.inr (Or.inl z)))))))) (fun z => Or.elim z (fun z => (Or.inr (Or.inr (Or.inr (Or.inr (Or.inr (Or.inr (Or.inr (Or.inl z))))))))) (fun z => Or.elim z (fun z => (Or.inr (Or.inr (Or.inr (Or.inr (Or.inr (Or.inr (Or.inr (Or.inr (Or.inl z)))))))))) (fun z => Or.elim z (fun z => (Or.inr (Or.inr (Or.inr (Or.inr (Or.inr (Or.inr (Or.inr (Or.inr (Or.inr (Or.inl z))))))))))) (fun z => Or.elim z (fun z => (Or.inr (Or.inr (Or.inr (Or.inr (Or.inr (Or.inr (Or.inr (Or.inr (Or.inr (Or.inr (Or.inl z)))))))))))) (fun z => Or.elim z (fun z => (Or.inr (Or.inr (Or.inr (Or.inr (Or.inr (Or.inr (Or.inr (Or.inr (Or.inr (Or.inr (Or.inr (Or.inl z))))))))))))) (fun z => Or.elim z (fun z => (Or.inr (Or.inr (Or.inr (Or.inr (Or.inr (Or.inr (Or.inr (Or.inr (Or.inr (Or.inr (Or.inr (Or.inr (Or.inl z)))))))))))))) (fun z => (Or.inr (Or.inr (Or.inr (Or.inr (Or.inr (Or.inr (Or.inr (Or.inr (Or.inr (Or.inr (Or.inr (Or.inr (Or.inr z)))))))))))))))))))))))))))
  replace e1_0 : 0 ≤ v1 ∧ v1 ≤ 1 := e1_0
  refine w_if (fun c1_ => ?_) (fun c1_ => ?_)
  · skip
    exact w_ret ⟨im1, km1, (show (-1) ≤ (-1) ∧ (-1) ≤ 4095 from ⟨by omega, by omega⟩), trivial⟩
  · skip
    exact s_X4_nearestWorld_16 FU _ _ _ _ ⟨by omega, by omega⟩ ⟨by omega, by omega⟩ ⟨by omega, by omega⟩ (by show _ < (70000 : Int); omega) im1 km1
