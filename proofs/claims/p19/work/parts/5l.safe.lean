def W_X8_image (b j : Int) : Prop := b = 74 ∨ isShape (b - 1) ∨ isShape (b - 2) ∨ isShape (b - 3) ∨ isShape (b - 4) ∨ isShape (b - 5) ∨ isShape (b - 6) ∨ isTold (b - 10) ∨ isTold (b - 11) ∨ isTold (b - 12) ∨ isTold (b - 13) ∨ isTold (b - 14) ∨ isTold (b - 15) ∨ isTold (b - 16) ∨ isTold (b - 8) ∨ isTold (b - 9) ∨ (isShape b ∧ j = 6) ∨ (isShape b ∧ j = 7) ∨ (isTold b ∧ j = 1) ∨ (isTold b ∧ j = 11) ∨ (isTold b ∧ j = 12) ∨ (isTold b ∧ j = 13) ∨ (isTold b ∧ j = 14) ∨ (isTold b ∧ j = 18) ∨ (isTold b ∧ j = 5) ∨ (isTold b ∧ j = 6) ∨ (isTold b ∧ j = 7)
theorem s_X8_image {n : Nat} {l1 : Int} {M : Mem} (r_l1 : (-2147483648) ≤ l1 ∧ l1 ≤ 2147483647) (iM : I n M) : wp (mX8_image 1 l1 M) (fun q => I n q.2 ∧ Keep n W_X8_image M q.2 ∧ (0 ≤ q.1 ∧ q.1 ≤ 1) ∧ True) := by
  have hn : (169 : Int) ≤ (n : Int) := by have := iM.2.2.2.2.1; omega
  have kM : Keep n W_X8_image M M := Keep.rf
  unfold mX8_image
  refine w_if (fun c1_ => ?_) (fun c1_ => ?_)
  · skip
    exact w_ret ⟨iM, kM, (show 0 ≤ 0 ∧ 0 ≤ 1 from ⟨by omega, by omega⟩), trivial⟩
  · skip
    refine w_if (fun c2_ => ?_) (fun c2_ => ?_)
    · skip
      refine w_gFc (ji := 3) rfl (congrArg Prod.fst (kl_1 iM)) (show mG M 1 3 = 73 from rd_VS_3 iM (a := 1) rfl) ?_
      refine w_aG (kl_73 iM) (by omega) (by omega) (fun a16 ha16 => ?_)
      have ra16 : a16 = 75 + 17 * l1 := ha16.tr (P := fun z => z = 75 + 17 * l1) (rd_Vimages iM rfl (by omega) (by omega))
      have h_a16 : isTold a16 := by unfold isTold; omega
      refine w_gFc (ji := 1) rfl (congrArg Prod.fst (kl_1 iM)) (show mG M 1 1 = 3 from rd_VS_1 iM (a := 1) rfl) ?_
      refine w_gK (congrArg Prod.fst (k_Told iM h_a16)) ?_
      refine w_call (s_X6_copy h_a16 (by unfold isTold; omega) iM) ?_
      intro v21 m21 pp21
      obtain ⟨im21, kk21, -⟩ := pp21
      try dsimp only
      replace im21 : I n m21 := im21
      replace kk21 : Keep n (W_X6_copy a16 3) M m21 := kk21
      have km21 : Keep n W_X8_image M m21 := kM.tr kk21 (fun b j z => Or.elim z (fun z => (Or.inr (Or.inl (by unfold isShape; omega)))) (fun z => Or.elim z (fun z => (Or.inr (Or.inr (Or.inl (by unfold isShape; omega))))) (fun z => Or.elim z (fun z => (Or.inr (Or.inr (Or.inr (Or.inl (by unfold isShape; omega)))))) (fun z => Or.elim z (fun z => (Or.inr (Or.inr (Or.inr (Or.inr (Or.inl (by unfold isShape; omega))))))) (fun z => Or.elim z (fun z => (Or.inr (Or.inr (Or.inr (Or.inr (Or.inr (Or.inl (by unfold isShape; omega)))))))) (fun z => Or.elim z (fun z => (Or.inr (Or.inr (Or.inr (Or.inr (Or.inr (Or.inr (Or.inl (by unfold isShape; omega))))))))) (fun z => Or.elim z (fun z => (Or.inr (Or.inr (Or.inr (Or.inr (Or.inr (Or.inr (Or.inr (Or.inl (by unfold isTold; omega)))))))))) (fun z => Or.elim z (fun z => (Or.inr (Or.inr (Or.inr (Or.inr (Or.inr (Or.inr (Or.inr (Or.inr (Or.inl (by unfold isTold; omega))))))))))) (fun z => Or.elim z (fun z => (Or.inr (Or.inr (Or.inr (Or.inr (Or.inr (Or.inr (Or.inr (Or.inr (Or.inr (Or.inl (by unfold isTold; omega)))))))))))) (fun z => Or.elim z (fun z => (Or.inr (Or.inr (Or.inr (Or.inr (Or.inr (Or.inr (Or.inr (Or.inr (Or.inr (Or.inr (Or.inl (by unfold isTold; omega))))))))))))) (fun z => Or.elim z (fun z => (Or.inr (Or.inr (Or.inr (Or.inr (Or.inr (Or.inr (Or.inr (Or.inr (Or.inr (Or.inr (Or.inr (Or.inl (by unfold isTold; omega)))))))))))))) (fun z => Or.elim z (fun z => (Or.inr (Or.inr (Or.inr (Or.inr (Or.inr (Or.inr (Or.inr (Or.inr (Or.inr (Or.inr (Or.inr (Or.inr (Or.inl (by unfold isTold; omega))))))))))))))) (fun z => Or.elim z (fun z => (Or.inr (Or.inr (Or.inr (Or.inr (Or.inr (Or.inr (Or.inr (Or.inr (Or.inr (Or.inr (Or.inr (Or.inr (Or.inr (Or.inl (by unfold isTold; omega)))))))))))))))) (fun z => Or.elim z (fun z => (Or.inr (Or.inr (Or.inr (Or.inr (Or.inr (Or.inr (Or.inr (Or.inr (Or.inr (Or.inr (Or.inr (Or.inr (Or.inr (Or.inr (Or.inl (by unfold isTold; omega))))))))))))))))) (fun z => Or.elim z (fun z => (Or.inr (Or.inr (Or.inr (Or.inr (Or.inr (Or.inr (Or.inr (Or.inr (Or.inr (Or.inr (Or.inr (Or.inr (Or.inr (Or.inr (Or.inr (Or.inl (by unfold isTold; omega)))))))))))))))))) (fun z => Or.elim z (fun z => (Or.inr (Or.inr (Or.inr (Or.inr (Or.inr (Or.inr (Or.inr (Or.inr (Or.inr (Or.inr (Or.inr (Or.inr (Or.inr (Or.inr (Or.inr (Or.inr (Or.inl ⟨(by unfold isShape; omega), z.2⟩)))))))))))))))))) (fun z => Or.elim z (fun z => (Or.inr (Or.inr (Or.inr (Or.inr (Or.inr (Or.inr (Or.inr (Or.inr (Or.inr (Or.inr (Or.inr (Or.inr (Or.inr (Or.inr (Or.inr (Or.inr (Or.inr (Or.inl ⟨(by unfold isShape; omega), z.2⟩))))))))))))))))))) (fun z => Or.elim z (fun z => (Or.inr (Or.inr (Or.inr (Or.inr (Or.inr (Or.inr (Or.inr (Or.inr (Or.inr (Or.inr (Or.inr (Or.inr (Or.inr (Or.inr (Or.inr (Or.inr (Or.inr (Or.inr (Or.inl ⟨(by unfold isTold; omega), z.2⟩)))))))))))))))))))) (fun z => Or.elim z (fun z => (Or.inr (Or.inr (Or.inr (Or.inr (Or.inr (Or.inr (Or.inr (Or.inr (Or.inr (Or.inr (Or.inr (Or.inr (Or.inr (Or.inr (Or.inr (Or.inr (Or.inr (Or.inr (Or.inr (Or.inl ⟨(by unfold isTold; omega), z.2⟩))))))))))))))))))))) (fun z => Or.elim z (fun z => (Or.inr (Or.inr (Or.inr (Or.inr (Or.inr (Or.inr (Or.inr (Or.inr (Or.inr (Or.inr (Or.inr (Or.inr (Or.inr (Or.inr (Or.inr (Or.inr (Or.inr (Or.inr (Or.inr (Or.inr (Or.inl ⟨(by unfold isTold; omega), z.2⟩)))))))))))))))))))))) (fun z => Or.elim z (fun z => (Or.inr (Or.inr (Or.inr (Or.inr (Or.inr (Or.inr (Or.inr (Or.inr (Or.inr (Or.inr (Or.inr (Or.inr (Or.inr (Or.inr (Or.inr (Or.inr (Or.inr (Or.inr (Or.inr (Or.inr (Or.inr (Or.inl ⟨(by unfold isTold; omega), z.2⟩))))))))))))))))))))))) (fun z => Or.elim z (fun z => (Or.inr (Or.inr (Or.inr (Or.inr (Or.inr (Or.inr (Or.inr (Or.inr (Or.inr (Or.inr (Or.inr (Or.inr (Or.inr (Or.inr (Or.inr (Or.inr (Or.inr (Or.inr (Or.inr (Or.inr (Or.inr (Or.inr (Or.inl ⟨(by unfold isTold; omega), z.2⟩)))))))))))))))))))))))) (fun z => Or.elim z (fun z => (Or.inr (Or.inr (Or.inr (Or.inr (Or.inr (Or.inr (Or.inr (Or.inr (Or.inr (Or.inr (Or.inr (Or.inr (Or.inr (Or.inr (Or.inr (Or.inr (Or.inr (Or.inr (Or.inr (Or.inr (Or.inr (Or.inr (Or.inr (Or.inl ⟨(by unfold isTold; omega), z.2⟩))))))))))))))))))))))))) (fun z => Or.elim z (fun z => (Or.inr (Or.inr (Or.inr (Or.inr (Or.inr (Or.inr (Or.inr (Or.inr (Or.inr (Or.inr (Or.inr (Or.inr (Or.inr (Or.inr (Or.inr (Or.inr (Or.inr (Or.inr (Or.inr (Or.inr (Or.inr (Or.inr (Or.inr (Or.inr (Or.inl ⟨(by unfold isTold; omega), z.2⟩)))))))))))))))))))))))))) (fun z => Or.elim z (fun z => (Or.inr (Or.inr (Or.inr (Or.inr (Or.inr (Or.inr (Or.inr (Or.inr (Or.inr (Or.inr (Or.inr (Or.inr (Or.inr (Or.inr (Or.inr (Or.inr (Or.inr (Or.inr (Or.inr (Or.inr (Or.inr (Or.inr (Or.inr (Or.inr (Or.inr (Or.inl ⟨(by unfold isTold; omega), z.2⟩))))))))))))))))))))))))))) (fun z => (Or.inr (Or.inr (Or.inr (Or.inr (Or.inr (Or.inr (Or.inr (Or.inr (Or.inr (Or.inr (Or.inr (Or.inr (Or.inr (Or.inr (Or.inr (Or.inr (Or.inr (Or.inr (Or.inr (Or.inr (Or.inr (Or.inr (Or.inr (Or.inr (Or.inr (Or.inr ⟨(by unfold isTold; omega), z.2⟩))))))))))))))))))))))))))))))))))))))))))))))))))))
      refine w_gFc (ji := 4) rfl (congrArg Prod.fst (kl_1 im21)) (show mG m21 1 4 = 74 from rd_VS_4 im21 (a := 1) rfl) ?_
      refine w_aSZ (kl_74 im21) (by omega) (by omega) (by omega) (fun M30 hM30 => ?_)
      replace hM30 : M30 = mS m21 74 l1 1 := hM30
      have iM30 : I n M30 := wr_Vimaged im21 rfl ⟨by omega, by omega⟩ hM30
      have kM30 : Keep n W_X8_image M M30 := km21.st hM30 (Or.inl (Or.inl rfl))
      exact w_ret ⟨iM30, kM30, (show 0 ≤ 1 ∧ 1 ≤ 1 from ⟨by omega, by omega⟩), trivial⟩
    · skip
      exact w_ret ⟨iM, kM, (show 0 ≤ 0 ∧ 0 ≤ 1 from ⟨by omega, by omega⟩), trivial⟩
def W_X8_again (b j : Int) : Prop := (5 ≤ b ∧ b ≤ 19) ∨ (b = 2 ∧ j = 10) ∨ (b = 2 ∧ j = 4) ∨ (b = 24 ∧ j = 6) ∨ (b = 24 ∧ j = 7) ∨ (b = 3 ∧ j = 1) ∨ (b = 3 ∧ j = 11) ∨ (b = 3 ∧ j = 12) ∨ (b = 3 ∧ j = 13) ∨ (b = 3 ∧ j = 14) ∨ (b = 3 ∧ j = 18) ∨ (b = 3 ∧ j = 5) ∨ (b = 3 ∧ j = 6) ∨ (b = 3 ∧ j = 7) ∨ (b = 4 ∧ j = 6) ∨ (b = 4 ∧ j = 7)
theorem s_X8_again {n : Nat} {l1 : Int} {M : Mem} (r_l1 : (-2147483648) ≤ l1 ∧ l1 ≤ 2147483647) (iM : I n M) : wp (mX8_again 1 l1 M) (fun q => I n q.2 ∧ Keep n W_X8_again M q.2 ∧ (0 ≤ q.1 ∧ q.1 ≤ 1) ∧ True) := by
  have hn : (169 : Int) ≤ (n : Int) := by have := iM.2.2.2.2.1; omega
  have kM : Keep n W_X8_again M M := Keep.rf
  unfold mX8_again
  refine w_if (fun c1_ => ?_) (fun c1_ => ?_)
  · skip
    exact w_ret ⟨iM, kM, (show 0 ≤ 0 ∧ 0 ≤ 1 from ⟨by omega, by omega⟩), trivial⟩
  · skip
    refine w_if (fun c2_ => ?_) (fun c2_ => ?_)
    · skip
      exact w_ret ⟨iM, kM, (show 0 ≤ 0 ∧ 0 ≤ 1 from ⟨by omega, by omega⟩), trivial⟩
    · skip
      refine w_gFc (ji := 4) rfl (congrArg Prod.fst (kl_1 iM)) (show mG M 1 4 = 74 from rd_VS_4 iM (a := 1) rfl) ?_
      refine w_aG (kl_74 iM) (by omega) (by omega) (fun a14 ha14 => ?_)
      have ra14 : 0 ≤ a14 ∧ a14 ≤ 1 := ha14.tr (P := fun z => 0 ≤ z ∧ z ≤ 1) (rd_Vimaged iM rfl)
      refine w_if (fun c3_ => ?_) (fun c3_ => ?_)
      · skip
        exact w_ret ⟨iM, kM, (show 0 ≤ 0 ∧ 0 ≤ 1 from ⟨by omega, by omega⟩), trivial⟩
      · skip
        refine w_gFc (ji := 1) rfl (congrArg Prod.fst (kl_1 iM)) (show mG M 1 1 = 3 from rd_VS_1 iM (a := 1) rfl) ?_
        refine w_gFc (ji := 3) rfl (congrArg Prod.fst (kl_1 iM)) (show mG M 1 3 = 73 from rd_VS_3 iM (a := 1) rfl) ?_
        refine w_aG (kl_73 iM) (by omega) (by omega) (fun a29 ha29 => ?_)
        have ra29 : a29 = 75 + 17 * l1 := ha29.tr (P := fun z => z = 75 + 17 * l1) (rd_Vimages iM rfl (by omega) (by omega))
        have h_a29 : isTold a29 := by unfold isTold; omega
        refine w_gK (congrArg Prod.fst (kl_3 iM)) ?_
        refine w_call (s_X6_copy (by unfold isTold; omega) h_a29 iM) ?_
        intro v30 m30 pp30
        obtain ⟨im30, kk30, -⟩ := pp30
        try dsimp only
        replace im30 : I n m30 := im30
        replace kk30 : Keep n (W_X6_copy 3 a29) M m30 := kk30
        have km30 : Keep n W_X8_again M m30 := kM.tr kk30 (fun b j z => Or.elim z (fun z => (Or.inl ⟨by omega, by omega⟩)) (fun z => Or.elim z (fun z => (Or.inl ⟨by omega, by omega⟩)) (fun z => Or.elim z (fun z => (Or.inl ⟨by omega, by omega⟩)) (fun z => Or.elim z (fun z => (Or.inl ⟨by omega, by omega⟩)) (fun z => Or.elim z (fun z => (Or.inl ⟨by omega, by omega⟩)) (fun z => Or.elim z (fun z => (Or.inl ⟨by omega, by omega⟩)) (fun z => Or.elim z (fun z => (Or.inl ⟨by omega, by omega⟩)) (fun z => Or.elim z (fun z => (Or.inl ⟨by omega, by omega⟩)) (fun z => Or.elim z (fun z => (Or.inl ⟨by omega, by omega⟩)) (fun z => Or.elim z (fun z => (Or.inl ⟨by omega, by omega⟩)) (fun z => Or.elim z (fun z => (Or.inl ⟨by omega, by omega⟩)) (fun z => Or.elim z (fun z => (Or.inl ⟨by omega, by omega⟩)) (fun z => Or.elim z (fun z => (Or.inl ⟨by omega, by omega⟩)) (fun z => Or.elim z (fun z => (Or.inl ⟨by omega, by omega⟩)) (fun z => Or.elim z (fun z => (Or.inl ⟨by omega, by omega⟩)) (fun z => Or.elim z (fun z => (Or.inr (Or.inr (Or.inr (Or.inr (Or.inr (Or.inr (Or.inr (Or.inr (Or.inr (Or.inr (Or.inr (Or.inr (Or.inr (Or.inr (Or.inl ⟨by omega, z.2⟩)))))))))))))))) (fun z => Or.elim z (fun z => (Or.inr (Or.inr (Or.inr (Or.inr (Or.inr (Or.inr (Or.inr (Or.inr (Or.inr (Or.inr (Or.inr (Or.inr (Or.inr (Or.inr (Or.inr ⟨by omega, z.2⟩)))))))))))))))) (fun z => Or.elim z (fun z => (Or.inr (Or.inr (Or.inr (Or.inr (Or.inr (Or.inl ⟨by omega, z.2⟩))))))) (fun z => Or.elim z (fun z => (Or.inr (Or.inr (Or.inr (Or.inr (Or.inr (Or.inr (Or.inl ⟨by omega, z.2⟩)))))))) (fun z => Or.elim z (fun z => (Or.inr (Or.inr (Or.inr (Or.inr (Or.inr (Or.inr (Or.inr (Or.inl ⟨by omega, z.2⟩))))))))) (fun z => Or.elim z (fun z => (Or.inr (Or.inr (Or.inr (Or.inr (Or.inr (Or.inr (Or.inr (Or.inr (Or.inl ⟨by omega, z.2⟩)))))))))) (fun z => Or.elim z (fun z => (Or.inr (Or.inr (Or.inr (Or.inr (Or.inr (Or.inr (Or.inr (Or.inr (Or.inr (Or.inl ⟨by omega, z.2⟩))))))))))) (fun z => Or.elim z (fun z => (Or.inr (Or.inr (Or.inr (Or.inr (Or.inr (Or.inr (Or.inr (Or.inr (Or.inr (Or.inr (Or.inl ⟨by omega, z.2⟩)))))))))))) (fun z => Or.elim z (fun z => (Or.inr (Or.inr (Or.inr (Or.inr (Or.inr (Or.inr (Or.inr (Or.inr (Or.inr (Or.inr (Or.inr (Or.inl ⟨by omega, z.2⟩))))))))))))) (fun z => Or.elim z (fun z => (Or.inr (Or.inr (Or.inr (Or.inr (Or.inr (Or.inr (Or.inr (Or.inr (Or.inr (Or.inr (Or.inr (Or.inr (Or.inl ⟨by omega, z.2⟩)))))))))))))) (fun z => (Or.inr (Or.inr (Or.inr (Or.inr (Or.inr (Or.inr (Or.inr (Or.inr (Or.inr (Or.inr (Or.inr (Or.inr (Or.inr (Or.inl ⟨by omega, z.2⟩))))))))))))))))))))))))))))))))))))))))
        refine w_gFc (ji := 0) rfl (congrArg Prod.fst (kl_1 im30)) (show mG m30 1 0 = 2 from rd_VS_0 im30 (a := 1) rfl) ?_
        refine w_gK (congrArg Prod.fst (kl_2 im30)) ?_
        refine w_call (s_X4_forget im30) ?_
        intro v37 m37 pp37
        obtain ⟨im37, kk37, -⟩ := pp37
        try dsimp only
        replace im37 : I n m37 := im37
        replace kk37 : Keep n W_X4_forget m30 m37 := kk37
        have km37 : Keep n W_X8_again M m37 := km30.tr kk37 (fun b j z => Or.elim z (fun z => (Or.inr (Or.inl z))) (fun z => Or.elim z (fun z => (Or.inr (Or.inr (Or.inl z)))) (fun z => Or.elim z (fun z => (Or.inr (Or.inr (Or.inr (Or.inl z))))) (fun z => (Or.inr (Or.inr (Or.inr (Or.inr (Or.inl z)))))))))
        exact w_ret ⟨im37, km37, (show 0 ≤ 1 ∧ 1 ≤ 1 from ⟨by omega, by omega⟩), trivial⟩
def W_X9_in (b j : Int) : Prop := False
theorem s_X9_in {n : Nat} {l0 l1 l2 : Int} {M : Mem} (r_l0 : (-2147483648) ≤ l0 ∧ l0 ≤ 2147483647) (r_l1 : (-1) ≤ l1 ∧ l1 ≤ 999) (r_l2 : (-2147483648) ≤ l2 ∧ l2 ≤ 2147483647) (iM : I n M) : wp (mX9_in l0 l1 l2 M) (fun q => I n q.2 ∧ Keep n W_X9_in M q.2 ∧ (0 ≤ q.1 ∧ q.1 ≤ 1) ∧ (q.1 = 1 → l1 ≤ l0 ∧ l0 ≤ l2) ∧ True) := by
  have hn : (169 : Int) ≤ (n : Int) := by have := iM.2.2.2.2.1; omega
  have kM : Keep n W_X9_in M M := Keep.rf
  unfold mX9_in
  refine w_if (fun c1_ => ?_) (fun c1_ => ?_)
  · skip
    exact w_ret ⟨iM, kM, (show 0 ≤ 0 ∧ 0 ≤ 1 from ⟨by omega, by omega⟩), (show 0 = 1 → l1 ≤ l0 ∧ l0 ≤ l2 from fun z => by omega), trivial⟩
  · skip
    refine w_if (fun c2_ => ?_) (fun c2_ => ?_)
    · skip
      exact w_ret ⟨iM, kM, (show 0 ≤ 0 ∧ 0 ≤ 1 from ⟨by omega, by omega⟩), (show 0 = 1 → l1 ≤ l0 ∧ l0 ≤ l2 from fun z => by omega), trivial⟩
    · skip
      exact w_ret ⟨iM, kM, (show 0 ≤ 1 ∧ 1 ≤ 1 from ⟨by omega, by omega⟩), (show 1 = 1 → l1 ≤ l0 ∧ l0 ≤ l2 from fun z => by omega), trivial⟩
def W_X9_clearWorld (b j : Int) : Prop := b = 137 ∨ b = 151
theorem sb_X9_clearWorld_23 {n : Nat} {Me : Mem} {k23 : Int → Int → Mem → Option (Int × Mem)} {fu23 : Nat} (hk23 : ∀ (l1 : Int) (M : Mem), (0 ≤ l1 ∧ l1 ≤ 4) → 5 - l1 < (fu23 : Int) → I n M → Keep n W_X9_clearWorld Me M → wp (k23 126 l1 M) (fun q => I n q.2 ∧ Keep n W_X9_clearWorld Me q.2 ∧ True)) {l1 : Int} {M : Mem} (r_l1 : 0 ≤ l1 ∧ l1 ≤ 4) (hf23 : 5 - l1 < (fu23 : Int) + 1) (iM : I n M) (kM : Keep n W_X9_clearWorld Me M) : wp (bX9_clearWorld_23 k23 126 l1 M) (fun q => I n q.2 ∧ Keep n W_X9_clearWorld Me q.2 ∧ True) := by
  have hn : (169 : Int) ≤ (n : Int) := by have := iM.2.2.2.2.1; omega
  unfold bX9_clearWorld_23
  refine w_if (fun c1_ => ?_) (fun c1_ => ?_)
  · skip
    exact w_ret ⟨iM, kM, trivial⟩
  · skip
    refine w_gFc (ji := 25) rfl (congrArg Prod.fst (kl_126 iM)) (show mG M 126 25 = 151 from rd_Model_25 iM (a := 126) rfl) ?_
    refine w_aSZ (kl_151 iM) (by omega) (by omega) (by omega) (fun M34 hM34 => ?_)
    replace hM34 : M34 = mS M 151 l1 0 := hM34
    have iM34 : I n M34 := wr_MholdsPlace iM rfl ⟨by omega, by omega⟩ hM34
    have kM34 : Keep n W_X9_clearWorld Me M34 := kM.st hM34 (Or.inl (Or.inr rfl))
    have w2_ := wI_id (x := (l1 + 1)) (by omega) (by omega)
    exact hk23 _ _ ⟨by omega, by omega⟩ (by omega) iM34 kM34
theorem s_X9_clearWorld_23 {n : Nat} {Me : Mem} : ∀ (fu : Nat) (l1 : Int) (M : Mem), (0 ≤ l1 ∧ l1 ≤ 4) → 5 - l1 < (fu : Int) → I n M → Keep n W_X9_clearWorld Me M → wp (mX9_clearWorld_23 fu 126 l1 M) (fun q => I n q.2 ∧ Keep n W_X9_clearWorld Me q.2 ∧ True) := by
  intro fu
  induction fu with
  | zero =>
    intro l1 M r_l1 hf iM kM
    exfalso
    omega
  | succ fu ih =>
    intro l1 M r_l1 hf iM kM
    exact sb_X9_clearWorld_23 ih r_l1 (by have e : ((fu + 1 : Nat) : Int) = (fu : Int) + 1 := rfl; rw [e] at hf; exact hf) iM kM
theorem sb_X9_clearWorld_2 {n : Nat} {Me : Mem} {k2 : Int → Int → Mem → Option (Int × Mem)} {fu2 : Nat} (hk2 : ∀ (l1 : Int) (M : Mem), (0 ≤ l1 ∧ l1 ≤ 36) → 37 - l1 < (fu2 : Int) → I n M → Keep n W_X9_clearWorld Me M → wp (k2 126 l1 M) (fun q => I n q.2 ∧ Keep n W_X9_clearWorld Me q.2 ∧ True)) {l1 : Int} {M : Mem} (r_l1 : 0 ≤ l1 ∧ l1 ≤ 36) (hf2 : 37 - l1 < (fu2 : Int) + 1) (iM : I n M) (kM : Keep n W_X9_clearWorld Me M) : wp (bX9_clearWorld_2 k2 126 l1 M) (fun q => I n q.2 ∧ Keep n W_X9_clearWorld Me q.2 ∧ True) := by
  have hn : (169 : Int) ≤ (n : Int) := by have := iM.2.2.2.2.1; omega
  unfold bX9_clearWorld_2
  refine w_if (fun c1_ => ?_) (fun c1_ => ?_)
  · skip
    exact s_X9_clearWorld_23 FU _ _ ⟨by omega, by omega⟩ (by show _ < (70000 : Int); omega) iM kM
  · skip
    refine w_gFc (ji := 11) rfl (congrArg Prod.fst (kl_126 iM)) (show mG M 126 11 = 137 from rd_Model_11 iM (a := 126) rfl) ?_
    refine w_aSZ (kl_137 iM) (by omega) (by omega) (by omega) (fun M14 hM14 => ?_)
    replace hM14 : M14 = mS M 137 l1 0 := hM14
    have iM14 : I n M14 := wr_Mworld iM rfl ⟨by omega, by omega⟩ hM14
    have kM14 : Keep n W_X9_clearWorld Me M14 := kM.st hM14 (Or.inl (Or.inl rfl))
    have w2_ := wI_id (x := (l1 + 1)) (by omega) (by omega)
    exact hk2 _ _ ⟨by omega, by omega⟩ (by omega) iM14 kM14
theorem s_X9_clearWorld_2 {n : Nat} {Me : Mem} : ∀ (fu : Nat) (l1 : Int) (M : Mem), (0 ≤ l1 ∧ l1 ≤ 36) → 37 - l1 < (fu : Int) → I n M → Keep n W_X9_clearWorld Me M → wp (mX9_clearWorld_2 fu 126 l1 M) (fun q => I n q.2 ∧ Keep n W_X9_clearWorld Me q.2 ∧ True) := by
  intro fu
  induction fu with
  | zero =>
    intro l1 M r_l1 hf iM kM
    exfalso
    omega
  | succ fu ih =>
    intro l1 M r_l1 hf iM kM
    exact sb_X9_clearWorld_2 ih r_l1 (by have e : ((fu + 1 : Nat) : Int) = (fu : Int) + 1 := rfl; rw [e] at hf; exact hf) iM kM
theorem s_X9_clearWorld {n : Nat} {M : Mem} (iM : I n M) : wp (mX9_clearWorld 126 M) (fun q => I n q.2 ∧ Keep n W_X9_clearWorld M q.2 ∧ True) := by
  have hn : (169 : Int) ≤ (n : Int) := by have := iM.2.2.2.2.1; omega
  have kM : Keep n W_X9_clearWorld M M := Keep.rf
  unfold mX9_clearWorld
  exact s_X9_clearWorld_2 FU _ _ ⟨by omega, by omega⟩ (by show _ < (70000 : Int); omega) iM kM
def W_X9_size (b j : Int) : Prop := b = 133 ∨ b = 137 ∨ b = 151 ∨ (b = 126 ∧ j = 0)
theorem s_X9_size {n : Nat} {l1 l2 : Int} {M : Mem} (r_l1 : (-2147483648) ≤ l1 ∧ l1 ≤ 2147483647) (r_l2 : (-2147483648) ≤ l2 ∧ l2 ≤ 2147483647) (iM : I n M) : wp (mX9_size 126 l1 l2 M) (fun q => I n q.2 ∧ Keep n W_X9_size M q.2 ∧ (0 ≤ q.1 ∧ q.1 ≤ 1) ∧ True) := by
  have hn : (169 : Int) ≤ (n : Int) := by have := iM.2.2.2.2.1; omega
  have kM : Keep n W_X9_size M M := Keep.rf
  unfold mX9_size
  refine w_pF (ji := 0) rfl (congrArg Prod.fst (kl_126 iM)) (fun M2 hM2 => ?_)
  replace hM2 : M2 = mS M 126 0 0 := hM2
  have iM2 : I n M2 := wr_Model_0 iM rfl ⟨by omega, by omega⟩ hM2
  have kM2 : Keep n W_X9_size M M2 := kM.st hM2 (Or.inl (Or.inr (Or.inr (Or.inr ⟨rfl, rfl⟩))))
  refine w_call (s_X9_in ⟨by omega, by omega⟩ ⟨by omega, by omega⟩ ⟨by omega, by omega⟩ iM2) ?_
  intro v8 m8 pp8
  obtain ⟨im8, kk8, e8_0, e8_1, -⟩ := pp8
  try dsimp only
  replace im8 : I n m8 := im8
  replace kk8 : Keep n W_X9_in M2 m8 := kk8
  have km8 : Keep n W_X9_size M m8 := kM2.tr kk8 (fun b j z => z.elim)
  replace e8_0 : 0 ≤ v8 ∧ v8 ≤ 1 := e8_0
  replace e8_1 : v8 = 1 → 0 ≤ l1 ∧ l1 ≤ 2 := e8_1
  refine w_if (fun c1_ => ?_) (fun c1_ => ?_)
  · skip
    exact w_ret ⟨im8, km8, (show 0 ≤ 0 ∧ 0 ≤ 1 from ⟨by omega, by omega⟩), trivial⟩
  · skip
    refine w_call (s_X9_in ⟨by omega, by omega⟩ ⟨by omega, by omega⟩ ⟨by omega, by omega⟩ im8) ?_
    intro v17 m17 pp17
    obtain ⟨im17, kk17, e17_0, e17_1, -⟩ := pp17
    try dsimp only
    replace im17 : I n m17 := im17
    replace kk17 : Keep n W_X9_in m8 m17 := kk17
    have km17 : Keep n W_X9_size M m17 := km8.tr kk17 (fun b j z => z.elim)
    replace e17_0 : 0 ≤ v17 ∧ v17 ≤ 1 := e17_0
    replace e17_1 : v17 = 1 → 1 ≤ l2 ∧ l2 ≤ 3 := e17_1
    refine w_if (fun c2_ => ?_) (fun c2_ => ?_)
    · skip
      exact w_ret ⟨im17, km17, (show 0 ≤ 0 ∧ 0 ≤ 1 from ⟨by omega, by omega⟩), trivial⟩
    · skip
      refine w_gFc (ji := 7) rfl (congrArg Prod.fst (kl_126 im17)) (show mG m17 126 7 = 133 from rd_Model_7 im17 (a := 126) rfl) ?_
      refine w_aG (kl_133 im17) (by omega) (by omega) (fun a28 ha28 => ?_)
      have ra28 : 0 ≤ a28 ∧ a28 ≤ 3 ∧ (0 ≤ l1 → l1 < 3 → 1 ≤ a28) := ha28.tr (P := fun z => 0 ≤ z ∧ z ≤ 3 ∧ (0 ≤ l1 → l1 < 3 → 1 ≤ z)) (rd_Msizes im17 rfl)
      refine w_if (fun c3_ => ?_) (fun c3_ => ?_)
      · skip
        exact w_ret ⟨im17, km17, (show 0 ≤ 0 ∧ 0 ≤ 1 from ⟨by omega, by omega⟩), trivial⟩
      · skip
        refine w_gFc (ji := 7) rfl (congrArg Prod.fst (kl_126 im17)) (show mG m17 126 7 = 133 from rd_Model_7 im17 (a := 126) rfl) ?_
        refine w_aS (kl_133 im17) (by omega) (by omega) (fun M41 hM41 => ?_)
        replace hM41 : M41 = mS m17 133 l1 l2 := hM41
        have iM41 : I n M41 := wr_Msizes im17 rfl ⟨by omega, by omega, by omega⟩ (KI.sz im17.2.2.2.2.2 hM41 (by omega)) hM41
        have kM41 : Keep n W_X9_size M M41 := km17.st hM41 (Or.inl (Or.inl rfl))
        refine w_gK (congrArg Prod.fst (kl_126 iM41)) ?_
        refine w_call (s_X9_clearWorld iM41) ?_
        intro v43 m43 pp43
        obtain ⟨im43, kk43, -⟩ := pp43
        try dsimp only
        replace im43 : I n m43 := im43
        replace kk43 : Keep n W_X9_clearWorld M41 m43 := kk43
        have km43 : Keep n W_X9_size M m43 := kM41.tr kk43 (fun b j z => Or.elim z (fun z => (Or.inr (Or.inl z))) (fun z => (Or.inr (Or.inr (Or.inl z)))))
        exact w_ret ⟨im43, km43, (show 0 ≤ 1 ∧ 1 ≤ 1 from ⟨by omega, by omega⟩), trivial⟩
def W_X9_relation (b j : Int) : Prop := (134 ≤ b ∧ b ≤ 137) ∨ b = 151 ∨ (b = 126 ∧ j = 0)
theorem s_X9_relation {n : Nat} {l1 l2 : Int} {M : Mem} (r_l1 : (-2147483648) ≤ l1 ∧ l1 ≤ 2147483647) (r_l2 : (-2147483648) ≤ l2 ∧ l2 ≤ 2147483647) (iM : I n M) : wp (mX9_relation 126 l1 l2 M) (fun q => I n q.2 ∧ Keep n W_X9_relation M q.2 ∧ ((-1) ≤ q.1 ∧ q.1 ≤ 3) ∧ True) := by
  have hn : (169 : Int) ≤ (n : Int) := by have := iM.2.2.2.2.1; omega
  have kM : Keep n W_X9_relation M M := Keep.rf
  unfold mX9_relation
  refine w_pF (ji := 0) rfl (congrArg Prod.fst (kl_126 iM)) (fun M2 hM2 => ?_)
  replace hM2 : M2 = mS M 126 0 0 := hM2
  have iM2 : I n M2 := wr_Model_0 iM rfl ⟨by omega, by omega⟩ hM2
  have kM2 : Keep n W_X9_relation M M2 := kM.st hM2 (Or.inl (Or.inr (Or.inr ⟨rfl, rfl⟩)))
  refine w_gFc (ji := 8) rfl (congrArg Prod.fst (kl_126 iM2)) (show mG M2 126 8 = 134 from rd_Model_8 iM2 (a := 126) rfl) ?_
  refine w_aG (kl_134 iM2) (by decide) (by decide) (fun a10 ha10 => ?_)
  have ra10 : 0 ≤ a10 ∧ a10 ≤ 4 := ha10.tr (P := fun z => 0 ≤ z ∧ z ≤ 4) (rd_Mrelations iM2 rfl)
  refine w_if (fun c1_ => ?_) (fun c1_ => ?_)
  · skip
    exact w_ret ⟨iM2, kM2, (show (-1) ≤ (-1) ∧ (-1) ≤ 3 from ⟨by omega, by omega⟩), trivial⟩
  · skip
    refine w_call (s_X9_in ⟨by omega, by omega⟩ ⟨by omega, by omega⟩ ⟨by omega, by omega⟩ iM2) ?_
    intro v18 m18 pp18
    obtain ⟨im18, kk18, e18_0, e18_1, -⟩ := pp18
    try dsimp only
    replace im18 : I n m18 := im18
    replace kk18 : Keep n W_X9_in M2 m18 := kk18
    have km18 : Keep n W_X9_relation M m18 := kM2.tr kk18 (fun b j z => z.elim)
    replace e18_0 : 0 ≤ v18 ∧ v18 ≤ 1 := e18_0
    replace e18_1 : v18 = 1 → 0 ≤ l1 ∧ l1 ≤ 2 := e18_1
    refine w_if (fun c2_ => ?_) (fun c2_ => ?_)
    · skip
      exact w_ret ⟨im18, km18, (show (-1) ≤ (-1) ∧ (-1) ≤ 3 from ⟨by omega, by omega⟩), trivial⟩
    · skip
      refine w_call (s_X9_in ⟨by omega, by omega⟩ ⟨by omega, by omega⟩ ⟨by omega, by omega⟩ im18) ?_
      intro v27 m27 pp27
      obtain ⟨im27, kk27, e27_0, e27_1, -⟩ := pp27
      try dsimp only
      replace im27 : I n m27 := im27
      replace kk27 : Keep n W_X9_in m18 m27 := kk27
      have km27 : Keep n W_X9_relation M m27 := km18.tr kk27 (fun b j z => z.elim)
      replace e27_0 : 0 ≤ v27 ∧ v27 ≤ 1 := e27_0
      replace e27_1 : v27 = 1 → (-1) ≤ l2 ∧ l2 ≤ 2 := e27_1
      refine w_if (fun c3_ => ?_) (fun c3_ => ?_)
      · skip
        exact w_ret ⟨im27, km27, (show (-1) ≤ (-1) ∧ (-1) ≤ 3 from ⟨by omega, by omega⟩), trivial⟩
      · skip
        refine w_gFc (ji := 8) rfl (congrArg Prod.fst (kl_126 im27)) (show mG m27 126 8 = 134 from rd_Model_8 im27 (a := 126) rfl) ?_
        refine w_aGc (kl_134 im27) (by omega) (by omega) (show mG m27 134 0 = a10 from ((kk27.2.2 134 0 (by omega) (fun z => z)).trans ((kk18.2.2 134 0 (by omega) (fun z => z)).trans (show mG M2 134 0 = a10 from ha10)))) ?_
        refine w_gFc (ji := 8) rfl (congrArg Prod.fst (kl_126 im27)) (show mG m27 126 8 = 134 from rd_Model_8 im27 (a := 126) rfl) ?_
        refine w_aGc (kl_134 im27) (by omega) (by omega) (show mG m27 134 0 = a10 from ((kk27.2.2 134 0 (by omega) (fun z => z)).trans ((kk18.2.2 134 0 (by omega) (fun z => z)).trans (show mG M2 134 0 = a10 from ha10)))) ?_
        have w4_ := wI_id (x := (a10 + 1)) (by omega) (by omega)
        refine w_aS (kl_134 im27) (by omega) (by omega) (fun M51 hM51 => ?_)
        replace hM51 : M51 = mS m27 134 0 (wI (a10 + 1)) := hM51
        have iM51 : I n M51 := wr_Mrelations im27 rfl ⟨by omega, by omega⟩ hM51
        have kM51 : Keep n W_X9_relation M M51 := km27.st hM51 (Or.inl (Or.inl ⟨by decide, by decide⟩))
        obtain ⟨svM51, esvM51⟩ : ∃ z, z = (wI (a10 + 1)) := ⟨_, rfl⟩
        refine w_gFc (ji := 9) rfl (congrArg Prod.fst (kl_126 iM51)) (show mG M51 126 9 = 135 from rd_Model_9 iM51 (a := 126) rfl) ?_
        refine w_aS (kl_135 iM51) (by omega) (by omega) (fun M58 hM58 => ?_)
        replace hM58 : M58 = mS M51 135 a10 l1 := hM58
        have iM58 : I n M58 := wr_MfirstKind iM51 rfl ⟨by omega, by omega⟩ hM58
        have kM58 : Keep n W_X9_relation M M58 := kM51.st hM58 (Or.inl (Or.inl ⟨by decide, by decide⟩))
        refine w_gFc (ji := 10) rfl (congrArg Prod.fst (kl_126 iM58)) (show mG M58 126 10 = 136 from rd_Model_10 iM58 (a := 126) rfl) ?_
        refine w_aS (kl_136 iM58) (by omega) (by omega) (fun M65 hM65 => ?_)
        replace hM65 : M65 = mS M58 136 a10 l2 := hM65
        have iM65 : I n M65 := wr_MsecondKind iM58 rfl ⟨by omega, by omega⟩ hM65
        have kM65 : Keep n W_X9_relation M M65 := kM58.st hM65 (Or.inl (Or.inl ⟨by decide, by decide⟩))
        refine w_gK (congrArg Prod.fst (kl_126 iM65)) ?_
        refine w_call (s_X9_clearWorld iM65) ?_
        intro v67 m67 pp67
        obtain ⟨im67, kk67, -⟩ := pp67
        try dsimp only
        replace im67 : I n m67 := im67
        replace kk67 : Keep n W_X9_clearWorld M65 m67 := kk67
        have km67 : Keep n W_X9_relation M m67 := kM65.tr kk67 (fun b j z => Or.elim z (fun z => (Or.inl ⟨by omega, by omega⟩)) (fun z => (Or.inr (Or.inl z))))
        exact w_ret ⟨im67, km67, (show (-1) ≤ a10 ∧ a10 ≤ 3 from ⟨by omega, by omega⟩), trivial⟩
def W_X9_manyFacts (b j : Int) : Prop := False
theorem s_X9_manyFacts {n : Nat} {M : Mem} (iM : I n M) : wp (mX9_manyFacts 126 M) (fun q => I n q.2 ∧ Keep n W_X9_manyFacts M q.2 ∧ (0 ≤ q.1 ∧ q.1 ≤ 36) ∧ (q.1 = mG q.2 153 (mG q.2 134 0)) ∧ True) := by
  have hn : (169 : Int) ≤ (n : Int) := by have := iM.2.2.2.2.1; omega
  have kM : Keep n W_X9_manyFacts M M := Keep.rf
  unfold mX9_manyFacts
  refine w_gFc (ji := 27) rfl (congrArg Prod.fst (kl_126 iM)) (show mG M 126 27 = 153 from rd_Model_27 iM (a := 126) rfl) ?_
  refine w_gFc (ji := 8) rfl (congrArg Prod.fst (kl_126 iM)) (show mG M 126 8 = 134 from rd_Model_8 iM (a := 126) rfl) ?_
  refine w_aG (kl_134 iM) (by decide) (by decide) (fun a9 ha9 => ?_)
  have ra9 : 0 ≤ a9 ∧ a9 ≤ 4 := ha9.tr (P := fun z => 0 ≤ z ∧ z ≤ 4) (rd_Mrelations iM rfl)
  refine w_aG (kl_153 iM) (by omega) (by omega) (fun a10 ha10 => ?_)
  have ra10 : 0 ≤ a10 ∧ a10 ≤ 9 * a9 := ha10.tr (P := fun z => 0 ≤ z ∧ z ≤ 9 * a9) (rd_Mstart iM rfl (by omega) (by omega))
  exact w_ret ⟨iM, kM, (show 0 ≤ a10 ∧ a10 ≤ 36 from ⟨by omega, by omega⟩), (show a10 = mG M 153 (mG M 134 0) from (by rw [show mG M 134 0 = a9 from (show mG M 134 0 = a9 from ha9)]; exact ((show mG M 153 a9 = a10 from ha10)).symm)), trivial⟩
def W_X9_facts (b j : Int) : Prop := (152 ≤ b ∧ b ≤ 153) ∨ (b = 126 ∧ j = 0)
theorem s_X9_facts {n : Nat} {M : Mem} (iM : I n M) : wp (mX9_facts 126 M) (fun q => I n q.2 ∧ Keep n W_X9_facts M q.2 ∧ (0 ≤ q.1 ∧ q.1 ≤ 36) ∧ True) := by
  have hn : (169 : Int) ≤ (n : Int) := by have := iM.2.2.2.2.1; omega
  have kM : Keep n W_X9_facts M M := Keep.rf
  unfold mX9_facts
  refine w_pF (ji := 0) rfl (congrArg Prod.fst (kl_126 iM)) (fun M2 hM2 => ?_)
  replace hM2 : M2 = mS M 126 0 0 := hM2
  have iM2 : I n M2 := wr_Model_0 iM rfl ⟨by omega, by omega⟩ hM2
  have kM2 : Keep n W_X9_facts M M2 := kM.st hM2 (Or.inl (Or.inr ⟨rfl, rfl⟩))
  refine w_gK (congrArg Prod.fst (kl_126 iM2)) ?_
  refine w_call (s_X9_bringSizes iM2) ?_
  intro v6 m6 pp6
  obtain ⟨im6, kk6, e6_0, e6_1, -⟩ := pp6
  try dsimp only
  replace im6 : I n m6 := im6
  replace kk6 : Keep n W_X9_bringSizes M2 m6 := kk6
  have km6 : Keep n W_X9_facts M m6 := kM2.tr kk6 (fun b j z => by unfold W_X9_bringSizes at z; exact (Or.inl z))
  replace e6_0 : NP m6 := e6_0
  have gNP_m6 := e6_0
  replace e6_1 : SF m6 := e6_1
  have gSF_m6 := e6_1
  refine w_gK (congrArg Prod.fst (kl_126 im6)) ?_
  refine w_call (s_X9_manyFacts im6) ?_
  intro v10 m10 pp10
  obtain ⟨im10, kk10, e10_0, e10_1, -⟩ := pp10
  try dsimp only
  replace im10 : I n m10 := im10
  replace kk10 : Keep n W_X9_manyFacts m6 m10 := kk10
  have km10 : Keep n W_X9_facts M m10 := km6.tr kk10 (fun b j z => z.elim)
  replace e10_0 : 0 ≤ v10 ∧ v10 ≤ 36 := e10_0
  replace e10_1 : v10 = mG m10 153 (mG m10 134 0) := e10_1
  have ev10 := e10_1
  exact w_ret ⟨im10, km10, (show 0 ≤ v10 ∧ v10 ≤ 36 from ⟨by omega, by omega⟩), trivial⟩
def W_X9_isRelation (b j : Int) : Prop := False
theorem s_X9_isRelation {n : Nat} {l1 : Int} {M : Mem} (r_l1 : (-2147483648) ≤ l1 ∧ l1 ≤ 2147483647) (iM : I n M) : wp (mX9_isRelation 126 l1 M) (fun q => I n q.2 ∧ Keep n W_X9_isRelation M q.2 ∧ (0 ≤ q.1 ∧ q.1 ≤ 1) ∧ (q.1 = 1 → 0 ≤ l1 ∧ l1 ≤ 3) ∧ True) := by
  have hn : (169 : Int) ≤ (n : Int) := by have := iM.2.2.2.2.1; omega
  have kM : Keep n W_X9_isRelation M M := Keep.rf
  unfold mX9_isRelation
  refine w_gFc (ji := 8) rfl (congrArg Prod.fst (kl_126 iM)) (show mG M 126 8 = 134 from rd_Model_8 iM (a := 126) rfl) ?_
  refine w_aG (kl_134 iM) (by decide) (by decide) (fun a7 ha7 => ?_)
  have ra7 : 0 ≤ a7 ∧ a7 ≤ 4 := ha7.tr (P := fun z => 0 ≤ z ∧ z ≤ 4) (rd_Mrelations iM rfl)
  have w1_ := wI_id (x := (a7 - 1)) (by omega) (by omega)
  refine w_call (s_X9_in ⟨by omega, by omega⟩ ⟨by omega, by omega⟩ ⟨by omega, by omega⟩ iM) ?_
  intro v10 m10 pp10
  obtain ⟨im10, kk10, e10_0, e10_1, -⟩ := pp10
  try dsimp only
  replace im10 : I n m10 := im10
  replace kk10 : Keep n W_X9_in M m10 := kk10
  have km10 : Keep n W_X9_isRelation M m10 := kM.tr kk10 (fun b j z => z.elim)
  replace e10_0 : 0 ≤ v10 ∧ v10 ≤ 1 := e10_0
  replace e10_1 : v10 = 1 → 0 ≤ l1 ∧ l1 ≤ (wI (a7 - 1)) := e10_1
  refine w_zR (by omega) (fun z hz => ?_)
  exact w_ret ⟨im10, km10, (show 0 ≤ z ∧ z ≤ 1 from ⟨by omega, by omega⟩), (show z = 1 → 0 ≤ l1 ∧ l1 ≤ 3 from fun z => by omega), trivial⟩
def W_X9_sizeOf (b j : Int) : Prop := False
theorem s_X9_sizeOf {n : Nat} {l1 : Int} {M : Mem} (r_l1 : (-1) ≤ l1 ∧ l1 ≤ 2) (p_NP : NP M) (iM : I n M) : wp (mX9_sizeOf 126 l1 M) (fun q => I n q.2 ∧ Keep n W_X9_sizeOf M q.2 ∧ (1 ≤ q.1 ∧ q.1 ≤ 3) ∧ True) := by
  have hn : (169 : Int) ≤ (n : Int) := by have := iM.2.2.2.2.1; omega
  have kM : Keep n W_X9_sizeOf M M := Keep.rf
  unfold mX9_sizeOf
  refine w_if (fun c1_ => ?_) (fun c1_ => ?_)
  · skip
    exact w_ret ⟨iM, kM, (show 1 ≤ 1 ∧ 1 ≤ 3 from ⟨by omega, by omega⟩), trivial⟩
  · skip
    refine w_gFc (ji := 26) rfl (congrArg Prod.fst (kl_126 iM)) (show mG M 126 26 = 152 from rd_Model_26 iM (a := 126) rfl) ?_
    refine w_aG (kl_152 iM) (by omega) (by omega) (fun a14 ha14 => ?_)
    have ra14 : (-9) ≤ a14 ∧ a14 ≤ 9 := ha14.tr (P := fun z => (-9) ≤ z ∧ z ≤ 9) (rd_Mnow iM rfl)
    have qa14 : 1 ≤ a14 ∧ a14 ≤ 3 := by rw [← ha14.e]; exact p_NP l1 (by omega) (by omega)
    exact w_ret ⟨iM, kM, (show 1 ≤ a14 ∧ a14 ≤ 3 from ⟨by omega, by omega⟩), trivial⟩
def W_X9_factAt (b j : Int) : Prop := False
theorem s_X9_factAt_15 {n : Nat} {Me : Mem} {l1 l2 s0 : Int} {M : Mem} (r_l1 : 0 ≤ l1 ∧ l1 ≤ 3) (r_l2 : (-2147483648) ≤ l2 ∧ l2 ≤ 2147483647) (r_s0 : (-2147483648) ≤ s0 ∧ s0 ≤ 2147483647) (p_NP : NP M) (iM : I n M) (kM : Keep n W_X9_factAt Me M) : wp (mX9_factAt_15 126 l1 l2 s0 M) (fun q => I n q.2 ∧ Keep n W_X9_factAt Me q.2 ∧ ((-1) ≤ q.1 ∧ q.1 ≤ 35) ∧ True) := by
  have hn : (169 : Int) ≤ (n : Int) := by have := iM.2.2.2.2.1; omega
  unfold mX9_factAt_15
  refine w_gFc (ji := 9) rfl (congrArg Prod.fst (kl_126 iM)) (show mG M 126 9 = 135 from rd_Model_9 iM (a := 126) rfl) ?_
  refine w_aG (kl_135 iM) (by omega) (by omega) (fun a25 ha25 => ?_)
  have ra25 : 0 ≤ a25 ∧ a25 ≤ 2 := ha25.tr (P := fun z => 0 ≤ z ∧ z ≤ 2) (rd_MfirstKind iM rfl)
  refine w_gK (congrArg Prod.fst (kl_126 iM)) ?_
  refine w_call (s_X9_sizeOf ⟨by omega, by omega⟩ p_NP iM) ?_
  intro v26 m26 pp26
  obtain ⟨im26, kk26, e26_0, -⟩ := pp26
  try dsimp only
  replace im26 : I n m26 := im26
  replace kk26 : Keep n W_X9_sizeOf M m26 := kk26
  have km26 : Keep n W_X9_factAt Me m26 := kM.tr kk26 (fun b j z => z.elim)
  replace e26_0 : 1 ≤ v26 ∧ v26 ≤ 3 := e26_0
  have w1_ := wI_id (x := (v26 - 1)) (by omega) (by omega)
  refine w_call (s_X9_in ⟨by omega, by omega⟩ ⟨by omega, by omega⟩ ⟨by omega, by omega⟩ im26) ?_
  intro v31 m31 pp31
  obtain ⟨im31, kk31, e31_0, e31_1, -⟩ := pp31
  try dsimp only
  replace im31 : I n m31 := im31
  replace kk31 : Keep n W_X9_in m26 m31 := kk31
  have km31 : Keep n W_X9_factAt Me m31 := km26.tr kk31 (fun b j z => z.elim)
  replace e31_0 : 0 ≤ v31 ∧ v31 ≤ 1 := e31_0
  replace e31_1 : v31 = 1 → 0 ≤ l2 ∧ l2 ≤ (wI (v26 - 1)) := e31_1
  refine w_if (fun c2_ => ?_) (fun c2_ => ?_)
  · skip
    exact w_ret ⟨im31, km31, (show (-1) ≤ (-1) ∧ (-1) ≤ 35 from ⟨by omega, by omega⟩), trivial⟩
  · skip
    refine w_gFc (ji := 10) rfl (congrArg Prod.fst (kl_126 im31)) (show mG m31 126 10 = 136 from rd_Model_10 im31 (a := 126) rfl) ?_
    refine w_aG (kl_136 im31) (by omega) (by omega) (fun a46 ha46 => ?_)
    have ra46 : (-1) ≤ a46 ∧ a46 ≤ 2 := ha46.tr (P := fun z => (-1) ≤ z ∧ z ≤ 2) (rd_MsecondKind im31 rfl)
    refine w_gK (congrArg Prod.fst (kl_126 im31)) ?_
    have ppNP_m31 : NP m31 := (NP_of (NP_of p_NP (fun j => kk26.2.2 152 j (by omega) (fun z => z))) (fun j => kk31.2.2 152 j (by omega) (fun z => z)))
    refine w_call (s_X9_sizeOf ⟨by omega, by omega⟩ ppNP_m31 im31) ?_
    intro v47 m47 pp47
    obtain ⟨im47, kk47, e47_0, -⟩ := pp47
    try dsimp only
    replace im47 : I n m47 := im47
    replace kk47 : Keep n W_X9_sizeOf m31 m47 := kk47
    have km47 : Keep n W_X9_factAt Me m47 := km31.tr kk47 (fun b j z => z.elim)
    replace e47_0 : 1 ≤ v47 ∧ v47 ≤ 3 := e47_0
    have w3_ := wI_id (x := (v47 - 1)) (by omega) (by omega)
    refine w_call (s_X9_in ⟨by omega, by omega⟩ ⟨by omega, by omega⟩ ⟨by omega, by omega⟩ im47) ?_
    intro v52 m52 pp52
    obtain ⟨im52, kk52, e52_0, e52_1, -⟩ := pp52
    try dsimp only
    replace im52 : I n m52 := im52
    replace kk52 : Keep n W_X9_in m47 m52 := kk52
    have km52 : Keep n W_X9_factAt Me m52 := km47.tr kk52 (fun b j z => z.elim)
    replace e52_0 : 0 ≤ v52 ∧ v52 ≤ 1 := e52_0
    replace e52_1 : v52 = 1 → 0 ≤ s0 ∧ s0 ≤ (wI (v47 - 1)) := e52_1
    refine w_if (fun c4_ => ?_) (fun c4_ => ?_)
    · skip
      exact w_ret ⟨im52, km52, (show (-1) ≤ (-1) ∧ (-1) ≤ 35 from ⟨by omega, by omega⟩), trivial⟩
    · skip
      refine w_gFc (ji := 27) rfl (congrArg Prod.fst (kl_126 im52)) (show mG m52 126 27 = 153 from rd_Model_27 im52 (a := 126) rfl) ?_
      refine w_aG (kl_153 im52) (by omega) (by omega) (fun a63 ha63 => ?_)
      have ra63 : 0 ≤ a63 ∧ a63 ≤ 9 * l1 := ha63.tr (P := fun z => 0 ≤ z ∧ z ≤ 9 * l1) (rd_Mstart im52 rfl (by omega) (by omega))
      refine w_gFc (ji := 10) rfl (congrArg Prod.fst (kl_126 im52)) (show mG m52 126 10 = 136 from rd_Model_10 im52 (a := 126) rfl) ?_
      refine w_aGc (kl_136 im52) (by omega) (by omega) (show mG m52 136 l1 = a46 from ((kk52.2.2 136 l1 (by omega) (fun z => z)).trans ((kk47.2.2 136 l1 (by omega) (fun z => z)).trans (show mG m31 136 l1 = a46 from ha46)))) ?_
      refine w_gK (congrArg Prod.fst (kl_126 im52)) ?_
      have ppNP_m52 : NP m52 := (NP_of (NP_of ppNP_m31 (fun j => kk47.2.2 152 j (by omega) (fun z => z))) (fun j => kk52.2.2 152 j (by omega) (fun z => z)))
      refine w_call (s_X9_sizeOf ⟨by omega, by omega⟩ ppNP_m52 im52) ?_
      intro v71 m71 pp71
      obtain ⟨im71, kk71, e71_0, -⟩ := pp71
      try dsimp only
      replace im71 : I n m71 := im71
      replace kk71 : Keep n W_X9_sizeOf m52 m71 := kk71
      have km71 : Keep n W_X9_factAt Me m71 := km52.tr kk71 (fun b j z => z.elim)
      replace e71_0 : 1 ≤ v71 ∧ v71 ≤ 3 := e71_0
      have w5_ := mul_b (x := v71) (y := l2) (a := 3) (b := 2) (by omega) (by omega) (by omega) (by omega)
      have w6_ := wI_id (x := (v71 * l2)) (by omega) (by omega)
      have w7_ := wI_id (x := (a63 + (wI (v71 * l2)))) (by omega) (by omega)
      have w8_ := wI_id (x := ((wI (a63 + (wI (v71 * l2)))) + s0)) (by omega) (by omega)
      exact w_ret ⟨im71, km71, (show (-1) ≤ (wI ((wI (a63 + (wI (v71 * l2)))) + s0)) ∧ (wI ((wI (a63 + (wI (v71 * l2)))) + s0)) ≤ 35 from ⟨by omega, by omega⟩), trivial⟩
theorem s_X9_factAt {n : Nat} {l1 l2 l3 : Int} {M : Mem} (r_l1 : 0 ≤ l1 ∧ l1 ≤ 3) (r_l2 : (-2147483648) ≤ l2 ∧ l2 ≤ 2147483647) (r_l3 : (-2147483648) ≤ l3 ∧ l3 ≤ 2147483647) (p_NP : NP M) (iM : I n M) : wp (mX9_factAt 126 l1 l2 l3 M) (fun q => I n q.2 ∧ Keep n W_X9_factAt M q.2 ∧ ((-1) ≤ q.1 ∧ q.1 ≤ 35) ∧ True) := by
  have hn : (169 : Int) ≤ (n : Int) := by have := iM.2.2.2.2.1; omega
  have kM : Keep n W_X9_factAt M M := Keep.rf
  unfold mX9_factAt
  refine w_gFc (ji := 10) rfl (congrArg Prod.fst (kl_126 iM)) (show mG M 126 10 = 136 from rd_Model_10 iM (a := 126) rfl) ?_
  refine w_aG (kl_136 iM) (by omega) (by omega) (fun a5 ha5 => ?_)
  have ra5 : (-1) ≤ a5 ∧ a5 ≤ 2 := ha5.tr (P := fun z => (-1) ≤ z ∧ z ≤ 2) (rd_MsecondKind iM rfl)
  refine w_if (fun c1_ => ?_) (fun c1_ => ?_)
  · skip
    exact s_X9_factAt_15 ⟨by omega, by omega⟩ ⟨by omega, by omega⟩ ⟨by omega, by omega⟩ p_NP iM kM
  · skip
    exact s_X9_factAt_15 ⟨by omega, by omega⟩ ⟨by omega, by omega⟩ ⟨by omega, by omega⟩ p_NP iM kM
def W_X9_toldFact (b j : Int) : Prop := (152 ≤ b ∧ b ≤ 153)
theorem s_X9_toldFact {n : Nat} {l1 l2 l3 : Int} {M : Mem} (r_l1 : (-2147483648) ≤ l1 ∧ l1 ≤ 2147483647) (r_l2 : (-2147483648) ≤ l2 ∧ l2 ≤ 2147483647) (r_l3 : (-2147483648) ≤ l3 ∧ l3 ≤ 2147483647) (iM : I n M) : wp (mX9_toldFact 126 l1 l2 l3 M) (fun q => I n q.2 ∧ Keep n W_X9_toldFact M q.2 ∧ ((-1) ≤ q.1 ∧ q.1 ≤ 35) ∧ (NP q.2) ∧ (SF q.2) ∧ (FB q.2 q.1) ∧ True) := by
  unfold mX9_toldFact
  refine w_gK (congrArg Prod.fst (kl_126 iM)) ?_
  refine w_call (s_X9_bringSizes iM) ?_
  rintro v1 m1 ⟨i1, k1, n1, s1, -⟩
  have i1 : I n m1 := i1
  have n1 : NP m1 := n1
  have s1 : SF m1 := s1
  have kk : Keep n W_X9_toldFact M m1 := Keep.sub k1 (fun b j z => z)
  dsimp only
  refine w_gK (congrArg Prod.fst (kl_126 i1)) ?_
  refine w_call (x_isRel i1) ?_
  rintro v6 m6 ⟨e6, q6⟩
  have e6 : m6 = m1 := e6
  have q6 : (v6 = 1 ∧ 0 ≤ l1 ∧ l1 < mG m1 134 0) ∨ (v6 = 0 ∧ ¬ (0 ≤ l1 ∧ l1 < mG m1 134 0)) := q6
  subst e6
  dsimp only
  refine w_if (fun c => ?_) (fun c => ?_)
  · exact w_ret ⟨i1, kk, (show (-1 : Int) ≤ -1 ∧ (-1 : Int) ≤ 35 from by decide), n1, s1, FB_neg i1, trivial⟩
  · refine w_gK (congrArg Prod.fst (kl_126 i1)) ?_
    refine w_call (x_factAt (by omega) (by omega) n1 s1 i1) ?_
    rintro v16 m16 ⟨e16, r16, f16⟩
    have e16 : m16 = m6 := e16
    subst e16
    exact w_ret ⟨i1, kk, r16, n1, s1, f16, trivial⟩
def W_X9_tell (b j : Int) : Prop := b = 137 ∨ (152 ≤ b ∧ b ≤ 153) ∨ (b = 126 ∧ j = 0)
theorem s_X9_tell {n : Nat} {l1 l2 l3 l4 : Int} {M : Mem} (r_l1 : (-2147483648) ≤ l1 ∧ l1 ≤ 2147483647) (r_l2 : (-2147483648) ≤ l2 ∧ l2 ≤ 2147483647) (r_l3 : (-2147483648) ≤ l3 ∧ l3 ≤ 2147483647) (r_l4 : 0 ≤ l4 ∧ l4 ≤ 1) (iM : I n M) : wp (mX9_tell 126 l1 l2 l3 l4 M) (fun q => I n q.2 ∧ Keep n W_X9_tell M q.2 ∧ (0 ≤ q.1 ∧ q.1 ≤ 1) ∧ True) := by
  have hn : (169 : Int) ≤ (n : Int) := by have := iM.2.2.2.2.1; omega
  have kM : Keep n W_X9_tell M M := Keep.rf
  unfold mX9_tell
  refine w_pF (ji := 0) rfl (congrArg Prod.fst (kl_126 iM)) (fun M2 hM2 => ?_)
  replace hM2 : M2 = mS M 126 0 0 := hM2
  have iM2 : I n M2 := wr_Model_0 iM rfl ⟨by omega, by omega⟩ hM2
  have kM2 : Keep n W_X9_tell M M2 := kM.st hM2 (Or.inl (Or.inr (Or.inr ⟨rfl, rfl⟩)))
  refine w_gK (congrArg Prod.fst (kl_126 iM2)) ?_
  refine w_call (s_X9_toldFact ⟨by omega, by omega⟩ ⟨by omega, by omega⟩ ⟨by omega, by omega⟩ iM2) ?_
  intro v9 m9 pp9
  obtain ⟨im9, kk9, e9_0, e9_1, e9_2, e9_3, -⟩ := pp9
  try dsimp only
  replace im9 : I n m9 := im9
  replace kk9 : Keep n W_X9_toldFact M2 m9 := kk9
  have km9 : Keep n W_X9_tell M m9 := kM2.tr kk9 (fun b j z => by unfold W_X9_toldFact at z; exact (Or.inr (Or.inl z)))
  replace e9_0 : (-1) ≤ v9 ∧ v9 ≤ 35 := e9_0
  replace e9_1 : NP m9 := e9_1
  have gNP_m9 := e9_1
  replace e9_2 : SF m9 := e9_2
  have gSF_m9 := e9_2
  replace e9_3 : FB m9 v9 := e9_3
  refine w_if (fun c1_ => ?_) (fun c1_ => ?_)
  · skip
    exact w_ret ⟨im9, km9, (show 0 ≤ 0 ∧ 0 ≤ 1 from ⟨by omega, by omega⟩), trivial⟩
  · skip
    refine w_gFc (ji := 11) rfl (congrArg Prod.fst (kl_126 im9)) (show mG m9 126 11 = 137 from rd_Model_11 im9 (a := 126) rfl) ?_
    refine w_aG (kl_137 im9) (by omega) (by omega) (fun a26 ha26 => ?_)
    have ra26 : 0 ≤ a26 ∧ a26 ≤ 1 := ha26.tr (P := fun z => 0 ≤ z ∧ z ≤ 1) (rd_Mworld im9 rfl)
    refine w_if (fun c2_ => ?_) (fun c2_ => ?_)
    · skip
      exact w_ret ⟨im9, km9, (show 0 ≤ 0 ∧ 0 ≤ 1 from ⟨by omega, by omega⟩), trivial⟩
    · skip
      refine w_gFc (ji := 11) rfl (congrArg Prod.fst (kl_126 im9)) (show mG m9 126 11 = 137 from rd_Model_11 im9 (a := 126) rfl) ?_
      refine w_aSZ (kl_137 im9) (by omega) (by omega) (by omega) (fun M42 hM42 => ?_)
      replace hM42 : M42 = mS m9 137 v9 l4 := hM42
      have iM42 : I n M42 := wr_Mworld im9 rfl ⟨by omega, by omega⟩ hM42
      have kM42 : Keep n W_X9_tell M M42 := km9.st hM42 (Or.inl (Or.inl rfl))
      exact w_ret ⟨iM42, kM42, (show 0 ≤ 1 ∧ 1 ≤ 1 from ⟨by omega, by omega⟩), trivial⟩
def W_X9_fact (b j : Int) : Prop := (152 ≤ b ∧ b ≤ 153) ∨ (b = 126 ∧ j = 0)
theorem s_X9_fact {n : Nat} {l1 l2 l3 : Int} {M : Mem} (r_l1 : (-2147483648) ≤ l1 ∧ l1 ≤ 2147483647) (r_l2 : (-2147483648) ≤ l2 ∧ l2 ≤ 2147483647) (r_l3 : (-2147483648) ≤ l3 ∧ l3 ≤ 2147483647) (iM : I n M) : wp (mX9_fact 126 l1 l2 l3 M) (fun q => I n q.2 ∧ Keep n W_X9_fact M q.2 ∧ ((-1) ≤ q.1 ∧ q.1 ≤ 1) ∧ True) := by
  have hn : (169 : Int) ≤ (n : Int) := by have := iM.2.2.2.2.1; omega
  have kM : Keep n W_X9_fact M M := Keep.rf
  unfold mX9_fact
  refine w_pF (ji := 0) rfl (congrArg Prod.fst (kl_126 iM)) (fun M2 hM2 => ?_)
  replace hM2 : M2 = mS M 126 0 0 := hM2
  have iM2 : I n M2 := wr_Model_0 iM rfl ⟨by omega, by omega⟩ hM2
  have kM2 : Keep n W_X9_fact M M2 := kM.st hM2 (Or.inl (Or.inr ⟨rfl, rfl⟩))
  refine w_gK (congrArg Prod.fst (kl_126 iM2)) ?_
  refine w_call (s_X9_toldFact ⟨by omega, by omega⟩ ⟨by omega, by omega⟩ ⟨by omega, by omega⟩ iM2) ?_
  intro v9 m9 pp9
  obtain ⟨im9, kk9, e9_0, e9_1, e9_2, e9_3, -⟩ := pp9
  try dsimp only
  replace im9 : I n m9 := im9
  replace kk9 : Keep n W_X9_toldFact M2 m9 := kk9
  have km9 : Keep n W_X9_fact M m9 := kM2.tr kk9 (fun b j z => by unfold W_X9_toldFact at z; exact (Or.inl z))
  replace e9_0 : (-1) ≤ v9 ∧ v9 ≤ 35 := e9_0
  replace e9_1 : NP m9 := e9_1
  have gNP_m9 := e9_1
  replace e9_2 : SF m9 := e9_2
  have gSF_m9 := e9_2
  replace e9_3 : FB m9 v9 := e9_3
  refine w_if (fun c1_ => ?_) (fun c1_ => ?_)
  · skip
    exact w_ret ⟨im9, km9, (show (-1) ≤ (-1) ∧ (-1) ≤ 1 from ⟨by omega, by omega⟩), trivial⟩
  · skip
    refine w_gFc (ji := 11) rfl (congrArg Prod.fst (kl_126 im9)) (show mG m9 126 11 = 137 from rd_Model_11 im9 (a := 126) rfl) ?_
    refine w_aG (kl_137 im9) (by omega) (by omega) (fun a30 ha30 => ?_)
    have ra30 : 0 ≤ a30 ∧ a30 ≤ 1 := ha30.tr (P := fun z => 0 ≤ z ∧ z ≤ 1) (rd_Mworld im9 rfl)
    refine w_if (fun c2_ => ?_) (fun c2_ => ?_)
    · skip
      exact w_ret ⟨im9, km9, (show (-1) ≤ 0 ∧ 0 ≤ 1 from ⟨by omega, by omega⟩), trivial⟩
    · skip
      exact w_ret ⟨im9, km9, (show (-1) ≤ 1 ∧ 1 ≤ 1 from ⟨by omega, by omega⟩), trivial⟩
def W_X9_known (b j : Int) : Prop := (146 ≤ b ∧ b ≤ 149) ∨ (b = 126 ∧ j = 0)
theorem s_X9_known_119 {n : Nat} {Me : Mem} {l5 s1 s2 : Int} {M : Mem} (r_l5 : 0 ≤ l5 ∧ l5 ≤ 40) (r_s1 : 0 ≤ s1 ∧ s1 ≤ 40) (r_s2 : 0 ≤ s2 ∧ s2 ≤ 1) (iM : I n M) (kM : Keep n W_X9_known Me M) : wp (mX9_known_119 126 l5 148 s1 s2 M) (fun q => I n q.2 ∧ Keep n W_X9_known Me q.2 ∧ (0 ≤ q.1 ∧ q.1 ≤ 1) ∧ True) := by
  have hn : (169 : Int) ≤ (n : Int) := by have := iM.2.2.2.2.1; omega
  unfold mX9_known_119
  refine w_aS (kl_148 iM) (by omega) (by omega) (fun M119 hM119 => ?_)
  replace hM119 : M119 = mS M 148 s1 s2 := hM119
  have iM119 : I n M119 := wr_MknownIs iM rfl ⟨by omega, by omega⟩ hM119
  have kM119 : Keep n W_X9_known Me M119 := kM.st hM119 (Or.inl (Or.inl ⟨by decide, by decide⟩))
  refine w_gFc (ji := 23) rfl (congrArg Prod.fst (kl_126 iM119)) (show mG M119 126 23 = 149 from rd_Model_23 iM119 (a := 126) rfl) ?_
  refine w_gFc (ji := 5) rfl (congrArg Prod.fst (kl_126 iM119)) (show mG M119 126 5 = 131 from rd_Model_5 iM119 (a := 126) rfl) ?_
  refine w_aG (kl_131 iM119) (by decide) (by decide) (fun a131 ha131 => ?_)
  have ra131 : 0 ≤ a131 ∧ a131 ≤ 999 := ha131.tr (P := fun z => 0 ≤ z ∧ z ≤ 999) (rd_Mdays iM119 rfl)
  refine w_aS (kl_149 iM119) (by omega) (by omega) (fun M132 hM132 => ?_)
  replace hM132 : M132 = mS M119 149 l5 a131 := hM132
  have iM132 : I n M132 := wr_MknownDay iM119 rfl ⟨by omega, by omega⟩ hM132
  have kM132 : Keep n W_X9_known Me M132 := kM119.st hM132 (Or.inl (Or.inl ⟨by decide, by decide⟩))
  exact w_ret ⟨iM132, kM132, (show 0 ≤ 1 ∧ 1 ≤ 1 from ⟨by omega, by omega⟩), trivial⟩
theorem s_X9_known_101 {n : Nat} {Me : Mem} {l4 l5 s1 s2 s3 : Int} {M : Mem} (r_l4 : 0 ≤ l4 ∧ l4 ≤ 1) (r_l5 : 0 ≤ l5 ∧ l5 ≤ 40) (r_s1 : 0 ≤ s1 ∧ s1 ≤ 40) (r_s2 : 0 ≤ s2 ∧ s2 ≤ 33) (r_s3 : 0 ≤ s3 ∧ s3 ≤ 2) (iM : I n M) (kM : Keep n W_X9_known Me M) : wp (mX9_known_101 126 l4 l5 147 s1 s2 s3 M) (fun q => I n q.2 ∧ Keep n W_X9_known Me q.2 ∧ (0 ≤ q.1 ∧ q.1 ≤ 1) ∧ True) := by
  have hn : (169 : Int) ≤ (n : Int) := by have := iM.2.2.2.2.1; omega
  unfold mX9_known_101
  have w1_ := wI_id (x := (s2 + s3)) (by omega) (by omega)
  refine w_aS (kl_147 iM) (by omega) (by omega) (fun M102 hM102 => ?_)
  replace hM102 : M102 = mS M 147 s1 (wI (s2 + s3)) := hM102
  have iM102 : I n M102 := wr_MknownOf iM rfl ⟨by omega, by omega⟩ hM102
  have kM102 : Keep n W_X9_known Me M102 := kM.st hM102 (Or.inl (Or.inl ⟨by decide, by decide⟩))
  obtain ⟨svM102, esvM102⟩ : ∃ z, z = (wI (s2 + s3)) := ⟨_, rfl⟩
  refine w_gFc (ji := 22) rfl (congrArg Prod.fst (kl_126 iM102)) (show mG M102 126 22 = 148 from rd_Model_22 iM102 (a := 126) rfl) ?_
  refine w_if (fun c2_ => ?_) (fun c2_ => ?_)
  · skip
    exact s_X9_known_119 ⟨by omega, by omega⟩ ⟨by omega, by omega⟩ ⟨by omega, by omega⟩ iM102 kM102
  · skip
    exact s_X9_known_119 ⟨by omega, by omega⟩ ⟨by omega, by omega⟩ ⟨by omega, by omega⟩ iM102 kM102
theorem s_X9_known_54 {n : Nat} {Me : Mem} {l1 l2 l3 l4 : Int} {M : Mem} (r_l1 : 0 ≤ l1 ∧ l1 ≤ 3) (r_l2 : 0 ≤ l2 ∧ l2 ≤ 2) (r_l3 : (-2147483648) ≤ l3 ∧ l3 ≤ 2147483647) (r_l4 : 0 ≤ l4 ∧ l4 ≤ 1) (y0 : mG M 136 l1 = -1 ∨ (0 ≤ l3 ∧ l3 ≤ 2)) (y1 : mG M 146 0 ≤ 39) (iM : I n M) (kM : Keep n W_X9_known Me M) : wp (mX9_known_54 126 l1 l2 l3 l4 M) (fun q => I n q.2 ∧ Keep n W_X9_known Me q.2 ∧ (0 ≤ q.1 ∧ q.1 ≤ 1) ∧ True) := by
  have hn : (169 : Int) ≤ (n : Int) := by have := iM.2.2.2.2.1; omega
  obtain ⟨nh0, enh0⟩ : ∃ v, Is (mG M 136 l1) v := ⟨_, rfl⟩
  have rnh0 : (-1) ≤ nh0 ∧ nh0 ≤ 2 := by rw [← enh0.e]; exact rd_MsecondKind iM rfl
  (try rw [enh0.e] at y0); (try rw [enh0.e] at y1)
  obtain ⟨nh1, enh1⟩ : ∃ v, Is (mG M 146 0) v := ⟨_, rfl⟩
  have rnh1 : 0 ≤ nh1 ∧ nh1 ≤ 40 := by rw [← enh1.e]; exact rd_Mknowns iM rfl
  (try rw [enh1.e] at y0); (try rw [enh1.e] at y1)
  unfold mX9_known_54
  refine w_gFc (ji := 20) rfl (congrArg Prod.fst (kl_126 iM)) (show mG M 126 20 = 146 from rd_Model_20 iM (a := 126) rfl) ?_
  refine w_aGc (kl_146 iM) (by omega) (by omega) (show mG M 146 0 = nh1 from (show mG M 146 0 = nh1 from enh1)) ?_
  refine w_gFc (ji := 20) rfl (congrArg Prod.fst (kl_126 iM)) (show mG M 126 20 = 146 from rd_Model_20 iM (a := 126) rfl) ?_
  refine w_aGc (kl_146 iM) (by omega) (by omega) (show mG M 146 0 = nh1 from (show mG M 146 0 = nh1 from enh1)) ?_
  have w1_ := wI_id (x := (nh1 + 1)) (by omega) (by omega)
  refine w_aS (kl_146 iM) (by omega) (by omega) (fun M71 hM71 => ?_)
  replace hM71 : M71 = mS M 146 0 (wI (nh1 + 1)) := hM71
  have iM71 : I n M71 := wr_Mknowns iM rfl ⟨by omega, by omega⟩ hM71
  have kM71 : Keep n W_X9_known Me M71 := kM.st hM71 (Or.inl (Or.inl ⟨by decide, by decide⟩))
  obtain ⟨svM71, esvM71⟩ : ∃ z, z = (wI (nh1 + 1)) := ⟨_, rfl⟩
  refine w_gFc (ji := 21) rfl (congrArg Prod.fst (kl_126 iM71)) (show mG M71 126 21 = 147 from rd_Model_21 iM71 (a := 126) rfl) ?_
  refine w_gFc (ji := 10) rfl (congrArg Prod.fst (kl_126 iM71)) (show mG M71 126 10 = 136 from rd_Model_10 iM71 (a := 126) rfl) ?_
  refine w_aGc (kl_136 iM71) (by omega) (by omega) (show mG M71 136 l1 = nh0 from ((st_ne hM71 (fun z => ne_fam rfl rfl (by decide) z.1)).trans (show mG M 136 l1 = nh0 from enh0))) ?_
  refine w_if (fun c2_ => ?_) (fun c2_ => ?_)
  · skip
    have w3_ := wI_id (x := (9 * l1)) (by omega) (by omega)
    have w4_ := wI_id (x := (3 * l2)) (by omega) (by omega)
    have w5_ := wI_id (x := ((wI (9 * l1)) + (wI (3 * l2)))) (by omega) (by omega)
    exact s_X9_known_101 ⟨by omega, by omega⟩ ⟨by omega, by omega⟩ ⟨by omega, by omega⟩ ⟨by omega, by omega⟩ ⟨by omega, by omega⟩ iM71 kM71
  · skip
    have w6_ := wI_id (x := (9 * l1)) (by omega) (by omega)
    have w7_ := wI_id (x := (3 * l2)) (by omega) (by omega)
    have w8_ := wI_id (x := ((wI (9 * l1)) + (wI (3 * l2)))) (by omega) (by omega)
    exact s_X9_known_101 ⟨by omega, by omega⟩ ⟨by omega, by omega⟩ ⟨by omega, by omega⟩ ⟨by omega, by omega⟩ ⟨by omega, by omega⟩ iM71 kM71
theorem s_X9_known {n : Nat} {l1 l2 l3 l4 : Int} {M : Mem} (r_l1 : (-2147483648) ≤ l1 ∧ l1 ≤ 2147483647) (r_l2 : (-2147483648) ≤ l2 ∧ l2 ≤ 2147483647) (r_l3 : (-2147483648) ≤ l3 ∧ l3 ≤ 2147483647) (r_l4 : 0 ≤ l4 ∧ l4 ≤ 1) (iM : I n M) : wp (mX9_known 126 l1 l2 l3 l4 M) (fun q => I n q.2 ∧ Keep n W_X9_known M q.2 ∧ (0 ≤ q.1 ∧ q.1 ≤ 1) ∧ True) := by
  have hn : (169 : Int) ≤ (n : Int) := by have := iM.2.2.2.2.1; omega
  have kM : Keep n W_X9_known M M := Keep.rf
  unfold mX9_known
  refine w_pF (ji := 0) rfl (congrArg Prod.fst (kl_126 iM)) (fun M2 hM2 => ?_)
  replace hM2 : M2 = mS M 126 0 0 := hM2
  have iM2 : I n M2 := wr_Model_0 iM rfl ⟨by omega, by omega⟩ hM2
  have kM2 : Keep n W_X9_known M M2 := kM.st hM2 (Or.inl (Or.inr ⟨rfl, rfl⟩))
  refine w_gFc (ji := 20) rfl (congrArg Prod.fst (kl_126 iM2)) (show mG M2 126 20 = 146 from rd_Model_20 iM2 (a := 126) rfl) ?_
  refine w_aG (kl_146 iM2) (by decide) (by decide) (fun a10 ha10 => ?_)
  have ra10 : 0 ≤ a10 ∧ a10 ≤ 40 := ha10.tr (P := fun z => 0 ≤ z ∧ z ≤ 40) (rd_Mknowns iM2 rfl)
  refine w_if (fun c1_ => ?_) (fun c1_ => ?_)
  · skip
    exact w_ret ⟨iM2, kM2, (show 0 ≤ 0 ∧ 0 ≤ 1 from ⟨by omega, by omega⟩), trivial⟩
  · skip
    refine w_gK (congrArg Prod.fst (kl_126 iM2)) ?_
    refine w_call (s_X9_isRelation ⟨by omega, by omega⟩ iM2) ?_
    intro v18 m18 pp18
    obtain ⟨im18, kk18, e18_0, e18_1, -⟩ := pp18
    try dsimp only
    replace im18 : I n m18 := im18
    replace kk18 : Keep n W_X9_isRelation M2 m18 := kk18
    have km18 : Keep n W_X9_known M m18 := kM2.tr kk18 (fun b j z => z.elim)
    replace e18_0 : 0 ≤ v18 ∧ v18 ≤ 1 := e18_0
    replace e18_1 : v18 = 1 → 0 ≤ l1 ∧ l1 ≤ 3 := e18_1
    refine w_if (fun c2_ => ?_) (fun c2_ => ?_)
    · skip
      exact w_ret ⟨im18, km18, (show 0 ≤ 0 ∧ 0 ≤ 1 from ⟨by omega, by omega⟩), trivial⟩
    · skip
      refine w_call (s_X9_in ⟨by omega, by omega⟩ ⟨by omega, by omega⟩ ⟨by omega, by omega⟩ im18) ?_
      intro v27 m27 pp27
      obtain ⟨im27, kk27, e27_0, e27_1, -⟩ := pp27
      try dsimp only
      replace im27 : I n m27 := im27
      replace kk27 : Keep n W_X9_in m18 m27 := kk27
      have km27 : Keep n W_X9_known M m27 := km18.tr kk27 (fun b j z => z.elim)
      replace e27_0 : 0 ≤ v27 ∧ v27 ≤ 1 := e27_0
      replace e27_1 : v27 = 1 → 0 ≤ l2 ∧ l2 ≤ 2 := e27_1
      refine w_if (fun c3_ => ?_) (fun c3_ => ?_)
      · skip
        exact w_ret ⟨im27, km27, (show 0 ≤ 0 ∧ 0 ≤ 1 from ⟨by omega, by omega⟩), trivial⟩
      · skip
        refine w_gFc (ji := 10) rfl (congrArg Prod.fst (kl_126 im27)) (show mG m27 126 10 = 136 from rd_Model_10 im27 (a := 126) rfl) ?_
        refine w_aG (kl_136 im27) (by omega) (by omega) (fun a38 ha38 => ?_)
        have ra38 : (-1) ≤ a38 ∧ a38 ≤ 2 := ha38.tr (P := fun z => (-1) ≤ z ∧ z ≤ 2) (rd_MsecondKind im27 rfl)
        refine w_if (fun c4_ => ?_) (fun c4_ => ?_)
        · skip
          exact s_X9_known_54 ⟨by omega, by omega⟩ ⟨by omega, by omega⟩ ⟨by omega, by omega⟩ ⟨by omega, by omega⟩ (by (try rw [(show mG m27 136 l1 = a38 from (show mG m27 136 l1 = a38 from ha38))]); (try rw [(show mG m27 146 0 = a10 from ((kk27.2.2 146 0 (by omega) (fun z => z)).trans ((kk18.2.2 146 0 (by omega) (fun z => z)).trans (show mG M2 146 0 = a10 from ha10))))]); all_goals omega) (by (try rw [(show mG m27 136 l1 = a38 from (show mG m27 136 l1 = a38 from ha38))]); (try rw [(show mG m27 146 0 = a10 from ((kk27.2.2 146 0 (by omega) (fun z => z)).trans ((kk18.2.2 146 0 (by omega) (fun z => z)).trans (show mG M2 146 0 = a10 from ha10))))]); all_goals omega) im27 km27
        · skip
          refine w_call (s_X9_in ⟨by omega, by omega⟩ ⟨by omega, by omega⟩ ⟨by omega, by omega⟩ im27) ?_
          intro v46 m46 pp46
          obtain ⟨im46, kk46, e46_0, e46_1, -⟩ := pp46
          try dsimp only
          replace im46 : I n m46 := im46
          replace kk46 : Keep n W_X9_in m27 m46 := kk46
          have km46 : Keep n W_X9_known M m46 := km27.tr kk46 (fun b j z => z.elim)
          replace e46_0 : 0 ≤ v46 ∧ v46 ≤ 1 := e46_0
          replace e46_1 : v46 = 1 → 0 ≤ l3 ∧ l3 ≤ 2 := e46_1
          refine w_if (fun c5_ => ?_) (fun c5_ => ?_)
          · skip
            exact w_ret ⟨im46, km46, (show 0 ≤ 0 ∧ 0 ≤ 1 from ⟨by omega, by omega⟩), trivial⟩
          · skip
            exact s_X9_known_54 ⟨by omega, by omega⟩ ⟨by omega, by omega⟩ ⟨by omega, by omega⟩ ⟨by omega, by omega⟩ (by (try rw [(show mG m46 136 l1 = a38 from ((kk46.2.2 136 l1 (by omega) (fun z => z)).trans (show mG m27 136 l1 = a38 from ha38)))]); (try rw [(show mG m46 146 0 = a10 from ((kk46.2.2 146 0 (by omega) (fun z => z)).trans ((kk27.2.2 146 0 (by omega) (fun z => z)).trans ((kk18.2.2 146 0 (by omega) (fun z => z)).trans (show mG M2 146 0 = a10 from ha10)))))]); all_goals omega) (by (try rw [(show mG m46 136 l1 = a38 from ((kk46.2.2 136 l1 (by omega) (fun z => z)).trans (show mG m27 136 l1 = a38 from ha38)))]); (try rw [(show mG m46 146 0 = a10 from ((kk46.2.2 146 0 (by omega) (fun z => z)).trans ((kk27.2.2 146 0 (by omega) (fun z => z)).trans ((kk18.2.2 146 0 (by omega) (fun z => z)).trans (show mG M2 146 0 = a10 from ha10)))))]); all_goals omega) im46 km46
def W_X9_keep (b j : Int) : Prop := (150 ≤ b ∧ b ≤ 151) ∨ (b = 126 ∧ j = 0)
theorem sb_X9_keep_25 {n : Nat} {Me : Mem} {k25 : Int → Int → Int → Mem → Option (Int × Mem)} {fu25 : Nat} (hk25 : ∀ (l1 l2 : Int) (M : Mem), (0 ≤ l1 ∧ l1 ≤ 3) → (0 ≤ l2 ∧ l2 ≤ 36) → 37 - l2 < (fu25 : Int) → I n M → Keep n W_X9_keep Me M → wp (k25 126 l1 l2 M) (fun q => I n q.2 ∧ Keep n W_X9_keep Me q.2 ∧ (0 ≤ q.1 ∧ q.1 ≤ 1) ∧ True)) {l1 l2 : Int} {M : Mem} (r_l1 : 0 ≤ l1 ∧ l1 ≤ 3) (r_l2 : 0 ≤ l2 ∧ l2 ≤ 36) (hf25 : 37 - l2 < (fu25 : Int) + 1) (iM : I n M) (kM : Keep n W_X9_keep Me M) : wp (bX9_keep_25 k25 126 l1 l2 M) (fun q => I n q.2 ∧ Keep n W_X9_keep Me q.2 ∧ (0 ≤ q.1 ∧ q.1 ≤ 1) ∧ True) := by
  have hn : (169 : Int) ≤ (n : Int) := by have := iM.2.2.2.2.1; omega
  unfold bX9_keep_25
  refine w_if (fun c1_ => ?_) (fun c1_ => ?_)
  · skip
    exact w_ret ⟨iM, kM, (show 0 ≤ 1 ∧ 1 ≤ 1 from ⟨by omega, by omega⟩), trivial⟩
  · skip
    refine w_gFc (ji := 24) rfl (congrArg Prod.fst (kl_126 iM)) (show mG M 126 24 = 150 from rd_Model_24 iM (a := 126) rfl) ?_
    refine w_gFc (ji := 11) rfl (congrArg Prod.fst (kl_126 iM)) (show mG M 126 11 = 137 from rd_Model_11 iM (a := 126) rfl) ?_
    refine w_aG (kl_137 iM) (by omega) (by omega) (fun a46 ha46 => ?_)
    have ra46 : 0 ≤ a46 ∧ a46 ≤ 1 := ha46.tr (P := fun z => 0 ≤ z ∧ z ≤ 1) (rd_Mworld iM rfl)
    have w2_ := wI_id (x := (36 * l1)) (by omega) (by omega)
    have w3_ := wI_id (x := ((wI (36 * l1)) + l2)) (by omega) (by omega)
    refine w_aSZ (kl_150 iM) (by omega) (by omega) (by omega) (fun M47 hM47 => ?_)
    replace hM47 : M47 = mS M 150 (wI ((wI (36 * l1)) + l2)) a46 := hM47
    have iM47 : I n M47 := wr_Mheld iM rfl ⟨by omega, by omega⟩ hM47
    have kM47 : Keep n W_X9_keep Me M47 := kM.st hM47 (Or.inl (Or.inl ⟨by decide, by decide⟩))
    have w4_ := wI_id (x := (l2 + 1)) (by omega) (by omega)
    exact hk25 _ _ _ ⟨by omega, by omega⟩ ⟨by omega, by omega⟩ (by omega) iM47 kM47
theorem s_X9_keep_25 {n : Nat} {Me : Mem} : ∀ (fu : Nat) (l1 l2 : Int) (M : Mem), (0 ≤ l1 ∧ l1 ≤ 3) → (0 ≤ l2 ∧ l2 ≤ 36) → 37 - l2 < (fu : Int) → I n M → Keep n W_X9_keep Me M → wp (mX9_keep_25 fu 126 l1 l2 M) (fun q => I n q.2 ∧ Keep n W_X9_keep Me q.2 ∧ (0 ≤ q.1 ∧ q.1 ≤ 1) ∧ True) := by
  intro fu
  induction fu with
  | zero =>
    intro l1 l2 M r_l1 r_l2 hf iM kM
    exfalso
    omega
  | succ fu ih =>
    intro l1 l2 M r_l1 r_l2 hf iM kM
    exact sb_X9_keep_25 ih r_l1 r_l2 (by have e : ((fu + 1 : Nat) : Int) = (fu : Int) + 1 := rfl; rw [e] at hf; exact hf) iM kM
theorem s_X9_keep {n : Nat} {l1 : Int} {M : Mem} (r_l1 : (-2147483648) ≤ l1 ∧ l1 ≤ 2147483647) (iM : I n M) : wp (mX9_keep 126 l1 M) (fun q => I n q.2 ∧ Keep n W_X9_keep M q.2 ∧ (0 ≤ q.1 ∧ q.1 ≤ 1) ∧ True) := by
  have hn : (169 : Int) ≤ (n : Int) := by have := iM.2.2.2.2.1; omega
  have kM : Keep n W_X9_keep M M := Keep.rf
  unfold mX9_keep
  refine w_pF (ji := 0) rfl (congrArg Prod.fst (kl_126 iM)) (fun M2 hM2 => ?_)
  replace hM2 : M2 = mS M 126 0 0 := hM2
  have iM2 : I n M2 := wr_Model_0 iM rfl ⟨by omega, by omega⟩ hM2
  have kM2 : Keep n W_X9_keep M M2 := kM.st hM2 (Or.inl (Or.inr ⟨rfl, rfl⟩))
  refine w_call (s_X9_in ⟨by omega, by omega⟩ ⟨by omega, by omega⟩ ⟨by omega, by omega⟩ iM2) ?_
  intro v8 m8 pp8
  obtain ⟨im8, kk8, e8_0, e8_1, -⟩ := pp8
  try dsimp only
  replace im8 : I n m8 := im8
  replace kk8 : Keep n W_X9_in M2 m8 := kk8
  have km8 : Keep n W_X9_keep M m8 := kM2.tr kk8 (fun b j z => z.elim)
  replace e8_0 : 0 ≤ v8 ∧ v8 ≤ 1 := e8_0
  replace e8_1 : v8 = 1 → 0 ≤ l1 ∧ l1 ≤ 3 := e8_1
  refine w_if (fun c1_ => ?_) (fun c1_ => ?_)
  · skip
    exact w_ret ⟨im8, km8, (show 0 ≤ 0 ∧ 0 ≤ 1 from ⟨by omega, by omega⟩), trivial⟩
  · skip
    refine w_gFc (ji := 25) rfl (congrArg Prod.fst (kl_126 im8)) (show mG m8 126 25 = 151 from rd_Model_25 im8 (a := 126) rfl) ?_
    refine w_aSZ (kl_151 im8) (by omega) (by omega) (by omega) (fun M22 hM22 => ?_)
    replace hM22 : M22 = mS m8 151 l1 1 := hM22
    have iM22 : I n M22 := wr_MholdsPlace im8 rfl ⟨by omega, by omega⟩ hM22
    have kM22 : Keep n W_X9_keep M M22 := km8.st hM22 (Or.inl (Or.inl ⟨by decide, by decide⟩))
    exact s_X9_keep_25 FU _ _ _ ⟨by omega, by omega⟩ ⟨by omega, by omega⟩ (by show _ < (70000 : Int); omega) iM22 kM22
def W_X9_canTell (b j : Int) : Prop := (152 ≤ b ∧ b ≤ 153)
theorem s_X9_canTell {n : Nat} {M : Mem} (iM : I n M) : wp (mX9_canTell 126 M) (fun q => I n q.2 ∧ Keep n W_X9_canTell M q.2 ∧ (0 ≤ q.1 ∧ q.1 ≤ 1) ∧ (NP q.2) ∧ (SF q.2) ∧ (q.1 = 1 → F12 q.2) ∧ True) := by
  have hn : (169 : Int) ≤ (n : Int) := by have := iM.2.2.2.2.1; omega
  have kM : Keep n W_X9_canTell M M := Keep.rf
  unfold mX9_canTell
  refine w_gK (congrArg Prod.fst (kl_126 iM)) ?_
  refine w_call (s_X9_bringSizes iM) ?_
  intro v1 m1 pp1
  obtain ⟨im1, kk1, e1_0, e1_1, -⟩ := pp1
  try dsimp only
  replace im1 : I n m1 := im1
  replace kk1 : Keep n W_X9_bringSizes M m1 := kk1
  have km1 : Keep n W_X9_canTell M m1 := kM.tr kk1 (fun b j z => by unfold W_X9_bringSizes at z; exact z)
  replace e1_0 : NP m1 := e1_0
  have gNP_m1 := e1_0
  replace e1_1 : SF m1 := e1_1
  have gSF_m1 := e1_1
  refine w_gK (congrArg Prod.fst (kl_126 im1)) ?_
  refine w_call (s_X9_manyFacts im1) ?_
  intro v5 m5 pp5
  obtain ⟨im5, kk5, e5_0, e5_1, -⟩ := pp5
  try dsimp only
  replace im5 : I n m5 := im5
  replace kk5 : Keep n W_X9_manyFacts m1 m5 := kk5
  have km5 : Keep n W_X9_canTell M m5 := km1.tr kk5 (fun b j z => z.elim)
  replace e5_0 : 0 ≤ v5 ∧ v5 ≤ 36 := e5_0
  replace e5_1 : v5 = mG m5 153 (mG m5 134 0) := e5_1
  have ev5 := e5_1
  refine w_if (fun c1_ => ?_) (fun c1_ => ?_)
  · skip
    have ppNP_m5 : NP m5 := (NP_of gNP_m1 (fun j => kk5.2.2 152 j (by omega) (fun z => z)))
    have ppSF_m5 : SF m5 := (SF_of gSF_m1 (fun j => kk5.2.2 153 j (by omega) (fun z => z)) (fun j => kk5.2.2 134 j (by omega) (fun z => z)) (fun j => kk5.2.2 133 j (by omega) (fun z => z)) (fun j => kk5.2.2 135 j (by omega) (fun z => z)) (fun j => kk5.2.2 136 j (by omega) (fun z => z)) (fun j => kk5.2.2 152 j (by omega) (fun z => z)))
    exact w_ret ⟨im5, km5, (show 0 ≤ 0 ∧ 0 ≤ 1 from ⟨by omega, by omega⟩), ppNP_m5, ppSF_m5, (show 0 = 1 → F12 m5 from fun z => absurd z (by decide)), trivial⟩
  · skip
    have pF12_c1__m5 : F12 m5 := by unfold F12; rw [← ev5]; omega
    have ppNP_m5 : NP m5 := (NP_of gNP_m1 (fun j => kk5.2.2 152 j (by omega) (fun z => z)))
    have ppSF_m5 : SF m5 := (SF_of gSF_m1 (fun j => kk5.2.2 153 j (by omega) (fun z => z)) (fun j => kk5.2.2 134 j (by omega) (fun z => z)) (fun j => kk5.2.2 133 j (by omega) (fun z => z)) (fun j => kk5.2.2 135 j (by omega) (fun z => z)) (fun j => kk5.2.2 136 j (by omega) (fun z => z)) (fun j => kk5.2.2 152 j (by omega) (fun z => z)))
    exact w_ret ⟨im5, km5, (show 0 ≤ 1 ∧ 1 ≤ 1 from ⟨by omega, by omega⟩), ppNP_m5, ppSF_m5, (show 1 = 1 → F12 m5 from fun _ => pF12_c1__m5), trivial⟩
def W_X9_numberOfWorld (b j : Int) : Prop := False
theorem s_X9_numberOfWorld_31 {n : Nat} {Me : Mem} {k9 : Int → Int → Int → Int → Mem → Option (Int × Mem)} {fu9 : Nat} (hk9 : ∀ (l1 l2 l3 : Int) (M : Mem), (0 ≤ l1 ∧ l1 ≤ 36) → ((-2147483648) ≤ l2 ∧ l2 ≤ 2147483647) → (0 ≤ l3 ∧ l3 ≤ 36) → (NP M) → 37 - l3 < (fu9 : Int) → I n M → Keep n W_X9_numberOfWorld Me M → wp (k9 126 l1 l2 l3 M) (fun q => I n q.2 ∧ Keep n W_X9_numberOfWorld Me q.2 ∧ ((-2147483648) ≤ q.1 ∧ q.1 ≤ 2147483647) ∧ True)) {l1 l3 s0 s1 : Int} {M : Mem} (r_l1 : 1 ≤ l1 ∧ l1 ≤ 36) (r_l3 : 0 ≤ l3 ∧ l3 ≤ 35) (r_s0 : (-2147483648) ≤ s0 ∧ s0 ≤ 2147483647) (r_s1 : 0 ≤ s1 ∧ s1 ≤ 1) (p_NP : NP M) (hf9 : 37 - l3 < (fu9 : Int) + 1) (iM : I n M) (kM : Keep n W_X9_numberOfWorld Me M) : wp (mX9_numberOfWorld_31 k9 126 l1 l3 s0 s1 M) (fun q => I n q.2 ∧ Keep n W_X9_numberOfWorld Me q.2 ∧ ((-2147483648) ≤ q.1 ∧ q.1 ≤ 2147483647) ∧ True) := by
  have hn : (169 : Int) ≤ (n : Int) := by have := iM.2.2.2.2.1; omega
  unfold mX9_numberOfWorld_31
  have w1_ := And.intro (wI_lo (s0 + s1)) (wI_hi (s0 + s1))
  have w2_ := wI_id (x := (l3 + 1)) (by omega) (by omega)
  exact hk9 _ _ _ _ ⟨by omega, by omega⟩ ⟨by omega, by omega⟩ ⟨by omega, by omega⟩ p_NP (by omega) iM kM
theorem sb_X9_numberOfWorld_9 {n : Nat} {Me : Mem} {k9 : Int → Int → Int → Int → Mem → Option (Int × Mem)} {fu9 : Nat} (hk9 : ∀ (l1 l2 l3 : Int) (M : Mem), (0 ≤ l1 ∧ l1 ≤ 36) → ((-2147483648) ≤ l2 ∧ l2 ≤ 2147483647) → (0 ≤ l3 ∧ l3 ≤ 36) → (NP M) → 37 - l3 < (fu9 : Int) → I n M → Keep n W_X9_numberOfWorld Me M → wp (k9 126 l1 l2 l3 M) (fun q => I n q.2 ∧ Keep n W_X9_numberOfWorld Me q.2 ∧ ((-2147483648) ≤ q.1 ∧ q.1 ≤ 2147483647) ∧ True)) {l1 l2 l3 : Int} {M : Mem} (r_l1 : 0 ≤ l1 ∧ l1 ≤ 36) (r_l2 : (-2147483648) ≤ l2 ∧ l2 ≤ 2147483647) (r_l3 : 0 ≤ l3 ∧ l3 ≤ 36) (p_NP : NP M) (hf9 : 37 - l3 < (fu9 : Int) + 1) (iM : I n M) (kM : Keep n W_X9_numberOfWorld Me M) : wp (bX9_numberOfWorld_9 k9 126 l1 l2 l3 M) (fun q => I n q.2 ∧ Keep n W_X9_numberOfWorld Me q.2 ∧ ((-2147483648) ≤ q.1 ∧ q.1 ≤ 2147483647) ∧ True) := by
  have hn : (169 : Int) ≤ (n : Int) := by have := iM.2.2.2.2.1; omega
  unfold bX9_numberOfWorld_9
  refine w_if (fun c1_ => ?_) (fun c1_ => ?_)
  · skip
    exact w_ret ⟨iM, kM, (show (-2147483648) ≤ l2 ∧ l2 ≤ 2147483647 from ⟨by omega, by omega⟩), trivial⟩
  · skip
    refine w_gFc (ji := 11) rfl (congrArg Prod.fst (kl_126 iM)) (show mG M 126 11 = 137 from rd_Model_11 iM (a := 126) rfl) ?_
    refine w_aG (kl_137 iM) (by omega) (by omega) (fun a22 ha22 => ?_)
    have ra22 : 0 ≤ a22 ∧ a22 ≤ 1 := ha22.tr (P := fun z => 0 ≤ z ∧ z ≤ 1) (rd_Mworld iM rfl)
    refine w_if (fun c2_ => ?_) (fun c2_ => ?_)
    · skip
      have w3_ := And.intro (wI_lo (2 * l2)) (wI_hi (2 * l2))
      exact s_X9_numberOfWorld_31 hk9 ⟨by omega, by omega⟩ ⟨by omega, by omega⟩ ⟨by omega, by omega⟩ ⟨by omega, by omega⟩ p_NP (by omega) iM kM
    · skip
      have w4_ := And.intro (wI_lo (2 * l2)) (wI_hi (2 * l2))
      exact s_X9_numberOfWorld_31 hk9 ⟨by omega, by omega⟩ ⟨by omega, by omega⟩ ⟨by omega, by omega⟩ ⟨by omega, by omega⟩ p_NP (by omega) iM kM
theorem s_X9_numberOfWorld_9 {n : Nat} {Me : Mem} : ∀ (fu : Nat) (l1 l2 l3 : Int) (M : Mem), (0 ≤ l1 ∧ l1 ≤ 36) → ((-2147483648) ≤ l2 ∧ l2 ≤ 2147483647) → (0 ≤ l3 ∧ l3 ≤ 36) → (NP M) → 37 - l3 < (fu : Int) → I n M → Keep n W_X9_numberOfWorld Me M → wp (mX9_numberOfWorld_9 fu 126 l1 l2 l3 M) (fun q => I n q.2 ∧ Keep n W_X9_numberOfWorld Me q.2 ∧ ((-2147483648) ≤ q.1 ∧ q.1 ≤ 2147483647) ∧ True) := by
  intro fu
  induction fu with
  | zero =>
    intro l1 l2 l3 M r_l1 r_l2 r_l3 p_NP hf iM kM
    exfalso
    omega
  | succ fu ih =>
    intro l1 l2 l3 M r_l1 r_l2 r_l3 p_NP hf iM kM
    exact sb_X9_numberOfWorld_9 ih r_l1 r_l2 r_l3 p_NP (by have e : ((fu + 1 : Nat) : Int) = (fu : Int) + 1 := rfl; rw [e] at hf; exact hf) iM kM
theorem s_X9_numberOfWorld {n : Nat} {M : Mem} (p_NP : NP M) (iM : I n M) : wp (mX9_numberOfWorld 126 M) (fun q => I n q.2 ∧ Keep n W_X9_numberOfWorld M q.2 ∧ ((-2147483648) ≤ q.1 ∧ q.1 ≤ 2147483647) ∧ True) := by
  have hn : (169 : Int) ≤ (n : Int) := by have := iM.2.2.2.2.1; omega
  have kM : Keep n W_X9_numberOfWorld M M := Keep.rf
  unfold mX9_numberOfWorld
  refine w_gK (congrArg Prod.fst (kl_126 iM)) ?_
  refine w_call (s_X9_manyFacts iM) ?_
  intro v1 m1 pp1
  obtain ⟨im1, kk1, e1_0, e1_1, -⟩ := pp1
  try dsimp only
  replace im1 : I n m1 := im1
  replace kk1 : Keep n W_X9_manyFacts M m1 := kk1
  have km1 : Keep n W_X9_numberOfWorld M m1 := kM.tr kk1 (fun b j z => z.elim)
  replace e1_0 : 0 ≤ v1 ∧ v1 ≤ 36 := e1_0
  replace e1_1 : v1 = mG m1 153 (mG m1 134 0) := e1_1
  have ev1 := e1_1
  have ppNP_m1 : NP m1 := (NP_of p_NP (fun j => kk1.2.2 152 j (by omega) (fun z => z)))
  exact s_X9_numberOfWorld_9 FU _ _ _ _ ⟨by omega, by omega⟩ ⟨by omega, by omega⟩ ⟨by omega, by omega⟩ ppNP_m1 (by show _ < (70000 : Int); omega) im1 km1
def W_X9_inOrder (b j : Int) : Prop := False
theorem s_X9_inOrder_32 {n : Nat} {Me : Mem} {l1 l2 s0 : Int} {M : Mem} (r_l1 : 0 ≤ l1 ∧ l1 ≤ 35) (r_l2 : 0 ≤ l2 ∧ l2 ≤ 2) (r_s0 : 0 ≤ s0 ∧ s0 ≤ 2) (iM : I n M) (kM : Keep n W_X9_inOrder Me M) : wp (mX9_inOrder_32 l1 l2 s0 M) (fun q => I n q.2 ∧ Keep n W_X9_inOrder Me q.2 ∧ ((-1) ≤ q.1 ∧ q.1 ≤ 3) ∧ True) := by
  have hn : (169 : Int) ≤ (n : Int) := by have := iM.2.2.2.2.1; omega
  unfold mX9_inOrder_32
  refine w_if (fun c1_ => ?_) (fun c1_ => ?_)
  · skip
    exact w_ret ⟨iM, kM, (show (-1) ≤ l2 ∧ l2 ≤ 3 from ⟨by omega, by omega⟩), trivial⟩
  · skip
    refine w_if (fun c2_ => ?_) (fun c2_ => ?_)
    · skip
      exact w_ret ⟨iM, kM, (show (-1) ≤ s0 ∧ s0 ≤ 3 from ⟨by omega, by omega⟩), trivial⟩
    · skip
      have w3_ := wI_id (x := (3 - l2)) (by omega) (by omega)
      have w4_ := wI_id (x := ((wI (3 - l2)) - s0)) (by omega) (by omega)
      exact w_ret ⟨iM, kM, (show (-1) ≤ (wI ((wI (3 - l2)) - s0)) ∧ (wI ((wI (3 - l2)) - s0)) ≤ 3 from ⟨by omega, by omega⟩), trivial⟩
theorem s_X9_inOrder {n : Nat} {l0 l1 : Int} {M : Mem} (r_l0 : 0 ≤ l0 ∧ l0 ≤ 5) (r_l1 : 0 ≤ l1 ∧ l1 ≤ 35) (iM : I n M) : wp (mX9_inOrder l0 l1 M) (fun q => I n q.2 ∧ Keep n W_X9_inOrder M q.2 ∧ ((-1) ≤ q.1 ∧ q.1 ≤ 3) ∧ True) := by
  have hn : (169 : Int) ≤ (n : Int) := by have := iM.2.2.2.2.1; omega
  have kM : Keep n W_X9_inOrder M M := Keep.rf
  unfold mX9_inOrder
  refine w_dQ (by omega) (fun a2 ha2 => ?_)
  have ea2 : a2 = l0 / 2 := ha2.trans (idiv_e (by omega) (by omega) (by omega) (by omega))
  refine w_dM (by omega) (fun a6 ha6 => ?_)
  have ea6 : a6 = l0 % 2 := ha6.trans (irem_e (by omega) (by omega) (by omega) (by omega))
  refine w_if (fun c1_ => ?_) (fun c1_ => ?_)
  · skip
    refine w_if (fun c2_ => ?_) (fun c2_ => ?_)
    · skip
      exact s_X9_inOrder_32 ⟨by omega, by omega⟩ ⟨by omega, by omega⟩ ⟨by omega, by omega⟩ iM kM
    · skip
      exact s_X9_inOrder_32 ⟨by omega, by omega⟩ ⟨by omega, by omega⟩ ⟨by omega, by omega⟩ iM kM
  · skip
    refine w_if (fun c3_ => ?_) (fun c3_ => ?_)
    · skip
      exact s_X9_inOrder_32 ⟨by omega, by omega⟩ ⟨by omega, by omega⟩ ⟨by omega, by omega⟩ iM kM
    · skip
      exact s_X9_inOrder_32 ⟨by omega, by omega⟩ ⟨by omega, by omega⟩ ⟨by omega, by omega⟩ iM kM
def W_X9_isOrder (b j : Int) : Prop := False
theorem s_X9_isOrder_35 {n : Nat} {Me : Mem} {k2 : Int → Int → Int → Mem → Option (Int × Mem)} {fu2 : Nat} (hk2 : ∀ (l0 l1 l2 : Int) (M : Mem), (0 ≤ l0 ∧ l0 ≤ 5) → (1 ≤ l1 ∧ l1 ≤ 3) → (0 ≤ l2 ∧ l2 ≤ 3) → 4 - l2 < (fu2 : Int) → I n M → Keep n W_X9_isOrder Me M → wp (k2 l0 l1 l2 M) (fun q => I n q.2 ∧ Keep n W_X9_isOrder Me q.2 ∧ (0 ≤ q.1 ∧ q.1 ≤ 1) ∧ True)) {l0 l1 l2 : Int} {M : Mem} (r_l0 : 0 ≤ l0 ∧ l0 ≤ 5) (r_l1 : 1 ≤ l1 ∧ l1 ≤ 3) (r_l2 : 0 ≤ l2 ∧ l2 ≤ 2) (hf2 : 4 - l2 < (fu2 : Int) + 1) (iM : I n M) (kM : Keep n W_X9_isOrder Me M) : wp (mX9_isOrder_35 k2 l0 l1 l2 M) (fun q => I n q.2 ∧ Keep n W_X9_isOrder Me q.2 ∧ (0 ≤ q.1 ∧ q.1 ≤ 1) ∧ True) := by
  have hn : (169 : Int) ≤ (n : Int) := by have := iM.2.2.2.2.1; omega
  unfold mX9_isOrder_35
  have w1_ := wI_id (x := (l2 + 1)) (by omega) (by omega)
  exact hk2 _ _ _ _ ⟨by omega, by omega⟩ ⟨by omega, by omega⟩ ⟨by omega, by omega⟩ (by omega) iM kM
theorem sb_X9_isOrder_2 {n : Nat} {Me : Mem} {k2 : Int → Int → Int → Mem → Option (Int × Mem)} {fu2 : Nat} (hk2 : ∀ (l0 l1 l2 : Int) (M : Mem), (0 ≤ l0 ∧ l0 ≤ 5) → (1 ≤ l1 ∧ l1 ≤ 3) → (0 ≤ l2 ∧ l2 ≤ 3) → 4 - l2 < (fu2 : Int) → I n M → Keep n W_X9_isOrder Me M → wp (k2 l0 l1 l2 M) (fun q => I n q.2 ∧ Keep n W_X9_isOrder Me q.2 ∧ (0 ≤ q.1 ∧ q.1 ≤ 1) ∧ True)) {l0 l1 l2 : Int} {M : Mem} (r_l0 : 0 ≤ l0 ∧ l0 ≤ 5) (r_l1 : 1 ≤ l1 ∧ l1 ≤ 3) (r_l2 : 0 ≤ l2 ∧ l2 ≤ 3) (hf2 : 4 - l2 < (fu2 : Int) + 1) (iM : I n M) (kM : Keep n W_X9_isOrder Me M) : wp (bX9_isOrder_2 k2 l0 l1 l2 M) (fun q => I n q.2 ∧ Keep n W_X9_isOrder Me q.2 ∧ (0 ≤ q.1 ∧ q.1 ≤ 1) ∧ True) := by
  have hn : (169 : Int) ≤ (n : Int) := by have := iM.2.2.2.2.1; omega
  unfold bX9_isOrder_2
  refine w_if (fun c1_ => ?_) (fun c1_ => ?_)
  · skip
    exact w_ret ⟨iM, kM, (show 0 ≤ 1 ∧ 1 ≤ 1 from ⟨by omega, by omega⟩), trivial⟩
  · skip
    refine w_if (fun c2_ => ?_) (fun c2_ => ?_)
    · skip
      refine w_call (s_X9_inOrder ⟨by omega, by omega⟩ ⟨by omega, by omega⟩ iM) ?_
      intro v26 m26 pp26
      obtain ⟨im26, kk26, e26_0, -⟩ := pp26
      try dsimp only
      replace im26 : I n m26 := im26
      replace kk26 : Keep n W_X9_inOrder M m26 := kk26
      have km26 : Keep n W_X9_isOrder Me m26 := kM.tr kk26 (fun b j z => z.elim)
      replace e26_0 : (-1) ≤ v26 ∧ v26 ≤ 3 := e26_0
      refine w_if (fun c3_ => ?_) (fun c3_ => ?_)
      · skip
        exact s_X9_isOrder_35 hk2 ⟨by omega, by omega⟩ ⟨by omega, by omega⟩ ⟨by omega, by omega⟩ (by omega) im26 km26
      · skip
        exact w_ret ⟨im26, km26, (show 0 ≤ 0 ∧ 0 ≤ 1 from ⟨by omega, by omega⟩), trivial⟩
    · skip
      refine w_call (s_X9_inOrder ⟨by omega, by omega⟩ ⟨by omega, by omega⟩ iM) ?_
      intro v14 m14 pp14
      obtain ⟨im14, kk14, e14_0, -⟩ := pp14
      try dsimp only
      replace im14 : I n m14 := im14
      replace kk14 : Keep n W_X9_inOrder M m14 := kk14
      have km14 : Keep n W_X9_isOrder Me m14 := kM.tr kk14 (fun b j z => z.elim)
      replace e14_0 : (-1) ≤ v14 ∧ v14 ≤ 3 := e14_0
      refine w_if (fun c4_ => ?_) (fun c4_ => ?_)
      · skip
        exact s_X9_isOrder_35 hk2 ⟨by omega, by omega⟩ ⟨by omega, by omega⟩ ⟨by omega, by omega⟩ (by omega) im14 km14
      · skip
        exact w_ret ⟨im14, km14, (show 0 ≤ 0 ∧ 0 ≤ 1 from ⟨by omega, by omega⟩), trivial⟩
theorem s_X9_isOrder_2 {n : Nat} {Me : Mem} : ∀ (fu : Nat) (l0 l1 l2 : Int) (M : Mem), (0 ≤ l0 ∧ l0 ≤ 5) → (1 ≤ l1 ∧ l1 ≤ 3) → (0 ≤ l2 ∧ l2 ≤ 3) → 4 - l2 < (fu : Int) → I n M → Keep n W_X9_isOrder Me M → wp (mX9_isOrder_2 fu l0 l1 l2 M) (fun q => I n q.2 ∧ Keep n W_X9_isOrder Me q.2 ∧ (0 ≤ q.1 ∧ q.1 ≤ 1) ∧ True) := by
  intro fu
  induction fu with
  | zero =>
    intro l0 l1 l2 M r_l0 r_l1 r_l2 hf iM kM
    exfalso
    omega
  | succ fu ih =>
    intro l0 l1 l2 M r_l0 r_l1 r_l2 hf iM kM
    exact sb_X9_isOrder_2 ih r_l0 r_l1 r_l2 (by have e : ((fu + 1 : Nat) : Int) = (fu : Int) + 1 := rfl; rw [e] at hf; exact hf) iM kM
theorem s_X9_isOrder {n : Nat} {l0 l1 : Int} {M : Mem} (r_l0 : 0 ≤ l0 ∧ l0 ≤ 5) (r_l1 : 1 ≤ l1 ∧ l1 ≤ 3) (iM : I n M) : wp (mX9_isOrder l0 l1 M) (fun q => I n q.2 ∧ Keep n W_X9_isOrder M q.2 ∧ (0 ≤ q.1 ∧ q.1 ≤ 1) ∧ True) := by
  have hn : (169 : Int) ≤ (n : Int) := by have := iM.2.2.2.2.1; omega
  have kM : Keep n W_X9_isOrder M M := Keep.rf
  unfold mX9_isOrder
  exact s_X9_isOrder_2 FU _ _ _ _ ⟨by omega, by omega⟩ ⟨by omega, by omega⟩ ⟨by omega, by omega⟩ (by show _ < (70000 : Int); omega) iM kM
