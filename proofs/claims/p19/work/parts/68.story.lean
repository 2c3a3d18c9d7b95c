/-! ===== the class's story and guess ===== -/
/-- a call that may make a text -/
def SN (n : Nat) (W : Int → Int → Prop) (M : Mem) (q : Int × Mem) : Prop := ∃ n' : Nat, n ≤ n' ∧ I n' q.2 ∧ Keep n W M q.2 ∧ mG q.2 3 5 = 0
theorem s_X8_story {n : Nat} {M : Mem} (iM : I n M) : wp (mX8_story 1 M) (fun q => SN n W_X8_story M q ∧ (-2) ≤ q.1 ∧ q.1 ≤ 7) := by
  have hn : (169 : Int) ≤ (n : Int) := by have := iM.2.2.2.2.1; omega
  unfold mX8_story
  refine w_gFc (ji := 1) rfl (congrArg Prod.fst (kl_1 iM)) (rd_VS_1 iM (a := 1) rfl) ?_
  refine w_gF (ji := 11) rfl (congrArg Prod.fst (kl_3 iM)) (fun v hv => ?_)
  refine w_if (fun c => ?_) (fun c => ?_)
  · refine w_gFc (ji := 2) rfl (congrArg Prod.fst (kl_1 iM)) (rd_VS_2 iM (a := 1) rfl) ?_
    refine w_gFc (ji := 1) rfl (congrArg Prod.fst (kl_1 iM)) (rd_VS_1 iM (a := 1) rfl) ?_
    refine w_gK (congrArg Prod.fst (kl_65 iM)) ?_
    refine w_call (s_X2_read iM) ?_
    rintro r m ⟨n1, hn1, i1, k1, x1, z1⟩
    have i1 : I n1 m := i1
    have k1 : Keep n W_X2_read M m := k1
    have x1 : TX n1 m r := x1
    have z1 : mG m 3 5 = 0 := z1
    have kk : Keep n W_X8_story M m := Keep.sub k1 (fun b j z => by unfold W_X2_read at z; exact (show W_X8_story b j from Or.elim z (fun z => (Or.inr (Or.inl z))) (fun z => Or.elim z (fun z => (Or.inr (Or.inr (Or.inl z)))) (fun z => Or.elim z (fun z => (Or.inr (Or.inr (Or.inr (Or.inr (Or.inl z)))))) (fun z => Or.elim z (fun z => (Or.inr (Or.inr (Or.inr (Or.inr (Or.inr (Or.inl z))))))) (fun z => Or.elim z (fun z => (Or.inr (Or.inr (Or.inr (Or.inr (Or.inr (Or.inr (Or.inl z)))))))) (fun z => Or.elim z (fun z => (Or.inr (Or.inr (Or.inr (Or.inr (Or.inr (Or.inr (Or.inr (Or.inl z))))))))) (fun z => Or.elim z (fun z => (Or.inr (Or.inr (Or.inr (Or.inr (Or.inr (Or.inr (Or.inr (Or.inr (Or.inl z)))))))))) (fun z => Or.elim z (fun z => (Or.inr (Or.inr (Or.inr (Or.inr (Or.inr (Or.inr (Or.inr (Or.inr (Or.inr (Or.inl z))))))))))) (fun z => Or.elim z (fun z => (Or.inr (Or.inr (Or.inr (Or.inr (Or.inr (Or.inr (Or.inr (Or.inr (Or.inr (Or.inr (Or.inl z)))))))))))) (fun z => Or.elim z (fun z => (Or.inr (Or.inr (Or.inr (Or.inr (Or.inr (Or.inr (Or.inr (Or.inr (Or.inr (Or.inr (Or.inr (Or.inl z))))))))))))) (fun z => Or.elim z (fun z => (Or.inr (Or.inr (Or.inr (Or.inr (Or.inr (Or.inr (Or.inr (Or.inr (Or.inr (Or.inr (Or.inr (Or.inr (Or.inl z)))))))))))))) (fun z => Or.elim z (fun z => (Or.inr (Or.inr (Or.inr (Or.inr (Or.inr (Or.inr (Or.inr (Or.inr (Or.inr (Or.inr (Or.inr (Or.inr (Or.inr (Or.inl z))))))))))))))) (fun z => Or.elim z (fun z => (Or.inr (Or.inr (Or.inr (Or.inr (Or.inr (Or.inr (Or.inr (Or.inr (Or.inr (Or.inr (Or.inr (Or.inr (Or.inr (Or.inr (Or.inl z)))))))))))))))) (fun z => Or.elim z (fun z => (Or.inr (Or.inr (Or.inr (Or.inr (Or.inr (Or.inr (Or.inr (Or.inr (Or.inr (Or.inr (Or.inr (Or.inr (Or.inr (Or.inr (Or.inr (Or.inl z))))))))))))))))) (fun z => Or.elim z (fun z => (Or.inr (Or.inr (Or.inr (Or.inr (Or.inr (Or.inr (Or.inr (Or.inr (Or.inr (Or.inr (Or.inr (Or.inr (Or.inr (Or.inr (Or.inr (Or.inr (Or.inl z)))))))))))))))))) (fun z => (Or.inr (Or.inr (Or.inr (Or.inr (Or.inr (Or.inr (Or.inr (Or.inr (Or.inr (Or.inr (Or.inr (Or.inr (Or.inr (Or.inr (Or.inr (Or.inr (Or.inr z))))))))))))))))))))))))))))))))))
    dsimp only
    refine w_if (fun c2 => w_ret ⟨⟨n1, hn1, i1, kk, z1⟩, (show (-2 : Int) ≤ -1 from by decide), (show (-1 : Int) ≤ 7 from by decide)⟩) (fun c2 => ?_)
    refine w_gFc (ji := 1) rfl (congrArg Prod.fst (kl_1 i1)) (rd_VS_1 i1 (a := 1) rfl) ?_
    refine w_gK (congrArg Prod.fst (kl_3 i1)) ?_
    refine w_call (s_X6_addStory x1 c2 i1) ?_
    rintro r2 m2 ⟨i2, k2, q2, -⟩
    have i2 : I n1 m2 := i2
    have k2 : Keep n1 W_X6_addStory m m2 := k2
    have q2 : (-1) ≤ r2 ∧ r2 ≤ 7 := q2
    refine w_ret ⟨⟨n1, hn1, i2, kk.tr (k2.less hn1) (fun b j z => by unfold W_X6_addStory at z; exact (show W_X8_story b j from Or.elim z (fun z => (Or.inl z)) (fun z => (Or.inr (Or.inr (Or.inr (Or.inl z))))))), ?_⟩, (by show -2 ≤ r2; omega), q2.2⟩
    show mG m2 3 5 = 0
    rw [k2.2.2 3 5 (by omega) (fun z => by unfold W_X6_addStory at z; omega)]; exact z1
  · refine w_gFc (ji := 1) rfl (congrArg Prod.fst (kl_1 iM)) (rd_VS_1 iM (a := 1) rfl) ?_
    refine w_gK (congrArg Prod.fst (kl_3 iM)) ?_
    unfold mX6_clearTape
    refine w_call (P := fun q => I n q.2 ∧ Keep n W_X8_story M q.2 ∧ mG q.2 3 5 = 0) ?_ ?_
    · refine w_pF (ji := 5) rfl (congrArg Prod.fst (kl_3 iM)) (fun M5 h5 => ?_)
      have i5 : I n M5 := wr_Told_5 iM rfl (by decide) h5
      refine w_pF (ji := 6) rfl (congrArg Prod.fst (kl_3 i5)) (fun M6 h6 => ?_)
      have i6 : I n M6 := wr_Told_6 i5 rfl (by decide) h6
      refine w_pF (ji := 7) rfl (congrArg Prod.fst (kl_3 i6)) (fun M7 h7 => ?_)
      have i7 : I n M7 := wr_Told_7 i6 rfl (by decide) h7
      refine w_ret ⟨i7, ((Keep.rf.st h5 (Or.inl (show W_X8_story 3 5 from (Or.inr (Or.inr (Or.inr (Or.inr (Or.inl ⟨rfl, rfl⟩)))))))).st h6 (Or.inl (show W_X8_story 3 6 from (Or.inr (Or.inr (Or.inr (Or.inr (Or.inr (Or.inl ⟨rfl, rfl⟩))))))))).st h7 (Or.inl (show W_X8_story 3 7 from (Or.inr (Or.inr (Or.inr (Or.inr (Or.inr (Or.inr (Or.inl ⟨rfl, rfl⟩))))))))), ?_⟩
      rw [st_ne h7 (fun z => absurd z.2 (by decide)), st_ne h6 (fun z => absurd z.2 (by decide))]; exact st_eq h5
    · rintro r m ⟨i, k, z⟩
      exact w_ret ⟨⟨n, Nat.le_refl _, i, k, z⟩, (show (-2 : Int) ≤ -2 from by decide), (show (-2 : Int) ≤ 7 from by decide)⟩
theorem s_X8_guess {n : Nat} {M : Mem} (iM : I n M) : wp (mX8_guess 1 M) (fun q => SN n W_X8_guess M q ∧ (-1) ≤ q.1 ∧ q.1 ≤ 40) := by
  have hn : (169 : Int) ≤ (n : Int) := by have := iM.2.2.2.2.1; omega
  unfold mX8_guess
  refine w_gFc (ji := 2) rfl (congrArg Prod.fst (kl_1 iM)) (rd_VS_2 iM (a := 1) rfl) ?_
  refine w_gFc (ji := 1) rfl (congrArg Prod.fst (kl_1 iM)) (rd_VS_1 iM (a := 1) rfl) ?_
  refine w_gK (congrArg Prod.fst (kl_65 iM)) ?_
  refine w_call (s_X2_read iM) ?_
  rintro r m ⟨n1, hn1, i1, k1, x1, z1⟩
  have i1 : I n1 m := i1
  have k1 : Keep n W_X2_read M m := k1
  have x1 : TX n1 m r := x1
  have z1 : mG m 3 5 = 0 := z1
  have kk : Keep n W_X8_guess M m := Keep.sub k1 (fun b j z => by unfold W_X2_read at z; exact (show W_X8_guess b j from Or.elim z (fun z => (Or.inl z)) (fun z => Or.elim z (fun z => (Or.inr (Or.inl z))) (fun z => Or.elim z (fun z => (Or.inr (Or.inr (Or.inr (Or.inr (Or.inl z)))))) (fun z => Or.elim z (fun z => (Or.inr (Or.inr (Or.inr (Or.inr (Or.inr (Or.inl z))))))) (fun z => Or.elim z (fun z => (Or.inr (Or.inr (Or.inr (Or.inr (Or.inr (Or.inr (Or.inl z)))))))) (fun z => Or.elim z (fun z => (Or.inr (Or.inr (Or.inr (Or.inr (Or.inr (Or.inr (Or.inr (Or.inl z))))))))) (fun z => Or.elim z (fun z => (Or.inr (Or.inr (Or.inr (Or.inr (Or.inr (Or.inr (Or.inr (Or.inr (Or.inl z)))))))))) (fun z => Or.elim z (fun z => (Or.inr (Or.inr (Or.inr (Or.inr (Or.inr (Or.inr (Or.inr (Or.inr (Or.inr (Or.inl z))))))))))) (fun z => Or.elim z (fun z => (Or.inr (Or.inr (Or.inr (Or.inr (Or.inr (Or.inr (Or.inr (Or.inr (Or.inr (Or.inr (Or.inl z)))))))))))) (fun z => Or.elim z (fun z => (Or.inr (Or.inr (Or.inr (Or.inr (Or.inr (Or.inr (Or.inr (Or.inr (Or.inr (Or.inr (Or.inr (Or.inl z))))))))))))) (fun z => Or.elim z (fun z => (Or.inr (Or.inr (Or.inr (Or.inr (Or.inr (Or.inr (Or.inr (Or.inr (Or.inr (Or.inr (Or.inr (Or.inr (Or.inl z)))))))))))))) (fun z => Or.elim z (fun z => (Or.inr (Or.inr (Or.inr (Or.inr (Or.inr (Or.inr (Or.inr (Or.inr (Or.inr (Or.inr (Or.inr (Or.inr (Or.inr (Or.inl z))))))))))))))) (fun z => Or.elim z (fun z => (Or.inr (Or.inr (Or.inr (Or.inr (Or.inr (Or.inr (Or.inr (Or.inr (Or.inr (Or.inr (Or.inr (Or.inr (Or.inr (Or.inr (Or.inl z)))))))))))))))) (fun z => Or.elim z (fun z => (Or.inr (Or.inr (Or.inr (Or.inr (Or.inr (Or.inr (Or.inr (Or.inr (Or.inr (Or.inr (Or.inr (Or.inr (Or.inr (Or.inr (Or.inr (Or.inl z))))))))))))))))) (fun z => Or.elim z (fun z => (Or.inr (Or.inr (Or.inr (Or.inr (Or.inr (Or.inr (Or.inr (Or.inr (Or.inr (Or.inr (Or.inr (Or.inr (Or.inr (Or.inr (Or.inr (Or.inr (Or.inl z)))))))))))))))))) (fun z => (Or.inr (Or.inr (Or.inr (Or.inr (Or.inr (Or.inr (Or.inr (Or.inr (Or.inr (Or.inr (Or.inr (Or.inr (Or.inr (Or.inr (Or.inr (Or.inr (Or.inr z))))))))))))))))))))))))))))))))))
  dsimp only
  refine w_if (fun c2 => w_ret ⟨⟨n1, hn1, i1, kk, z1⟩, (show (-1 : Int) ≤ -1 from by decide), (show (-1 : Int) ≤ 40 from by decide)⟩) (fun c2 => ?_)
  refine w_gFc (ji := 1) rfl (congrArg Prod.fst (kl_1 i1)) (rd_VS_1 i1 (a := 1) rfl) ?_
  refine w_pF (ji := 12) rfl (congrArg Prod.fst (kl_3 i1)) (fun M2 h2 => ?_)
  have i2 : I n1 M2 := wr_Told_12 i1 rfl x1 h2
  have k2 : Keep n W_X8_guess M M2 := kk.st h2 (Or.inl (show W_X8_guess 3 12 from (Or.inr (Or.inr (Or.inr (Or.inl ⟨rfl, rfl⟩))))))
  have z2 : mG M2 3 5 = 0 := (st_ne h2 (fun z => absurd z.2 (by decide))).trans z1
  have x2 : TX n1 M2 r := x1.ot (otx_st h2 (by decide))
  refine w_gFc (ji := 0) rfl (congrArg Prod.fst (kl_1 i2)) (rd_VS_0 i2 (a := 1) rfl) ?_
  refine w_gK (congrArg Prod.fst (kl_2 i2)) ?_
  refine w_call (s_X4_forgetGuess i2) ?_
  rintro r3 m3 ⟨i3, k3, -⟩
  have i3 : I n1 m3 := i3
  have k3 : Keep n1 W_X4_forgetGuess M2 m3 := k3
  have x3 : TX n1 m3 r := x2.ot (otx_kp k3 (fun b j z => by unfold W_X4_forgetGuess at z; omega))
  obtain ⟨-, np, t3⟩ := x3.nn c2
  dsimp only
  refine w_gF (ji := 5) rfl (congrArg Prod.fst (tn_k t3)) (fun v hv => ?_)
  have p3 := tn_p t3
  rw [hv.e] at p3
  refine w_ret ⟨⟨n1, hn1, i3, k2.tr (k3.less hn1) (fun b j z => by unfold W_X4_forgetGuess at z; exact (show W_X8_guess b j from (Or.inr (Or.inr (Or.inl z))))), ?_⟩, (by show -1 ≤ v; omega), p3.2.2⟩
  show mG m3 3 5 = 0
  rw [k3.2.2 3 5 (by omega) (fun z => by unfold W_X4_forgetGuess at z; omega)]; exact z2
