def W_X2_read (b j : Int) : Prop := (67 ≤ b ∧ b ≤ 70) ∨ b = 72 ∨ (b = 3 ∧ j = 5) ∨ (b = 3 ∧ j = 6) ∨ (b = 3 ∧ j = 7) ∨ (b = 65 ∧ j = 0) ∨ (b = 65 ∧ j = 1) ∨ (b = 65 ∧ j = 10) ∨ (b = 65 ∧ j = 11) ∨ (b = 65 ∧ j = 2) ∨ (b = 65 ∧ j = 3) ∨ (b = 65 ∧ j = 4) ∨ (b = 65 ∧ j = 7) ∨ (b = 65 ∧ j = 8) ∨ (b = 65 ∧ j = 9) ∨ (b = 66 ∧ j = 5)
def W_X6_addStory (b j : Int) : Prop := (14 ≤ b ∧ b ≤ 16) ∨ (b = 3 ∧ j = 11)
theorem s_X6_addStory {n : Nat} {l1 : Int} {M : Mem} (x_l1 : TX n M l1) (n_l1 : ¬ l1 = 0) (iM : I n M) : wp (mX6_addStory 3 l1 M) (fun q => I n q.2 ∧ Keep n W_X6_addStory M q.2 ∧ ((-1) ≤ q.1 ∧ q.1 ≤ 7) ∧ True) := by
  have hn : (169 : Int) ≤ (n : Int) := by have := iM.2.2.2.2.1; omega
  have kM : Keep n W_X6_addStory M M := Keep.rf
  obtain ⟨q_l1, m_l1, t_l1⟩ := TX.nn x_l1 n_l1
  unfold mX6_addStory
  refine w_gF (ji := 11) rfl (congrArg Prod.fst (kl_3 iM)) (fun a1 ha1 => ?_)
  have ra1 : 0 ≤ a1 ∧ a1 ≤ 8 := ha1.tr (P := fun z => 0 ≤ z ∧ z ≤ 8) (rd_Told_11 iM rfl)
  refine w_if (fun c1_ => ?_) (fun c1_ => ?_)
  · skip
    refine w_gFc (ji := 8) rfl (congrArg Prod.fst (kl_3 iM)) (show mG M 3 8 = 14 from rd_Told_8 iM (a := 3) rfl) ?_
    refine w_gFc (ji := 11) rfl (congrArg Prod.fst (kl_3 iM)) (show mG M 3 11 = a1 from (show mG M 3 11 = a1 from ha1)) ?_
    refine w_aSR (kl_14 iM) (by omega) (by omega) (TX.cls x_l1) (fun M20 hM20 => ?_)
    replace hM20 : M20 = mS M 14 a1 l1 := hM20
    have iM20 : I n M20 := wr_Ttexts iM rfl x_l1 hM20
    have kM20 : Keep n W_X6_addStory M M20 := kM.st hM20 (Or.inl (Or.inl ⟨by decide, by decide⟩))
    refine w_gFc (ji := 9) rfl (congrArg Prod.fst (kl_3 iM20)) (show mG M20 3 9 = 15 from rd_Told_9 iM20 (a := 3) rfl) ?_
    refine w_gFc (ji := 11) rfl (congrArg Prod.fst (kl_3 iM20)) (show mG M20 3 11 = a1 from ((st_ne hM20 (fun z => ne_fam rfl rfl (by decide) z.1)).trans (show mG M 3 11 = a1 from ha1))) ?_
    refine w_gF (ji := 13) rfl (congrArg Prod.fst (kl_3 iM20)) (fun a30 ha30 => ?_)
    have ra30 : 0 ≤ a30 ∧ a30 ≤ 999 := ha30.tr (P := fun z => 0 ≤ z ∧ z ≤ 999) (rd_Told_13 iM20 rfl)
    refine w_aS (kl_15 iM20) (by omega) (by omega) (fun M33 hM33 => ?_)
    replace hM33 : M33 = mS M20 15 a1 a30 := hM33
    have iM33 : I n M33 := wr_TtoldOn iM20 rfl ⟨by omega, by omega⟩ hM33
    have kM33 : Keep n W_X6_addStory M M33 := kM20.st hM33 (Or.inl (Or.inl ⟨by decide, by decide⟩))
    refine w_gFc (ji := 10) rfl (congrArg Prod.fst (kl_3 iM33)) (show mG M33 3 10 = 16 from rd_Told_10 iM33 (a := 3) rfl) ?_
    refine w_gFc (ji := 11) rfl (congrArg Prod.fst (kl_3 iM33)) (show mG M33 3 11 = a1 from ((st_ne hM33 (fun z => ne_fam rfl rfl (by decide) z.1)).trans ((st_ne hM20 (fun z => ne_fam rfl rfl (by decide) z.1)).trans (show mG M 3 11 = a1 from ha1)))) ?_
    refine w_aS (kl_16 iM33) (by omega) (by omega) (fun M43 hM43 => ?_)
    replace hM43 : M43 = mS M33 16 a1 (-1) := hM43
    have iM43 : I n M43 := wr_TstruckOn iM33 rfl ⟨by omega, by omega⟩ hM43
    have kM43 : Keep n W_X6_addStory M M43 := kM33.st hM43 (Or.inl (Or.inl ⟨by decide, by decide⟩))
    refine w_gFc (ji := 11) rfl (congrArg Prod.fst (kl_3 iM43)) (show mG M43 3 11 = a1 from ((st_ne hM43 (fun z => ne_fam rfl rfl (by decide) z.1)).trans ((st_ne hM33 (fun z => ne_fam rfl rfl (by decide) z.1)).trans ((st_ne hM20 (fun z => ne_fam rfl rfl (by decide) z.1)).trans (show mG M 3 11 = a1 from ha1))))) ?_
    have w2_ := wI_id (x := (a1 + 1)) (by omega) (by omega)
    refine w_pF (ji := 11) rfl (congrArg Prod.fst (kl_3 iM43)) (fun M51 hM51 => ?_)
    replace hM51 : M51 = mS M43 3 11 (wI (a1 + 1)) := hM51
    have iM51 : I n M51 := wr_Told_11 iM43 rfl ⟨by omega, by omega⟩ hM51
    have kM51 : Keep n W_X6_addStory M M51 := kM43.st hM51 (Or.inl (Or.inr ⟨rfl, rfl⟩))
    obtain ⟨svM51, esvM51⟩ : ∃ z, z = (wI (a1 + 1)) := ⟨_, rfl⟩
    refine w_gFc (ji := 11) rfl (congrArg Prod.fst (kl_3 iM51)) (show mG M51 3 11 = svM51 from (show mG M51 3 11 = svM51 from ((st_eq hM51).trans esvM51.symm))) ?_
    have w3_ := wI_id (x := (svM51 - 1)) (by omega) (by omega)
    exact w_ret ⟨iM51, kM51, (show (-1) ≤ (wI (svM51 - 1)) ∧ (wI (svM51 - 1)) ≤ 7 from ⟨by omega, by omega⟩), trivial⟩
  · skip
    exact w_ret ⟨iM, kM, (show (-1) ≤ (-1) ∧ (-1) ≤ 7 from ⟨by omega, by omega⟩), trivial⟩
def W_X8_story (b j : Int) : Prop := (14 ≤ b ∧ b ≤ 16) ∨ (67 ≤ b ∧ b ≤ 70) ∨ b = 72 ∨ (b = 3 ∧ j = 11) ∨ (b = 3 ∧ j = 5) ∨ (b = 3 ∧ j = 6) ∨ (b = 3 ∧ j = 7) ∨ (b = 65 ∧ j = 0) ∨ (b = 65 ∧ j = 1) ∨ (b = 65 ∧ j = 10) ∨ (b = 65 ∧ j = 11) ∨ (b = 65 ∧ j = 2) ∨ (b = 65 ∧ j = 3) ∨ (b = 65 ∧ j = 4) ∨ (b = 65 ∧ j = 7) ∨ (b = 65 ∧ j = 8) ∨ (b = 65 ∧ j = 9) ∨ (b = 66 ∧ j = 5)
def W_X4_forgetGuess (b j : Int) : Prop := (b = 2 ∧ j = 4)
theorem s_X4_forgetGuess {n : Nat} {M : Mem} (iM : I n M) : wp (mX4_forgetGuess 2 M) (fun q => I n q.2 ∧ Keep n W_X4_forgetGuess M q.2 ∧ True) := by
  have hn : (169 : Int) ≤ (n : Int) := by have := iM.2.2.2.2.1; omega
  have kM : Keep n W_X4_forgetGuess M M := Keep.rf
  unfold mX4_forgetGuess
  refine w_gF (ji := 4) rfl (congrArg Prod.fst (kl_2 iM)) (fun a2 ha2 => ?_)
  have ra2 : (-2147483648) ≤ a2 ∧ a2 ≤ 2147483647 := ha2.tr (P := fun z => (-2147483648) ≤ z ∧ z ≤ 2147483647) (rd_Solver_4 iM rfl)
  have w1_ := iand_in a2 (-257)
  refine w_pF (ji := 4) rfl (congrArg Prod.fst (kl_2 iM)) (fun M9 hM9 => ?_)
  replace hM9 : M9 = mS M 2 4 (iand a2 (-257)) := hM9
  have iM9 : I n M9 := wr_Solver_4 iM rfl ⟨by omega, by omega⟩ hM9
  have kM9 : Keep n W_X4_forgetGuess M M9 := kM.st hM9 (Or.inl ⟨rfl, rfl⟩)
  obtain ⟨svM9, esvM9⟩ : ∃ z, z = (iand a2 (-257)) := ⟨_, rfl⟩
  exact w_ret ⟨iM9, kM9, trivial⟩
def W_X8_guess (b j : Int) : Prop := (67 ≤ b ∧ b ≤ 70) ∨ b = 72 ∨ (b = 2 ∧ j = 4) ∨ (b = 3 ∧ j = 12) ∨ (b = 3 ∧ j = 5) ∨ (b = 3 ∧ j = 6) ∨ (b = 3 ∧ j = 7) ∨ (b = 65 ∧ j = 0) ∨ (b = 65 ∧ j = 1) ∨ (b = 65 ∧ j = 10) ∨ (b = 65 ∧ j = 11) ∨ (b = 65 ∧ j = 2) ∨ (b = 65 ∧ j = 3) ∨ (b = 65 ∧ j = 4) ∨ (b = 65 ∧ j = 7) ∨ (b = 65 ∧ j = 8) ∨ (b = 65 ∧ j = 9) ∨ (b = 66 ∧ j = 5)
def W_X8_fault (b j : Int) : Prop := False
theorem s_X8_fault {n : Nat} {l1 : Int} {M : Mem} (r_l1 : (-2147483648) ≤ l1 ∧ l1 ≤ 2147483647) (iM : I n M) : wp (mX8_fault 1 l1 M) (fun q => I n q.2 ∧ Keep n W_X8_fault M q.2 ∧ ((-1) ≤ q.1 ∧ q.1 ≤ 400) ∧ True) := by
  have hn : (169 : Int) ≤ (n : Int) := by have := iM.2.2.2.2.1; omega
  have kM : Keep n W_X8_fault M M := Keep.rf
  unfold mX8_fault
  refine w_if (fun c1_ => ?_) (fun c1_ => ?_)
  · skip
    refine w_gFc (ji := 1) rfl (congrArg Prod.fst (kl_1 iM)) (show mG M 1 1 = 3 from rd_VS_1 iM (a := 1) rfl) ?_
    refine w_gF (ji := 6) rfl (congrArg Prod.fst (kl_3 iM)) (fun a32 ha32 => ?_)
    have ra32 : 0 ≤ a32 ∧ a32 ≤ 5 := ha32.tr (P := fun z => 0 ≤ z ∧ z ≤ 5) (rd_Told_6 iM rfl)
    exact w_ret ⟨iM, kM, (show (-1) ≤ a32 ∧ a32 ≤ 400 from ⟨by omega, by omega⟩), trivial⟩
  · skip
    refine w_if (fun c2_ => ?_) (fun c2_ => ?_)
    · skip
      refine w_gFc (ji := 1) rfl (congrArg Prod.fst (kl_1 iM)) (show mG M 1 1 = 3 from rd_VS_1 iM (a := 1) rfl) ?_
      refine w_gF (ji := 7) rfl (congrArg Prod.fst (kl_3 iM)) (fun a40 ha40 => ?_)
      have ra40 : (-1) ≤ a40 ∧ a40 ≤ 400 := ha40.tr (P := fun z => (-1) ≤ z ∧ z ≤ 400) (rd_Told_7 iM rfl)
      exact w_ret ⟨iM, kM, (show (-1) ≤ a40 ∧ a40 ≤ 400 from ⟨by omega, by omega⟩), trivial⟩
    · skip
      exact w_ret ⟨iM, kM, (show (-1) ≤ (-1) ∧ (-1) ≤ 400 from ⟨by omega, by omega⟩), trivial⟩
def W_X6_hasStory (b j : Int) : Prop := False
theorem s_X6_hasStory {n : Nat} {l1 : Int} {M : Mem} (r_l1 : (-2147483648) ≤ l1 ∧ l1 ≤ 2147483647) (iM : I n M) : wp (mX6_hasStory 3 l1 M) (fun q => I n q.2 ∧ Keep n W_X6_hasStory M q.2 ∧ (0 ≤ q.1 ∧ q.1 ≤ 1) ∧ (q.1 = 1 → 0 ≤ l1 ∧ l1 ≤ 7) ∧ True) := by
  have hn : (169 : Int) ≤ (n : Int) := by have := iM.2.2.2.2.1; omega
  have kM : Keep n W_X6_hasStory M M := Keep.rf
  unfold mX6_hasStory
  refine w_if (fun c1_ => ?_) (fun c1_ => ?_)
  · skip
    exact w_ret ⟨iM, kM, (show 0 ≤ 0 ∧ 0 ≤ 1 from ⟨by omega, by omega⟩), (show 0 = 1 → 0 ≤ l1 ∧ l1 ≤ 7 from fun z => by omega), trivial⟩
  · skip
    refine w_gF (ji := 11) rfl (congrArg Prod.fst (kl_3 iM)) (fun a6 ha6 => ?_)
    have ra6 : 0 ≤ a6 ∧ a6 ≤ 8 := ha6.tr (P := fun z => 0 ≤ z ∧ z ≤ 8) (rd_Told_11 iM rfl)
    refine w_if (fun c2_ => ?_) (fun c2_ => ?_)
    · skip
      exact w_ret ⟨iM, kM, (show 0 ≤ 0 ∧ 0 ≤ 1 from ⟨by omega, by omega⟩), (show 0 = 1 → 0 ≤ l1 ∧ l1 ≤ 7 from fun z => by omega), trivial⟩
    · skip
      exact w_ret ⟨iM, kM, (show 0 ≤ 1 ∧ 1 ≤ 1 from ⟨by omega, by omega⟩), (show 1 = 1 → 0 ≤ l1 ∧ l1 ≤ 7 from fun z => by omega), trivial⟩
def W_X8_strike (b j : Int) : Prop := b = 16
theorem s_X8_strike {n : Nat} {l1 : Int} {M : Mem} (r_l1 : (-2147483648) ≤ l1 ∧ l1 ≤ 2147483647) (iM : I n M) : wp (mX8_strike 1 l1 M) (fun q => I n q.2 ∧ Keep n W_X8_strike M q.2 ∧ (0 ≤ q.1 ∧ q.1 ≤ 1) ∧ True) := by
  have hn : (169 : Int) ≤ (n : Int) := by have := iM.2.2.2.2.1; omega
  have kM : Keep n W_X8_strike M M := Keep.rf
  unfold mX8_strike
  refine w_gFc (ji := 1) rfl (congrArg Prod.fst (kl_1 iM)) (show mG M 1 1 = 3 from rd_VS_1 iM (a := 1) rfl) ?_
  refine w_gK (congrArg Prod.fst (kl_3 iM)) ?_
  refine w_call (s_X6_hasStory ⟨by omega, by omega⟩ iM) ?_
  intro v5 m5 pp5
  obtain ⟨im5, kk5, e5_0, e5_1, -⟩ := pp5
  try dsimp only
  replace im5 : I n m5 := im5
  replace kk5 : Keep n W_X6_hasStory M m5 := kk5
  have km5 : Keep n W_X8_strike M m5 := kM.tr kk5 (fun b j z => z.elim)
  replace e5_0 : 0 ≤ v5 ∧ v5 ≤ 1 := e5_0
  replace e5_1 : v5 = 1 → 0 ≤ l1 ∧ l1 ≤ 7 := e5_1
  refine w_if (fun c1_ => ?_) (fun c1_ => ?_)
  · skip
    exact w_ret ⟨im5, km5, (show 0 ≤ 0 ∧ 0 ≤ 1 from ⟨by omega, by omega⟩), trivial⟩
  · skip
    refine w_gFc (ji := 1) rfl (congrArg Prod.fst (kl_1 im5)) (show mG m5 1 1 = 3 from rd_VS_1 im5 (a := 1) rfl) ?_
    refine w_gFc (ji := 10) rfl (congrArg Prod.fst (kl_3 im5)) (show mG m5 3 10 = 16 from rd_Told_10 im5 (a := 3) rfl) ?_
    refine w_aG (kl_16 im5) (by omega) (by omega) (fun a19 ha19 => ?_)
    have ra19 : (-1) ≤ a19 ∧ a19 ≤ 999 := ha19.tr (P := fun z => (-1) ≤ z ∧ z ≤ 999) (rd_TstruckOn im5 rfl)
    refine w_if (fun c2_ => ?_) (fun c2_ => ?_)
    · skip
      refine w_gFc (ji := 1) rfl (congrArg Prod.fst (kl_1 im5)) (show mG m5 1 1 = 3 from rd_VS_1 im5 (a := 1) rfl) ?_
      refine w_gFc (ji := 10) rfl (congrArg Prod.fst (kl_3 im5)) (show mG m5 3 10 = 16 from rd_Told_10 im5 (a := 3) rfl) ?_
      refine w_gFc (ji := 1) rfl (congrArg Prod.fst (kl_1 im5)) (show mG m5 1 1 = 3 from rd_VS_1 im5 (a := 1) rfl) ?_
      refine w_gF (ji := 13) rfl (congrArg Prod.fst (kl_3 im5)) (fun a38 ha38 => ?_)
      have ra38 : 0 ≤ a38 ∧ a38 ≤ 999 := ha38.tr (P := fun z => 0 ≤ z ∧ z ≤ 999) (rd_Told_13 im5 rfl)
      refine w_aS (kl_16 im5) (by omega) (by omega) (fun M41 hM41 => ?_)
      replace hM41 : M41 = mS m5 16 l1 a38 := hM41
      have iM41 : I n M41 := wr_TstruckOn im5 rfl ⟨by omega, by omega⟩ hM41
      have kM41 : Keep n W_X8_strike M M41 := km5.st hM41 (Or.inl rfl)
      exact w_ret ⟨iM41, kM41, (show 0 ≤ 1 ∧ 1 ≤ 1 from ⟨by omega, by omega⟩), trivial⟩
    · skip
      exact w_ret ⟨im5, km5, (show 0 ≤ 0 ∧ 0 ≤ 1 from ⟨by omega, by omega⟩), trivial⟩
def W_X8_day (b j : Int) : Prop := (b = 3 ∧ j = 13)
theorem s_X8_day {n : Nat} {l1 : Int} {M : Mem} (r_l1 : (-2147483648) ≤ l1 ∧ l1 ≤ 2147483647) (iM : I n M) : wp (mX8_day 1 l1 M) (fun q => I n q.2 ∧ Keep n W_X8_day M q.2 ∧ (0 ≤ q.1 ∧ q.1 ≤ 1) ∧ True) := by
  have hn : (169 : Int) ≤ (n : Int) := by have := iM.2.2.2.2.1; omega
  have kM : Keep n W_X8_day M M := Keep.rf
  unfold mX8_day
  refine w_gFc (ji := 1) rfl (congrArg Prod.fst (kl_1 iM)) (show mG M 1 1 = 3 from rd_VS_1 iM (a := 1) rfl) ?_
  refine w_gF (ji := 13) rfl (congrArg Prod.fst (kl_3 iM)) (fun a5 ha5 => ?_)
  have ra5 : 0 ≤ a5 ∧ a5 ≤ 999 := ha5.tr (P := fun z => 0 ≤ z ∧ z ≤ 999) (rd_Told_13 iM rfl)
  refine w_if (fun c1_ => ?_) (fun c1_ => ?_)
  · skip
    exact w_ret ⟨iM, kM, (show 0 ≤ 0 ∧ 0 ≤ 1 from ⟨by omega, by omega⟩), trivial⟩
  · skip
    refine w_if (fun c2_ => ?_) (fun c2_ => ?_)
    · skip
      refine w_gFc (ji := 1) rfl (congrArg Prod.fst (kl_1 iM)) (show mG M 1 1 = 3 from rd_VS_1 iM (a := 1) rfl) ?_
      refine w_pF (ji := 13) rfl (congrArg Prod.fst (kl_3 iM)) (fun M25 hM25 => ?_)
      replace hM25 : M25 = mS M 3 13 l1 := hM25
      have iM25 : I n M25 := wr_Told_13 iM rfl ⟨by omega, by omega⟩ hM25
      have kM25 : Keep n W_X8_day M M25 := kM.st hM25 (Or.inl ⟨rfl, rfl⟩)
      exact w_ret ⟨iM25, kM25, (show 0 ≤ 1 ∧ 1 ≤ 1 from ⟨by omega, by omega⟩), trivial⟩
    · skip
      exact w_ret ⟨iM, kM, (show 0 ≤ 0 ∧ 0 ≤ 1 from ⟨by omega, by omega⟩), trivial⟩
def W_X8_view (b j : Int) : Prop := (b = 3 ∧ j = 14)
theorem s_X8_view {n : Nat} {l1 : Int} {M : Mem} (r_l1 : (-2147483648) ≤ l1 ∧ l1 ≤ 2147483647) (iM : I n M) : wp (mX8_view 1 l1 M) (fun q => I n q.2 ∧ Keep n W_X8_view M q.2 ∧ (0 ≤ q.1 ∧ q.1 ≤ 1) ∧ True) := by
  have hn : (169 : Int) ≤ (n : Int) := by have := iM.2.2.2.2.1; omega
  have kM : Keep n W_X8_view M M := Keep.rf
  unfold mX8_view
  refine w_if (fun c1_ => ?_) (fun c1_ => ?_)
  · skip
    exact w_ret ⟨iM, kM, (show 0 ≤ 0 ∧ 0 ≤ 1 from ⟨by omega, by omega⟩), trivial⟩
  · skip
    refine w_gFc (ji := 1) rfl (congrArg Prod.fst (kl_1 iM)) (show mG M 1 1 = 3 from rd_VS_1 iM (a := 1) rfl) ?_
    refine w_gF (ji := 13) rfl (congrArg Prod.fst (kl_3 iM)) (fun a10 ha10 => ?_)
    have ra10 : 0 ≤ a10 ∧ a10 ≤ 999 := ha10.tr (P := fun z => 0 ≤ z ∧ z ≤ 999) (rd_Told_13 iM rfl)
    refine w_if (fun c2_ => ?_) (fun c2_ => ?_)
    · skip
      refine w_gFc (ji := 1) rfl (congrArg Prod.fst (kl_1 iM)) (show mG M 1 1 = 3 from rd_VS_1 iM (a := 1) rfl) ?_
      refine w_pF (ji := 14) rfl (congrArg Prod.fst (kl_3 iM)) (fun M23 hM23 => ?_)
      replace hM23 : M23 = mS M 3 14 l1 := hM23
      have iM23 : I n M23 := wr_Told_14 iM rfl ⟨by omega, by omega⟩ hM23
      have kM23 : Keep n W_X8_view M M23 := kM.st hM23 (Or.inl ⟨rfl, rfl⟩)
      exact w_ret ⟨iM23, kM23, (show 0 ≤ 1 ∧ 1 ≤ 1 from ⟨by omega, by omega⟩), trivial⟩
    · skip
      exact w_ret ⟨iM, kM, (show 0 ≤ 0 ∧ 0 ≤ 1 from ⟨by omega, by omega⟩), trivial⟩
def W_X6_storyText (b j : Int) : Prop := False
theorem s_X6_storyText {n : Nat} {l1 : Int} {M : Mem} (r_l1 : (-2147483648) ≤ l1 ∧ l1 ≤ 2147483647) (iM : I n M) : wp (mX6_storyText 3 l1 M) (fun q => I n q.2 ∧ Keep n W_X6_storyText M q.2 ∧ (TX n q.2 q.1) ∧ True) := by
  have hn : (169 : Int) ≤ (n : Int) := by have := iM.2.2.2.2.1; omega
  have kM : Keep n W_X6_storyText M M := Keep.rf
  unfold mX6_storyText
  refine w_gK (congrArg Prod.fst (kl_3 iM)) ?_
  refine w_call (s_X6_hasStory ⟨by omega, by omega⟩ iM) ?_
  intro v2 m2 pp2
  obtain ⟨im2, kk2, e2_0, e2_1, -⟩ := pp2
  try dsimp only
  replace im2 : I n m2 := im2
  replace kk2 : Keep n W_X6_hasStory M m2 := kk2
  have km2 : Keep n W_X6_storyText M m2 := kM.tr kk2 (fun b j z => z.elim)
  replace e2_0 : 0 ≤ v2 ∧ v2 ≤ 1 := e2_0
  replace e2_1 : v2 = 1 → 0 ≤ l1 ∧ l1 ≤ 7 := e2_1
  refine w_if (fun c1_ => ?_) (fun c1_ => ?_)
  · skip
    exact w_ret ⟨im2, km2, (Or.inl rfl), trivial⟩
  · skip
    refine w_gFc (ji := 8) rfl (congrArg Prod.fst (kl_3 im2)) (show mG m2 3 8 = 14 from rd_Told_8 im2 (a := 3) rfl) ?_
    refine w_aG (kl_14 im2) (by omega) (by omega) (fun a13 ha13 => ?_)
    have xa13 : TX n m2 a13 := by rw [← ha13.e]; exact im2.2.2.1.1 3 l1 (by unfold isTold; omega) (by omega) (by omega)
    exact w_ret ⟨im2, km2, xa13, trivial⟩
def W_X0_takeWorld (l1 : Int) (b j : Int) : Prop := b = 21 ∨ (b = 20 ∧ j = 0) ∨ (b = 20 ∧ j = 1) ∨ (b = 20 ∧ j = 5)
theorem s_X0_takeWorld_68 {n : Nat} {Me : Mem} {l1 : Int} (h_l1 : isShape l1) {k18 : Int → Int → Int → Mem → Option (Int × Mem)} {fu18 : Nat} (hk18 : ∀ (l3 l5 : Int) (M : Mem), (0 ≤ l5 ∧ l5 ≤ 36) → (JS M) → (JT M) → 37 - l5 < (fu18 : Int) → I n M → Keep n (W_X0_takeWorld l1) Me M → wp (k18 20 l3 l5 M) (fun q => I n q.2 ∧ Keep n (W_X0_takeWorld l1) Me q.2 ∧ (JS q.2) ∧ (JT q.2) ∧ True)) {l3 l5 s1 s2 : Int} {M : Mem} (r_l5 : 0 ≤ l5 ∧ l5 ≤ 35) (r_s1 : 0 ≤ s1 ∧ s1 ≤ 35) (r_s2 : (-1) ≤ s2 ∧ s2 ≤ 0) (p_JS : JS M) (p_JT : JT M) (hf18 : 37 - l5 < (fu18 : Int) + 1) (iM : I n M) (kM : Keep n (W_X0_takeWorld l1) Me M) : wp (mX0_takeWorld_68 k18 20 l3 l5 21 s1 s2 M) (fun q => I n q.2 ∧ Keep n (W_X0_takeWorld l1) Me q.2 ∧ (JS q.2) ∧ (JT q.2) ∧ True) := by
  have hn : (169 : Int) ≤ (n : Int) := by have := iM.2.2.2.2.1; omega
  have u_l1 := h_l1
  unfold isShape at u_l1
  unfold mX0_takeWorld_68
  refine w_aS (kl_21 iM) (by omega) (by omega) (fun M68 hM68 => ?_)
  replace hM68 : M68 = mS M 21 s1 s2 := hM68
  have iM68 : I n M68 := wr_Jfacts iM rfl hM68
  have kM68 : Keep n (W_X0_takeWorld l1) Me M68 := kM.st hM68 (Or.inl (Or.inl rfl))
  have w1_ := wI_id (x := (l5 + 1)) (by omega) (by omega)
  have ppJS_M68 : JS M68 := (JS_of p_JS (st_ne hM68 (fun z => ne_fam rfl rfl (by decide) z.1)))
  have ppJT_M68 : JT M68 := (JT_of p_JT (st_ne hM68 (fun z => ne_fam rfl rfl (by decide) z.1)))
  exact hk18 _ _ _ ⟨by omega, by omega⟩ ppJS_M68 ppJT_M68 (by omega) iM68 kM68
theorem sb_X0_takeWorld_18 {n : Nat} {Me : Mem} {l1 : Int} (h_l1 : isShape l1) {k18 : Int → Int → Int → Mem → Option (Int × Mem)} {fu18 : Nat} (hk18 : ∀ (l3 l5 : Int) (M : Mem), (0 ≤ l5 ∧ l5 ≤ 36) → (JS M) → (JT M) → 37 - l5 < (fu18 : Int) → I n M → Keep n (W_X0_takeWorld l1) Me M → wp (k18 20 l3 l5 M) (fun q => I n q.2 ∧ Keep n (W_X0_takeWorld l1) Me q.2 ∧ (JS q.2) ∧ (JT q.2) ∧ True)) {l3 l5 : Int} {M : Mem} (r_l5 : 0 ≤ l5 ∧ l5 ≤ 36) (p_JS : JS M) (p_JT : JT M) (hf18 : 37 - l5 < (fu18 : Int) + 1) (iM : I n M) (kM : Keep n (W_X0_takeWorld l1) Me M) : wp (bX0_takeWorld_18 k18 20 l3 l5 M) (fun q => I n q.2 ∧ Keep n (W_X0_takeWorld l1) Me q.2 ∧ (JS q.2) ∧ (JT q.2) ∧ True) := by
  have hn : (169 : Int) ≤ (n : Int) := by have := iM.2.2.2.2.1; omega
  have u_l1 := h_l1
  unfold isShape at u_l1
  unfold bX0_takeWorld_18
  refine w_gF (ji := 0) rfl (congrArg Prod.fst (kl_20 iM)) (fun a21 ha21 => ?_)
  have h_a21 : isShape a21 := by rw [← ha21.e]; exact p_JS
  have u_a21 := h_a21
  unfold isShape at u_a21
  refine w_gF (ji := 7) rfl (congrArg Prod.fst (k_Shape iM h_a21)) (fun a24 ha24 => ?_)
  have ra24 : 0 ≤ a24 ∧ a24 ≤ 36 := ha24.tr (P := fun z => 0 ≤ z ∧ z ≤ 36) (rd_Shape_7 iM (f_Shape h_a21))
  refine w_if (fun c1_ => ?_) (fun c1_ => ?_)
  · skip
    exact w_ret ⟨iM, kM, p_JS, p_JT, trivial⟩
  · skip
    refine w_if (fun c2_ => ?_) (fun c2_ => ?_)
    · exfalso; omega
    · skip
      refine w_gFc (ji := 2) rfl (congrArg Prod.fst (kl_20 iM)) (show mG M 20 2 = 21 from rd_Judge_2 iM (a := 20) rfl) ?_
      refine w_gFc (ji := 0) rfl (congrArg Prod.fst (kl_20 iM)) (show mG M 20 0 = a21 from (show mG M 20 0 = a21 from ha21)) ?_
      refine w_gK (congrArg Prod.fst (k_Shape iM h_a21)) ?_
      refine w_call (s_X3_bit h_a21 ⟨by omega, by omega⟩ iM) ?_
      intro v50 m50 pp50
      obtain ⟨im50, kk50, e50_0, -⟩ := pp50
      try dsimp only
      replace im50 : I n m50 := im50
      replace kk50 : Keep n (W_X3_bit a21) M m50 := kk50
      have km50 : Keep n (W_X0_takeWorld l1) Me m50 := kM.tr kk50 (fun b j z => z.elim)
      replace e50_0 : (-36) ≤ v50 ∧ v50 ≤ 36 := e50_0
      have w5_ := lcmp_0 ((land (lshr l3 v50) 1)) (0)
      refine w_if (fun c6_ => ?_) (fun c6_ => ?_)
      · skip
        have ppJS_m50 : JS m50 := (JS_of p_JS (kk50.2.2 20 0 (by omega) (fun z => z)))
        have ppJT_m50 : JT m50 := (JT_of p_JT (kk50.2.2 20 1 (by omega) (fun z => z)))
        exact s_X0_takeWorld_68 h_l1 hk18 ⟨by omega, by omega⟩ ⟨by omega, by omega⟩ ⟨by omega, by omega⟩ ppJS_m50 ppJT_m50 (by omega) im50 km50
      · skip
        have ppJS_m50 : JS m50 := (JS_of p_JS (kk50.2.2 20 0 (by omega) (fun z => z)))
        have ppJT_m50 : JT m50 := (JT_of p_JT (kk50.2.2 20 1 (by omega) (fun z => z)))
        exact s_X0_takeWorld_68 h_l1 hk18 ⟨by omega, by omega⟩ ⟨by omega, by omega⟩ ⟨by omega, by omega⟩ ppJS_m50 ppJT_m50 (by omega) im50 km50
theorem s_X0_takeWorld_18 {n : Nat} {Me : Mem} {l1 : Int} (h_l1 : isShape l1) : ∀ (fu : Nat) (l3 l5 : Int) (M : Mem), (0 ≤ l5 ∧ l5 ≤ 36) → (JS M) → (JT M) → 37 - l5 < (fu : Int) → I n M → Keep n (W_X0_takeWorld l1) Me M → wp (mX0_takeWorld_18 fu 20 l3 l5 M) (fun q => I n q.2 ∧ Keep n (W_X0_takeWorld l1) Me q.2 ∧ (JS q.2) ∧ (JT q.2) ∧ True) := by
  intro fu
  induction fu with
  | zero =>
    intro l3 l5 M r_l5 p_JS p_JT hf iM kM
    exfalso
    omega
  | succ fu ih =>
    intro l3 l5 M r_l5 p_JS p_JT hf iM kM
    exact sb_X0_takeWorld_18 h_l1 ih r_l5 p_JS p_JT (by have e : ((fu + 1 : Nat) : Int) = (fu : Int) + 1 := rfl; rw [e] at hf; exact hf) iM kM
theorem s_X0_takeWorld {n : Nat} {l1 l2 l3 : Int} {M : Mem} (h_l1 : isShape l1) (x_l2 : TX n M l2) (n_l2 : ¬ l2 = 0) (iM : I n M) : wp (mX0_takeWorld 20 l1 l2 l3 M) (fun q => I n q.2 ∧ Keep n (W_X0_takeWorld l1) M q.2 ∧ (JS q.2) ∧ (JT q.2) ∧ True) := by
  have hn : (169 : Int) ≤ (n : Int) := by have := iM.2.2.2.2.1; omega
  have kM : Keep n (W_X0_takeWorld l1) M M := Keep.rf
  have u_l1 := h_l1
  unfold isShape at u_l1
  obtain ⟨q_l2, m_l2, t_l2⟩ := TX.nn x_l2 n_l2
  unfold mX0_takeWorld
  refine w_pF (ji := 0) rfl (congrArg Prod.fst (kl_20 iM)) (fun M2 hM2 => ?_)
  replace hM2 : M2 = mS M 20 0 l1 := hM2
  have iM2 : I n M2 := wr_Judge_0 iM rfl (Or.inr h_l1) hM2
  have kM2 : Keep n (W_X0_takeWorld l1) M M2 := kM.st hM2 (Or.inl (Or.inr (Or.inl ⟨rfl, rfl⟩)))
  have pJS_M2 : JS M2 := by unfold JS; rw [st_eq hM2]; exact h_l1
  have x1_ : TX n M2 l2 := (TX.ot x_l2 (otx_st hM2 (by omega)))
  have t5_ : TextN M2 l2 m_l2 := (TextN.ot (n := n) t_l2 (otx_st hM2 (by omega)) (by omega) (by omega))
  refine w_pF (ji := 1) rfl (congrArg Prod.fst (kl_20 iM2)) (fun M7 hM7 => ?_)
  replace hM7 : M7 = mS M2 20 1 l2 := hM7
  have iM7 : I n M7 := wr_Judge_1 iM2 rfl x1_ hM7
  have kM7 : Keep n (W_X0_takeWorld l1) M M7 := kM2.st hM7 (Or.inl (Or.inr (Or.inr (Or.inl ⟨rfl, rfl⟩))))
  have x6_ : TX n M7 l2 := (TX.ot x1_ (otx_st hM7 (by omega)))
  have pJT_M7 : JT M7 := by unfold JT; rw [st_eq hM7]; exact n_l2
  refine w_pF (ji := 5) rfl (congrArg Prod.fst (kl_20 iM7)) (fun M12 hM12 => ?_)
  replace hM12 : M12 = mS M7 20 5 0 := hM12
  have iM12 : I n M12 := wr_Judge_5 iM7 rfl ⟨by omega, by omega⟩ hM12
  have kM12 : Keep n (W_X0_takeWorld l1) M M12 := kM7.st hM12 (Or.inl (Or.inr (Or.inr (Or.inr ⟨rfl, rfl⟩))))
  have ppJS_M12 : JS M12 := (JS_of (JS_of pJS_M2 (st_ne hM7 (fun z => absurd z.2 (by decide)))) (st_ne hM12 (fun z => absurd z.2 (by decide))))
  have ppJT_M12 : JT M12 := (JT_of pJT_M7 (st_ne hM12 (fun z => absurd z.2 (by decide))))
  exact s_X0_takeWorld_18 h_l1 FU _ _ _ ⟨by omega, by omega⟩ ppJS_M12 ppJT_M12 (by show _ < (70000 : Int); omega) iM12 kM12
def W_X0_slot (b j : Int) : Prop := False
theorem s_X0_slot {n : Nat} {l1 : Int} {M : Mem} (iM : I n M) : wp (mX0_slot 20 l1 M) (fun q => I n q.2 ∧ Keep n W_X0_slot M q.2 ∧ ((-2147483648) ≤ q.1 ∧ q.1 ≤ 2147483647) ∧ True) := by
  have hn : (169 : Int) ≤ (n : Int) := by have := iM.2.2.2.2.1; omega
  have kM : Keep n W_X0_slot M M := Keep.rf
  unfold mX0_slot
  refine w_if (fun c1_ => ?_) (fun c1_ => ?_)
  · skip
    exact w_ret ⟨iM, kM, (show (-2147483648) ≤ 0 ∧ 0 ≤ 2147483647 from ⟨by omega, by omega⟩), trivial⟩
  · skip
    refine w_if (fun c2_ => ?_) (fun c2_ => ?_)
    · skip
      exact w_ret ⟨iM, kM, (show (-2147483648) ≤ 0 ∧ 0 ≤ 2147483647 from ⟨by omega, by omega⟩), trivial⟩
    · skip
      refine w_gFc (ji := 3) rfl (congrArg Prod.fst (kl_20 iM)) (show mG M 20 3 = 22 from rd_Judge_3 iM (a := 20) rfl) ?_
      refine w_aG (kl_22 iM) (by omega) (by omega) (fun a14 ha14 => ?_)
      have ra14 : (-2147483648) ≤ a14 ∧ a14 ≤ 2147483647 := ha14.tr (P := fun z => (-2147483648) ≤ z ∧ z ≤ 2147483647) (rd_Jchosen iM rfl)
      exact w_ret ⟨iM, kM, (show (-2147483648) ≤ a14 ∧ a14 ≤ 2147483647 from ⟨by omega, by omega⟩), trivial⟩
def W_X0_findPaths (b j : Int) : Prop := b = 23 ∨ (b = 20 ∧ j = 5)
theorem sb_X0_findPaths_97 {n : Nat} {Me : Mem} {k63 : Int → Int → Int → Int → Mem → Option (Int × Mem)} {fu63 : Nat} (hk63 : ∀ (l2 l3 l4 : Int) (M : Mem), (0 ≤ l2 ∧ l2 ≤ 27) → (0 ≤ l3 ∧ l3 ≤ 3) → (0 ≤ l4 ∧ l4 ≤ 3) → (JS M) → 4 - l4 < (fu63 : Int) → I n M → Keep n W_X0_findPaths Me M → wp (k63 20 l2 l3 l4 M) (fun q => I n q.2 ∧ Keep n W_X0_findPaths Me q.2 ∧ True)) {k72 : Int → Int → Int → Int → Int → Mem → Option (Int × Mem)} {fu72 : Nat} (hk72 : ∀ (l2 l3 l4 l5 : Int) (M : Mem), (0 ≤ l2 ∧ l2 ≤ 27) → (1 ≤ l3 ∧ l3 ≤ 3) → (0 ≤ l4 ∧ l4 ≤ 2) → (0 ≤ l5 ∧ l5 ≤ 3) → (JS M) → 4 - l4 < (fu63 : Int) + 1 → 4 - l5 < (fu72 : Int) → I n M → Keep n W_X0_findPaths Me M → wp (k72 20 l2 l3 l4 l5 M) (fun q => I n q.2 ∧ Keep n W_X0_findPaths Me q.2 ∧ True)) {k97 : Int → Int → Int → Int → Int → Int → Int → Mem → Option (Int × Mem)} {fu97 : Nat} (hk97 : ∀ (l2 l3 l4 l5 l6 l8 : Int) (M : Mem), (0 ≤ l2 ∧ l2 ≤ 27) → (1 ≤ l3 ∧ l3 ≤ 3) → (0 ≤ l4 ∧ l4 ≤ 2) → (0 ≤ l5 ∧ l5 ≤ 2) → (0 ≤ l8 ∧ l8 ≤ 3) → (JS M) → 4 - l4 < (fu63 : Int) + 1 → 4 - l5 < (fu72 : Int) + 1 → 4 - l8 < (fu97 : Int) → I n M → Keep n W_X0_findPaths Me M → wp (k97 20 l2 l3 l4 l5 l6 l8 M) (fun q => I n q.2 ∧ Keep n W_X0_findPaths Me q.2 ∧ True)) {l2 l3 l4 l5 l6 l8 : Int} {M : Mem} (r_l2 : 0 ≤ l2 ∧ l2 ≤ 27) (r_l3 : 1 ≤ l3 ∧ l3 ≤ 3) (r_l4 : 0 ≤ l4 ∧ l4 ≤ 2) (r_l5 : 0 ≤ l5 ∧ l5 ≤ 2) (r_l8 : 0 ≤ l8 ∧ l8 ≤ 3) (p_JS : JS M) (hf63 : 4 - l4 < (fu63 : Int) + 1) (hf72 : 4 - l5 < (fu72 : Int) + 1) (hf97 : 4 - l8 < (fu97 : Int) + 1) (iM : I n M) (kM : Keep n W_X0_findPaths Me M) : wp (bX0_findPaths_97 k63 k72 k97 20 l2 l3 l4 l5 l6 l8 M) (fun q => I n q.2 ∧ Keep n W_X0_findPaths Me q.2 ∧ True) := by
  have hn : (169 : Int) ≤ (n : Int) := by have := iM.2.2.2.2.1; omega
  unfold bX0_findPaths_97
  refine w_if (fun c1_ => ?_) (fun c1_ => ?_)
  · skip
    have w2_ := wI_id (x := (l5 + 1)) (by omega) (by omega)
    exact hk72 _ _ _ _ _ ⟨by omega, by omega⟩ ⟨by omega, by omega⟩ ⟨by omega, by omega⟩ ⟨by omega, by omega⟩ p_JS (by omega) (by omega) iM kM
  · skip
    refine w_gFc (ji := 4) rfl (congrArg Prod.fst (kl_20 iM)) (show mG M 20 4 = 23 from rd_Judge_4 iM (a := 20) rfl) ?_
    have w3_ := mul_b (x := l5) (y := l3) (a := 2) (b := 3) (by omega) (by omega) (by omega) (by omega)
    have w4_ := wI_id (x := (l5 * l3)) (by omega) (by omega)
    have w5_ := wI_id (x := (l2 + (wI (l5 * l3)))) (by omega) (by omega)
    have w6_ := wI_id (x := ((wI (l2 + (wI (l5 * l3)))) + l8)) (by omega) (by omega)
    refine w_aG (kl_23 iM) (by omega) (by omega) (fun a117 ha117 => ?_)
    refine w_gFc (ji := 4) rfl (congrArg Prod.fst (kl_20 iM)) (show mG M 20 4 = 23 from rd_Judge_4 iM (a := 20) rfl) ?_
    have w7_ := mul_b (x := l4) (y := l3) (a := 2) (b := 3) (by omega) (by omega) (by omega) (by omega)
    have w8_ := wI_id (x := (l4 * l3)) (by omega) (by omega)
    have w9_ := wI_id (x := (l2 + (wI (l4 * l3)))) (by omega) (by omega)
    have w10_ := wI_id (x := ((wI (l2 + (wI (l4 * l3)))) + l8)) (by omega) (by omega)
    refine w_aG (kl_23 iM) (by omega) (by omega) (fun a133 ha133 => ?_)
    refine w_aS (kl_23 iM) (by omega) (by omega) (fun M136 hM136 => ?_)
    replace hM136 : M136 = mS M 23 (wI ((wI (l2 + (wI (l5 * l3)))) + l8)) (lor a117 (land l6 a133)) := hM136
    have iM136 : I n M136 := wr_Jpaths iM rfl hM136
    have kM136 : Keep n W_X0_findPaths Me M136 := kM.st hM136 (Or.inl (Or.inl rfl))
    obtain ⟨svM136, esvM136⟩ : ∃ z, z = (lor a117 (land l6 a133)) := ⟨_, rfl⟩
    have w13_ := wI_id (x := (l8 + 1)) (by omega) (by omega)
    have ppJS_M136 : JS M136 := (JS_of p_JS (st_ne hM136 (fun z => ne_fam rfl rfl (by decide) z.1)))
    exact hk97 _ _ _ _ _ _ _ ⟨by omega, by omega⟩ ⟨by omega, by omega⟩ ⟨by omega, by omega⟩ ⟨by omega, by omega⟩ ⟨by omega, by omega⟩ ppJS_M136 (by omega) (by omega) (by omega) iM136 kM136
theorem s_X0_findPaths_97 {n : Nat} {Me : Mem} {k63 : Int → Int → Int → Int → Mem → Option (Int × Mem)} {fu63 : Nat} (hk63 : ∀ (l2 l3 l4 : Int) (M : Mem), (0 ≤ l2 ∧ l2 ≤ 27) → (0 ≤ l3 ∧ l3 ≤ 3) → (0 ≤ l4 ∧ l4 ≤ 3) → (JS M) → 4 - l4 < (fu63 : Int) → I n M → Keep n W_X0_findPaths Me M → wp (k63 20 l2 l3 l4 M) (fun q => I n q.2 ∧ Keep n W_X0_findPaths Me q.2 ∧ True)) {k72 : Int → Int → Int → Int → Int → Mem → Option (Int × Mem)} {fu72 : Nat} (hk72 : ∀ (l2 l3 l4 l5 : Int) (M : Mem), (0 ≤ l2 ∧ l2 ≤ 27) → (1 ≤ l3 ∧ l3 ≤ 3) → (0 ≤ l4 ∧ l4 ≤ 2) → (0 ≤ l5 ∧ l5 ≤ 3) → (JS M) → 4 - l4 < (fu63 : Int) + 1 → 4 - l5 < (fu72 : Int) → I n M → Keep n W_X0_findPaths Me M → wp (k72 20 l2 l3 l4 l5 M) (fun q => I n q.2 ∧ Keep n W_X0_findPaths Me q.2 ∧ True)) : ∀ (fu : Nat) (l2 l3 l4 l5 l6 l8 : Int) (M : Mem), (0 ≤ l2 ∧ l2 ≤ 27) → (1 ≤ l3 ∧ l3 ≤ 3) → (0 ≤ l4 ∧ l4 ≤ 2) → (0 ≤ l5 ∧ l5 ≤ 2) → (0 ≤ l8 ∧ l8 ≤ 3) → (JS M) → 4 - l4 < (fu63 : Int) + 1 → 4 - l5 < (fu72 : Int) + 1 → 4 - l8 < (fu : Int) → I n M → Keep n W_X0_findPaths Me M → wp (mX0_findPaths_97 k63 k72 fu 20 l2 l3 l4 l5 l6 l8 M) (fun q => I n q.2 ∧ Keep n W_X0_findPaths Me q.2 ∧ True) := by
  intro fu
  induction fu with
  | zero =>
    intro l2 l3 l4 l5 l6 l8 M r_l2 r_l3 r_l4 r_l5 r_l8 p_JS hf63 hf72 hf iM kM
    exfalso
    omega
  | succ fu ih =>
    intro l2 l3 l4 l5 l6 l8 M r_l2 r_l3 r_l4 r_l5 r_l8 p_JS hf63 hf72 hf iM kM
    exact sb_X0_findPaths_97 hk63 hk72 ih r_l2 r_l3 r_l4 r_l5 r_l8 p_JS hf63 hf72 (by have e : ((fu + 1 : Nat) : Int) = (fu : Int) + 1 := rfl; rw [e] at hf; exact hf) iM kM
theorem sb_X0_findPaths_72 {n : Nat} {Me : Mem} {k63 : Int → Int → Int → Int → Mem → Option (Int × Mem)} {fu63 : Nat} (hk63 : ∀ (l2 l3 l4 : Int) (M : Mem), (0 ≤ l2 ∧ l2 ≤ 27) → (0 ≤ l3 ∧ l3 ≤ 3) → (0 ≤ l4 ∧ l4 ≤ 3) → (JS M) → 4 - l4 < (fu63 : Int) → I n M → Keep n W_X0_findPaths Me M → wp (k63 20 l2 l3 l4 M) (fun q => I n q.2 ∧ Keep n W_X0_findPaths Me q.2 ∧ True)) {k72 : Int → Int → Int → Int → Int → Mem → Option (Int × Mem)} {fu72 : Nat} (hk72 : ∀ (l2 l3 l4 l5 : Int) (M : Mem), (0 ≤ l2 ∧ l2 ≤ 27) → (1 ≤ l3 ∧ l3 ≤ 3) → (0 ≤ l4 ∧ l4 ≤ 2) → (0 ≤ l5 ∧ l5 ≤ 3) → (JS M) → 4 - l4 < (fu63 : Int) + 1 → 4 - l5 < (fu72 : Int) → I n M → Keep n W_X0_findPaths Me M → wp (k72 20 l2 l3 l4 l5 M) (fun q => I n q.2 ∧ Keep n W_X0_findPaths Me q.2 ∧ True)) {l2 l3 l4 l5 : Int} {M : Mem} (r_l2 : 0 ≤ l2 ∧ l2 ≤ 27) (r_l3 : 1 ≤ l3 ∧ l3 ≤ 3) (r_l4 : 0 ≤ l4 ∧ l4 ≤ 2) (r_l5 : 0 ≤ l5 ∧ l5 ≤ 3) (p_JS : JS M) (hf63 : 4 - l4 < (fu63 : Int) + 1) (hf72 : 4 - l5 < (fu72 : Int) + 1) (iM : I n M) (kM : Keep n W_X0_findPaths Me M) : wp (bX0_findPaths_72 k63 k72 20 l2 l3 l4 l5 M) (fun q => I n q.2 ∧ Keep n W_X0_findPaths Me q.2 ∧ True) := by
  have hn : (169 : Int) ≤ (n : Int) := by have := iM.2.2.2.2.1; omega
  unfold bX0_findPaths_72
  refine w_if (fun c1_ => ?_) (fun c1_ => ?_)
  · skip
    have w2_ := wI_id (x := (l4 + 1)) (by omega) (by omega)
    exact hk63 _ _ _ _ ⟨by omega, by omega⟩ ⟨by omega, by omega⟩ ⟨by omega, by omega⟩ p_JS (by omega) iM kM
  · skip
    refine w_gFc (ji := 4) rfl (congrArg Prod.fst (kl_20 iM)) (show mG M 20 4 = 23 from rd_Judge_4 iM (a := 20) rfl) ?_
    have w3_ := mul_b (x := l5) (y := l3) (a := 2) (b := 3) (by omega) (by omega) (by omega) (by omega)
    have w4_ := wI_id (x := (l5 * l3)) (by omega) (by omega)
    have w5_ := wI_id (x := (l2 + (wI (l5 * l3)))) (by omega) (by omega)
    have w6_ := wI_id (x := ((wI (l2 + (wI (l5 * l3)))) + l4)) (by omega) (by omega)
    refine w_aG (kl_23 iM) (by omega) (by omega) (fun a91 ha91 => ?_)
    exact s_X0_findPaths_97 hk63 hk72 FU _ _ _ _ _ _ _ ⟨by omega, by omega⟩ ⟨by omega, by omega⟩ ⟨by omega, by omega⟩ ⟨by omega, by omega⟩ ⟨by omega, by omega⟩ p_JS (by omega) (by omega) (by show _ < (70000 : Int); omega) iM kM
theorem s_X0_findPaths_72 {n : Nat} {Me : Mem} {k63 : Int → Int → Int → Int → Mem → Option (Int × Mem)} {fu63 : Nat} (hk63 : ∀ (l2 l3 l4 : Int) (M : Mem), (0 ≤ l2 ∧ l2 ≤ 27) → (0 ≤ l3 ∧ l3 ≤ 3) → (0 ≤ l4 ∧ l4 ≤ 3) → (JS M) → 4 - l4 < (fu63 : Int) → I n M → Keep n W_X0_findPaths Me M → wp (k63 20 l2 l3 l4 M) (fun q => I n q.2 ∧ Keep n W_X0_findPaths Me q.2 ∧ True)) : ∀ (fu : Nat) (l2 l3 l4 l5 : Int) (M : Mem), (0 ≤ l2 ∧ l2 ≤ 27) → (1 ≤ l3 ∧ l3 ≤ 3) → (0 ≤ l4 ∧ l4 ≤ 2) → (0 ≤ l5 ∧ l5 ≤ 3) → (JS M) → 4 - l4 < (fu63 : Int) + 1 → 4 - l5 < (fu : Int) → I n M → Keep n W_X0_findPaths Me M → wp (mX0_findPaths_72 k63 fu 20 l2 l3 l4 l5 M) (fun q => I n q.2 ∧ Keep n W_X0_findPaths Me q.2 ∧ True) := by
  intro fu
  induction fu with
  | zero =>
    intro l2 l3 l4 l5 M r_l2 r_l3 r_l4 r_l5 p_JS hf63 hf iM kM
    exfalso
    omega
  | succ fu ih =>
    intro l2 l3 l4 l5 M r_l2 r_l3 r_l4 r_l5 p_JS hf63 hf iM kM
    exact sb_X0_findPaths_72 hk63 ih r_l2 r_l3 r_l4 r_l5 p_JS hf63 (by have e : ((fu + 1 : Nat) : Int) = (fu : Int) + 1 := rfl; rw [e] at hf; exact hf) iM kM
theorem sb_X0_findPaths_63 {n : Nat} {Me : Mem} {k63 : Int → Int → Int → Int → Mem → Option (Int × Mem)} {fu63 : Nat} (hk63 : ∀ (l2 l3 l4 : Int) (M : Mem), (0 ≤ l2 ∧ l2 ≤ 27) → (0 ≤ l3 ∧ l3 ≤ 3) → (0 ≤ l4 ∧ l4 ≤ 3) → (JS M) → 4 - l4 < (fu63 : Int) → I n M → Keep n W_X0_findPaths Me M → wp (k63 20 l2 l3 l4 M) (fun q => I n q.2 ∧ Keep n W_X0_findPaths Me q.2 ∧ True)) {l2 l3 l4 : Int} {M : Mem} (r_l2 : 0 ≤ l2 ∧ l2 ≤ 27) (r_l3 : 0 ≤ l3 ∧ l3 ≤ 3) (r_l4 : 0 ≤ l4 ∧ l4 ≤ 3) (p_JS : JS M) (hf63 : 4 - l4 < (fu63 : Int) + 1) (iM : I n M) (kM : Keep n W_X0_findPaths Me M) : wp (bX0_findPaths_63 k63 20 l2 l3 l4 M) (fun q => I n q.2 ∧ Keep n W_X0_findPaths Me q.2 ∧ True) := by
  have hn : (169 : Int) ≤ (n : Int) := by have := iM.2.2.2.2.1; omega
  unfold bX0_findPaths_63
  refine w_if (fun c1_ => ?_) (fun c1_ => ?_)
  · skip
    exact w_ret ⟨iM, kM, trivial⟩
  · skip
    exact s_X0_findPaths_72 hk63 FU _ _ _ _ _ ⟨by omega, by omega⟩ ⟨by omega, by omega⟩ ⟨by omega, by omega⟩ ⟨by omega, by omega⟩ p_JS (by omega) (by show _ < (70000 : Int); omega) iM kM
theorem s_X0_findPaths_63 {n : Nat} {Me : Mem} : ∀ (fu : Nat) (l2 l3 l4 : Int) (M : Mem), (0 ≤ l2 ∧ l2 ≤ 27) → (0 ≤ l3 ∧ l3 ≤ 3) → (0 ≤ l4 ∧ l4 ≤ 3) → (JS M) → 4 - l4 < (fu : Int) → I n M → Keep n W_X0_findPaths Me M → wp (mX0_findPaths_63 fu 20 l2 l3 l4 M) (fun q => I n q.2 ∧ Keep n W_X0_findPaths Me q.2 ∧ True) := by
  intro fu
  induction fu with
  | zero =>
    intro l2 l3 l4 M r_l2 r_l3 r_l4 p_JS hf iM kM
    exfalso
    omega
  | succ fu ih =>
    intro l2 l3 l4 M r_l2 r_l3 r_l4 p_JS hf iM kM
    exact sb_X0_findPaths_63 ih r_l2 r_l3 r_l4 p_JS (by have e : ((fu + 1 : Nat) : Int) = (fu : Int) + 1 := rfl; rw [e] at hf; exact hf) iM kM
theorem s_X0_findPaths {n : Nat} {l1 : Int} {M : Mem} (r_l1 : 0 ≤ l1 ∧ l1 ≤ 3) (p_JS : JS M) (iM : I n M) : wp (mX0_findPaths 20 l1 M) (fun q => I n q.2 ∧ Keep n W_X0_findPaths M q.2 ∧ True) := by
  have hn : (169 : Int) ≤ (n : Int) := by have := iM.2.2.2.2.1; omega
  have kM : Keep n W_X0_findPaths M M := Keep.rf
  unfold mX0_findPaths
  refine w_gF (ji := 5) rfl (congrArg Prod.fst (kl_20 iM)) (fun a1 ha1 => ?_)
  have ra1 : (-2147483648) ≤ a1 ∧ a1 ≤ 2147483647 := ha1.tr (P := fun z => (-2147483648) ≤ z ∧ z ≤ 2147483647) (rd_Judge_5 iM rfl)
  have w1_ := ishr_in a1 l1
  have w2_ := iand_r (x := (ishr a1 l1)) (y := 1) (by omega) (by omega)
  refine w_if (fun c3_ => ?_) (fun c3_ => ?_)
  · skip
    refine w_gFc (ji := 5) rfl (congrArg Prod.fst (kl_20 iM)) (show mG M 20 5 = a1 from (show mG M 20 5 = a1 from ha1)) ?_
    have w4_ := ishl1_b (k := l1) (B := 3) (by omega) (by omega) (by decide)
    have w5_ := ior_in a1 (ishl 1 l1)
    refine w_pF (ji := 5) rfl (congrArg Prod.fst (kl_20 iM)) (fun M21 hM21 => ?_)
    replace hM21 : M21 = mS M 20 5 (ior a1 (ishl 1 l1)) := hM21
    have iM21 : I n M21 := wr_Judge_5 iM rfl ⟨by omega, by omega⟩ hM21
    have kM21 : Keep n W_X0_findPaths M M21 := kM.st hM21 (Or.inl (Or.inr ⟨rfl, rfl⟩))
    obtain ⟨svM21, esvM21⟩ : ∃ z, z = (ior a1 (ishl 1 l1)) := ⟨_, rfl⟩
    refine w_gF (ji := 0) rfl (congrArg Prod.fst (kl_20 iM21)) (fun a25 ha25 => ?_)
    have ppJS_M21 : JS M21 := (JS_of p_JS (st_ne hM21 (fun z => absurd z.2 (by decide))))
    have h_a25 : isShape a25 := by rw [← ha25.e]; exact ppJS_M21
    have u_a25 := h_a25
    unfold isShape at u_a25
    refine w_gFc (ji := 3) rfl (congrArg Prod.fst (k_Shape iM21 h_a25)) (show mG M21 a25 3 = (a25 + 4) from rd_Shape_3 iM21 (a := a25) (f_Shape h_a25)) ?_
    refine w_aG (k_Sstart iM21 h_a25) (by omega) (by omega) (fun a32 ha32 => ?_)
    have ra32 : 0 ≤ a32 ∧ a32 ≤ 9 * l1 := ha32.tr (P := fun z => 0 ≤ z ∧ z ≤ 9 * l1) (rd_Sstart iM21 (f_Sstart h_a25) (by omega) (by omega))
    refine w_gFc (ji := 0) rfl (congrArg Prod.fst (kl_20 iM21)) (show mG M21 20 0 = a25 from (show mG M21 20 0 = a25 from ha25)) ?_
    refine w_gFc (ji := 5) rfl (congrArg Prod.fst (k_Shape iM21 h_a25)) (show mG M21 a25 5 = (a25 + 6) from rd_Shape_5 iM21 (a := a25) (f_Shape h_a25)) ?_
    refine w_aG (k_Swidth iM21 h_a25) (by omega) (by omega) (fun a42 ha42 => ?_)
    have ra42 : 0 ≤ a42 ∧ a42 ≤ 3 := ha42.tr (P := fun z => 0 ≤ z ∧ z ≤ 3) (rd_Swidth iM21 (f_Swidth h_a25))
    refine w_gFc (ji := 2) rfl (congrArg Prod.fst (kl_20 iM21)) (show mG M21 20 2 = 21 from rd_Judge_2 iM21 (a := 20) rfl) ?_
    refine w_gFc (ji := 4) rfl (congrArg Prod.fst (kl_20 iM21)) (show mG M21 20 4 = 23 from rd_Judge_4 iM21 (a := 20) rfl) ?_
    have w6_ := mul_b (x := a42) (y := a42) (a := 3) (b := 3) (by omega) (by omega) (by omega) (by omega)
    have w7_ := wI_id (x := (a42 * a42)) (by omega) (by omega)
    refine w_aC (kl_21 iM21) (kl_23 iM21) ⟨by omega, by omega, by omega, by omega, by omega⟩ (fun M57 hM57 => ?_)
    replace hM57 : M57 = mC M21 21 a32 23 a32 (wI (a42 * a42)) := hM57
    have iM57 : I n M57 := iM21.cp hM57 rfl (fun j j0 j1 => trivial) (by decide)
    have kM57 : Keep n W_X0_findPaths M M57 := kM21.cp hM57 (fun j => (Or.inl rfl))
    have ppJS_M57 : JS M57 := (JS_of ppJS_M21 (cp_ne hM57 (fun z => ne_fam rfl rfl (by decide) z)))
    exact s_X0_findPaths_63 FU _ _ _ _ ⟨by omega, by omega⟩ ⟨by omega, by omega⟩ ⟨by omega, by omega⟩ ppJS_M57 (by show _ < (70000 : Int); omega) iM57 kM57
  · skip
    exact w_ret ⟨iM, kM, trivial⟩
def W_X0_reached (b j : Int) : Prop := b = 23 ∨ (b = 20 ∧ j = 5)
theorem s_X0_reached {n : Nat} {l1 l2 l3 : Int} {M : Mem} (r_l2 : (-2147483648) ≤ l2 ∧ l2 ≤ 2147483647) (r_l3 : (-2147483648) ≤ l3 ∧ l3 ≤ 2147483647) (p_JS : JS M) (iM : I n M) : wp (mX0_reached 20 l1 l2 l3 M) (fun q => I n q.2 ∧ Keep n W_X0_reached M q.2 ∧ True) := by
  have hn : (169 : Int) ≤ (n : Int) := by have := iM.2.2.2.2.1; omega
  have kM : Keep n W_X0_reached M M := Keep.rf
  unfold mX0_reached
  refine w_gF (ji := 0) rfl (congrArg Prod.fst (kl_20 iM)) (fun a1 ha1 => ?_)
  have h_a1 : isShape a1 := by rw [← ha1.e]; exact p_JS
  have u_a1 := h_a1
  unfold isShape at u_a1
  refine w_gK (congrArg Prod.fst (k_Shape iM h_a1)) ?_
  refine w_call (s_X3_isOfOneKindTwice h_a1 iM) ?_
  intro v5 m5 pp5
  obtain ⟨im5, kk5, e5_0, e5_1, -⟩ := pp5
  try dsimp only
  replace im5 : I n m5 := im5
  replace kk5 : Keep n (W_X3_isOfOneKindTwice a1) M m5 := kk5
  have km5 : Keep n W_X0_reached M m5 := kM.tr kk5 (fun b j z => z.elim)
  replace e5_0 : 0 ≤ v5 ∧ v5 ≤ 1 := e5_0
  replace e5_1 : v5 = 1 → 0 ≤ l1 ∧ l1 ≤ 3 := e5_1
  refine w_if (fun c1_ => ?_) (fun c1_ => ?_)
  · skip
    exact w_ret ⟨im5, km5, trivial⟩
  · skip
    refine w_gK (congrArg Prod.fst (kl_20 im5)) ?_
    have ppJS_m5 : JS m5 := (JS_of p_JS (kk5.2.2 20 0 (by omega) (fun z => z)))
    refine w_call (s_X0_findPaths ⟨by omega, by omega⟩ ppJS_m5 im5) ?_
    intro v15 m15 pp15
    obtain ⟨im15, kk15, -⟩ := pp15
    try dsimp only
    replace im15 : I n m15 := im15
    replace kk15 : Keep n W_X0_findPaths m5 m15 := kk15
    have km15 : Keep n W_X0_reached M m15 := km5.tr kk15 (fun b j z => Or.elim z (fun z => (Or.inl z)) (fun z => (Or.inr z)))
    refine w_gFc (ji := 0) rfl (congrArg Prod.fst (kl_20 im15)) (show mG m15 20 0 = a1 from ((kk15.2.2 20 0 (by omega) (fun z => by unfold W_X0_findPaths at z; (try unfold isWS at z); (try unfold isShape at z); (try unfold isTold at z); (try dsimp only at z); omega)).trans ((kk5.2.2 20 0 (by omega) (fun z => z)).trans (show mG M 20 0 = a1 from ha1)))) ?_
    refine w_gK (congrArg Prod.fst (k_Shape im15 h_a1)) ?_
    refine w_call (s_X3_place h_a1 ⟨by omega, by omega⟩ ⟨by omega, by omega⟩ im15) ?_
    intro v25 m25 pp25
    obtain ⟨im25, kk25, e25_0, -⟩ := pp25
    try dsimp only
    replace im25 : I n m25 := im25
    replace kk25 : Keep n (W_X3_place a1) m15 m25 := kk25
    have km25 : Keep n W_X0_reached M m25 := km15.tr kk25 (fun b j z => z.elim)
    replace e25_0 : (-1) ≤ v25 ∧ v25 ≤ 35 := e25_0
    refine w_if (fun c2_ => ?_) (fun c2_ => ?_)
    · skip
      exact w_ret ⟨im25, km25, trivial⟩
    · skip
      refine w_if (fun c3_ => ?_) (fun c3_ => ?_)
      · exfalso; omega
      · skip
        refine w_gFc (ji := 4) rfl (congrArg Prod.fst (kl_20 im25)) (show mG m25 20 4 = 23 from rd_Judge_4 im25 (a := 20) rfl) ?_
        refine w_aG (kl_23 im25) (by omega) (by omega) (fun a48 ha48 => ?_)
        exact w_ret ⟨im25, km25, trivial⟩
def W_X0_treeLike (b j : Int) : Prop := b = 23 ∨ (b = 20 ∧ j = 5)
theorem sb_X0_treeLike_56 {n : Nat} {Me : Mem} {k44 : Int → Int → Int → Int → Int → Mem → Option (Int × Mem)} {fu44 : Nat} (hk44 : ∀ (l2 l3 l4 l6 : Int) (M : Mem), (0 ≤ l2 ∧ l2 ≤ 27) → (0 ≤ l3 ∧ l3 ≤ 3) → (0 ≤ l6 ∧ l6 ≤ 3) → (JS M) → 4 - l6 < (fu44 : Int) → I n M → Keep n W_X0_treeLike Me M → wp (k44 20 l2 l3 l4 l6 M) (fun q => I n q.2 ∧ Keep n W_X0_treeLike Me q.2 ∧ True)) {k56 : Int → Int → Int → Int → Int → Int → Int → Mem → Option (Int × Mem)} {fu56 : Nat} (hk56 : ∀ (l2 l3 l4 l6 l7 l9 : Int) (M : Mem), (0 ≤ l2 ∧ l2 ≤ 27) → (1 ≤ l3 ∧ l3 ≤ 3) → (0 ≤ l6 ∧ l6 ≤ 2) → (0 ≤ l9 ∧ l9 ≤ 3) → (JS M) → 4 - l6 < (fu44 : Int) + 1 → 4 - l9 < (fu56 : Int) → I n M → Keep n W_X0_treeLike Me M → wp (k56 20 l2 l3 l4 l6 l7 l9 M) (fun q => I n q.2 ∧ Keep n W_X0_treeLike Me q.2 ∧ True)) {l2 l3 l4 l6 l7 l9 : Int} {M : Mem} (r_l2 : 0 ≤ l2 ∧ l2 ≤ 27) (r_l3 : 1 ≤ l3 ∧ l3 ≤ 3) (r_l6 : 0 ≤ l6 ∧ l6 ≤ 2) (r_l9 : 0 ≤ l9 ∧ l9 ≤ 3) (p_JS : JS M) (hf44 : 4 - l6 < (fu44 : Int) + 1) (hf56 : 4 - l9 < (fu56 : Int) + 1) (iM : I n M) (kM : Keep n W_X0_treeLike Me M) : wp (bX0_treeLike_56 k44 k56 20 l2 l3 l4 l6 l7 l9 M) (fun q => I n q.2 ∧ Keep n W_X0_treeLike Me q.2 ∧ True) := by
  have hn : (169 : Int) ≤ (n : Int) := by have := iM.2.2.2.2.1; omega
  unfold bX0_treeLike_56
  refine w_if (fun c1_ => ?_) (fun c1_ => ?_)
  · skip
    refine w_gFc (ji := 4) rfl (congrArg Prod.fst (kl_20 iM)) (show mG M 20 4 = 23 from rd_Judge_4 iM (a := 20) rfl) ?_
    have w2_ := mul_b (x := l6) (y := l3) (a := 2) (b := 3) (by omega) (by omega) (by omega) (by omega)
    have w3_ := wI_id (x := (l6 * l3)) (by omega) (by omega)
    have w4_ := wI_id (x := (l2 + (wI (l6 * l3)))) (by omega) (by omega)
    have w5_ := wI_id (x := ((wI (l2 + (wI (l6 * l3)))) + l6)) (by omega) (by omega)
    refine w_aG (kl_23 iM) (by omega) (by omega) (fun a116 ha116 => ?_)
    have w7_ := wI_id (x := (l6 + 1)) (by omega) (by omega)
    exact hk44 _ _ _ _ _ ⟨by omega, by omega⟩ ⟨by omega, by omega⟩ ⟨by omega, by omega⟩ p_JS (by omega) iM kM
  · skip
    refine w_gFc (ji := 2) rfl (congrArg Prod.fst (kl_20 iM)) (show mG M 20 2 = 21 from rd_Judge_2 iM (a := 20) rfl) ?_
    have w8_ := mul_b (x := l6) (y := l3) (a := 2) (b := 3) (by omega) (by omega) (by omega) (by omega)
    have w9_ := wI_id (x := (l6 * l3)) (by omega) (by omega)
    have w10_ := wI_id (x := (l2 + (wI (l6 * l3)))) (by omega) (by omega)
    have w11_ := wI_id (x := ((wI (l2 + (wI (l6 * l3)))) + l9)) (by omega) (by omega)
    refine w_aG (kl_21 iM) (by omega) (by omega) (fun a75 ha75 => ?_)
    have w15_ := wI_id (x := (l9 + 1)) (by omega) (by omega)
    exact hk56 _ _ _ _ _ _ _ ⟨by omega, by omega⟩ ⟨by omega, by omega⟩ ⟨by omega, by omega⟩ ⟨by omega, by omega⟩ p_JS (by omega) (by omega) iM kM
theorem s_X0_treeLike_56 {n : Nat} {Me : Mem} {k44 : Int → Int → Int → Int → Int → Mem → Option (Int × Mem)} {fu44 : Nat} (hk44 : ∀ (l2 l3 l4 l6 : Int) (M : Mem), (0 ≤ l2 ∧ l2 ≤ 27) → (0 ≤ l3 ∧ l3 ≤ 3) → (0 ≤ l6 ∧ l6 ≤ 3) → (JS M) → 4 - l6 < (fu44 : Int) → I n M → Keep n W_X0_treeLike Me M → wp (k44 20 l2 l3 l4 l6 M) (fun q => I n q.2 ∧ Keep n W_X0_treeLike Me q.2 ∧ True)) : ∀ (fu : Nat) (l2 l3 l4 l6 l7 l9 : Int) (M : Mem), (0 ≤ l2 ∧ l2 ≤ 27) → (1 ≤ l3 ∧ l3 ≤ 3) → (0 ≤ l6 ∧ l6 ≤ 2) → (0 ≤ l9 ∧ l9 ≤ 3) → (JS M) → 4 - l6 < (fu44 : Int) + 1 → 4 - l9 < (fu : Int) → I n M → Keep n W_X0_treeLike Me M → wp (mX0_treeLike_56 k44 fu 20 l2 l3 l4 l6 l7 l9 M) (fun q => I n q.2 ∧ Keep n W_X0_treeLike Me q.2 ∧ True) := by
  intro fu
  induction fu with
  | zero =>
    intro l2 l3 l4 l6 l7 l9 M r_l2 r_l3 r_l6 r_l9 p_JS hf44 hf iM kM
    exfalso
    omega
  | succ fu ih =>
    intro l2 l3 l4 l6 l7 l9 M r_l2 r_l3 r_l6 r_l9 p_JS hf44 hf iM kM
    exact sb_X0_treeLike_56 hk44 ih r_l2 r_l3 r_l6 r_l9 p_JS hf44 (by have e : ((fu + 1 : Nat) : Int) = (fu : Int) + 1 := rfl; rw [e] at hf; exact hf) iM kM
theorem sb_X0_treeLike_44 {n : Nat} {Me : Mem} {k44 : Int → Int → Int → Int → Int → Mem → Option (Int × Mem)} {fu44 : Nat} (hk44 : ∀ (l2 l3 l4 l6 : Int) (M : Mem), (0 ≤ l2 ∧ l2 ≤ 27) → (0 ≤ l3 ∧ l3 ≤ 3) → (0 ≤ l6 ∧ l6 ≤ 3) → (JS M) → 4 - l6 < (fu44 : Int) → I n M → Keep n W_X0_treeLike Me M → wp (k44 20 l2 l3 l4 l6 M) (fun q => I n q.2 ∧ Keep n W_X0_treeLike Me q.2 ∧ True)) {l2 l3 l4 l6 : Int} {M : Mem} (r_l2 : 0 ≤ l2 ∧ l2 ≤ 27) (r_l3 : 0 ≤ l3 ∧ l3 ≤ 3) (r_l6 : 0 ≤ l6 ∧ l6 ≤ 3) (p_JS : JS M) (hf44 : 4 - l6 < (fu44 : Int) + 1) (iM : I n M) (kM : Keep n W_X0_treeLike Me M) : wp (bX0_treeLike_44 k44 20 l2 l3 l4 l6 M) (fun q => I n q.2 ∧ Keep n W_X0_treeLike Me q.2 ∧ True) := by
  have hn : (169 : Int) ≤ (n : Int) := by have := iM.2.2.2.2.1; omega
  unfold bX0_treeLike_44
  refine w_if (fun c1_ => ?_) (fun c1_ => ?_)
  · skip
    exact w_ret ⟨iM, kM, trivial⟩
  · skip
    exact s_X0_treeLike_56 hk44 FU _ _ _ _ _ _ _ ⟨by omega, by omega⟩ ⟨by omega, by omega⟩ ⟨by omega, by omega⟩ ⟨by omega, by omega⟩ p_JS (by omega) (by show _ < (70000 : Int); omega) iM kM
theorem s_X0_treeLike_44 {n : Nat} {Me : Mem} : ∀ (fu : Nat) (l2 l3 l4 l6 : Int) (M : Mem), (0 ≤ l2 ∧ l2 ≤ 27) → (0 ≤ l3 ∧ l3 ≤ 3) → (0 ≤ l6 ∧ l6 ≤ 3) → (JS M) → 4 - l6 < (fu : Int) → I n M → Keep n W_X0_treeLike Me M → wp (mX0_treeLike_44 fu 20 l2 l3 l4 l6 M) (fun q => I n q.2 ∧ Keep n W_X0_treeLike Me q.2 ∧ True) := by
  intro fu
  induction fu with
  | zero =>
    intro l2 l3 l4 l6 M r_l2 r_l3 r_l6 p_JS hf iM kM
    exfalso
    omega
  | succ fu ih =>
    intro l2 l3 l4 l6 M r_l2 r_l3 r_l6 p_JS hf iM kM
    exact sb_X0_treeLike_44 ih r_l2 r_l3 r_l6 p_JS (by have e : ((fu + 1 : Nat) : Int) = (fu : Int) + 1 := rfl; rw [e] at hf; exact hf) iM kM
theorem s_X0_treeLike {n : Nat} {l1 : Int} {M : Mem} (p_JS : JS M) (iM : I n M) : wp (mX0_treeLike 20 l1 M) (fun q => I n q.2 ∧ Keep n W_X0_treeLike M q.2 ∧ True) := by
  have hn : (169 : Int) ≤ (n : Int) := by have := iM.2.2.2.2.1; omega
  have kM : Keep n W_X0_treeLike M M := Keep.rf
  unfold mX0_treeLike
  refine w_gF (ji := 0) rfl (congrArg Prod.fst (kl_20 iM)) (fun a1 ha1 => ?_)
  have h_a1 : isShape a1 := by rw [← ha1.e]; exact p_JS
  have u_a1 := h_a1
  unfold isShape at u_a1
  refine w_gK (congrArg Prod.fst (k_Shape iM h_a1)) ?_
  refine w_call (s_X3_isOfOneKindTwice h_a1 iM) ?_
  intro v5 m5 pp5
  obtain ⟨im5, kk5, e5_0, e5_1, -⟩ := pp5
  try dsimp only
  replace im5 : I n m5 := im5
  replace kk5 : Keep n (W_X3_isOfOneKindTwice a1) M m5 := kk5
  have km5 : Keep n W_X0_treeLike M m5 := kM.tr kk5 (fun b j z => z.elim)
  replace e5_0 : 0 ≤ v5 ∧ v5 ≤ 1 := e5_0
  replace e5_1 : v5 = 1 → 0 ≤ l1 ∧ l1 ≤ 3 := e5_1
  refine w_if (fun c1_ => ?_) (fun c1_ => ?_)
  · skip
    exact w_ret ⟨im5, km5, trivial⟩
  · skip
    refine w_gK (congrArg Prod.fst (kl_20 im5)) ?_
    have ppJS_m5 : JS m5 := (JS_of p_JS (kk5.2.2 20 0 (by omega) (fun z => z)))
    refine w_call (s_X0_findPaths ⟨by omega, by omega⟩ ppJS_m5 im5) ?_
    intro v15 m15 pp15
    obtain ⟨im15, kk15, -⟩ := pp15
    try dsimp only
    replace im15 : I n m15 := im15
    replace kk15 : Keep n W_X0_findPaths m5 m15 := kk15
    have km15 : Keep n W_X0_treeLike M m15 := km5.tr kk15 (fun b j z => Or.elim z (fun z => (Or.inl z)) (fun z => (Or.inr z)))
    refine w_gFc (ji := 0) rfl (congrArg Prod.fst (kl_20 im15)) (show mG m15 20 0 = a1 from ((kk15.2.2 20 0 (by omega) (fun z => by unfold W_X0_findPaths at z; (try unfold isWS at z); (try unfold isShape at z); (try unfold isTold at z); (try dsimp only at z); omega)).trans ((kk5.2.2 20 0 (by omega) (fun z => z)).trans (show mG M 20 0 = a1 from ha1)))) ?_
    refine w_gFc (ji := 3) rfl (congrArg Prod.fst (k_Shape im15 h_a1)) (show mG m15 a1 3 = (a1 + 4) from rd_Shape_3 im15 (a := a1) (f_Shape h_a1)) ?_
    refine w_aG (k_Sstart im15 h_a1) (by omega) (by omega) (fun a26 ha26 => ?_)
    have ra26 : 0 ≤ a26 ∧ a26 ≤ 9 * l1 := ha26.tr (P := fun z => 0 ≤ z ∧ z ≤ 9 * l1) (rd_Sstart im15 (f_Sstart h_a1) (by omega) (by omega))
    refine w_gFc (ji := 0) rfl (congrArg Prod.fst (kl_20 im15)) (show mG m15 20 0 = a1 from ((kk15.2.2 20 0 (by omega) (fun z => by unfold W_X0_findPaths at z; (try unfold isWS at z); (try unfold isShape at z); (try unfold isTold at z); (try dsimp only at z); omega)).trans ((kk5.2.2 20 0 (by omega) (fun z => z)).trans (show mG M 20 0 = a1 from ha1)))) ?_
    refine w_gFc (ji := 5) rfl (congrArg Prod.fst (k_Shape im15 h_a1)) (show mG m15 a1 5 = (a1 + 6) from rd_Shape_5 im15 (a := a1) (f_Shape h_a1)) ?_
    refine w_aG (k_Swidth im15 h_a1) (by omega) (by omega) (fun a36 ha36 => ?_)
    have ra36 : 0 ≤ a36 ∧ a36 ≤ 3 := ha36.tr (P := fun z => 0 ≤ z ∧ z ≤ 3) (rd_Swidth im15 (f_Swidth h_a1))
    have ppJS_m15 : JS m15 := (JS_of ppJS_m5 (kk15.2.2 20 0 (by omega) (fun z => by unfold W_X0_findPaths at z; (try unfold isWS at z); (try unfold isShape at z); (try unfold isTold at z); (try dsimp only at z); omega)))
    exact s_X0_treeLike_44 FU _ _ _ _ _ ⟨by omega, by omega⟩ ⟨by omega, by omega⟩ ⟨by omega, by omega⟩ ppJS_m15 (by show _ < (70000 : Int); omega) im15 km15
def W_X0_factAt (b j : Int) : Prop := False
theorem s_X0_factAt {n : Nat} {l1 l2 l3 : Int} {M : Mem} (r_l2 : (-2147483648) ≤ l2 ∧ l2 ≤ 2147483647) (r_l3 : (-2147483648) ≤ l3 ∧ l3 ≤ 2147483647) (p_JS : JS M) (iM : I n M) : wp (mX0_factAt 20 l1 l2 l3 M) (fun q => I n q.2 ∧ Keep n W_X0_factAt M q.2 ∧ True) := by
  have hn : (169 : Int) ≤ (n : Int) := by have := iM.2.2.2.2.1; omega
  have kM : Keep n W_X0_factAt M M := Keep.rf
  unfold mX0_factAt
  refine w_gF (ji := 0) rfl (congrArg Prod.fst (kl_20 iM)) (fun a1 ha1 => ?_)
  have h_a1 : isShape a1 := by rw [← ha1.e]; exact p_JS
  have u_a1 := h_a1
  unfold isShape at u_a1
  refine w_gK (congrArg Prod.fst (k_Shape iM h_a1)) ?_
  refine w_call (s_X3_place h_a1 ⟨by omega, by omega⟩ ⟨by omega, by omega⟩ iM) ?_
  intro v7 m7 pp7
  obtain ⟨im7, kk7, e7_0, -⟩ := pp7
  try dsimp only
  replace im7 : I n m7 := im7
  replace kk7 : Keep n (W_X3_place a1) M m7 := kk7
  have km7 : Keep n W_X0_factAt M m7 := kM.tr kk7 (fun b j z => z.elim)
  replace e7_0 : (-1) ≤ v7 ∧ v7 ≤ 35 := e7_0
  refine w_if (fun c1_ => ?_) (fun c1_ => ?_)
  · skip
    exact w_ret ⟨im7, km7, trivial⟩
  · skip
    refine w_if (fun c2_ => ?_) (fun c2_ => ?_)
    · exfalso; omega
    · skip
      refine w_gFc (ji := 2) rfl (congrArg Prod.fst (kl_20 im7)) (show mG m7 20 2 = 21 from rd_Judge_2 im7 (a := 20) rfl) ?_
      refine w_aG (kl_21 im7) (by omega) (by omega) (fun a30 ha30 => ?_)
      exact w_ret ⟨im7, km7, trivial⟩
def W_X0_judged (b j : Int) : Prop := (22 ≤ b ∧ b ≤ 23) ∨ (b = 20 ∧ j = 5)
def W_X0_counted (b j : Int) : Prop := (22 ≤ b ∧ b ≤ 23) ∨ (b = 20 ∧ j = 5)
def W_X0_joined (b j : Int) : Prop := (22 ≤ b ∧ b ≤ 23) ∨ (b = 20 ∧ j = 5)
theorem s_X0_judged {n : Nat} {dd : Int} {f_judged : Int → Int → Int → Mem → Option (Int × Mem)} {f_counted : Int → Int → Int → Mem → Option (Int × Mem)} (hf_counted : ∀ (l1 l2 : Int) (M : Mem), (0 ≤ l1 ∧ l1 ≤ 39) → (0 ≤ l2 ∧ l2 ≤ 40) → (41 - l2 < dd + 1) → (LPt n M (l1)) → (JS M) → (JT M) → I n M → wp (f_counted 20 l1 l2 M) (fun q => I n q.2 ∧ Keep n W_X0_counted M q.2 ∧ True)) {f_joined : Int → Int → Int → Mem → Option (Int × Mem)} (hf_joined : ∀ (l1 l2 : Int) (M : Mem), (0 ≤ l1 ∧ l1 ≤ 39) → (0 ≤ l2 ∧ l2 ≤ 40) → (41 - l2 < dd + 1) → (LPt n M (l1)) → (JS M) → (JT M) → I n M → wp (f_joined 20 l1 l2 M) (fun q => I n q.2 ∧ Keep n W_X0_joined M q.2 ∧ True)) {l1 l2 : Int} {M : Mem} (r_l1 : 0 ≤ l1 ∧ l1 ≤ 40) (r_l2 : 0 ≤ l2 ∧ l2 ≤ 41) (z0 : 41 - l2 < dd + 1) (p_JS : JS M) (p_JT : JT M) (iM : I n M) : wp (mX0_judged f_judged f_counted f_joined 20 l1 l2 M) (fun q => I n q.2 ∧ Keep n W_X0_judged M q.2 ∧ True) := by
  have hn : (169 : Int) ≤ (n : Int) := by have := iM.2.2.2.2.1; omega
  have kM : Keep n W_X0_judged M M := Keep.rf
  unfold mX0_judged
  refine w_gF (ji := 1) rfl (congrArg Prod.fst (kl_20 iM)) (fun a2 ha2 => ?_)
  have xa2 : TX n M a2 := by rw [← ha2.e]; exact iM.2.2.1.2.2
  have na2 : ¬ a2 = 0 := by rw [← ha2.e]; exact p_JT
  obtain ⟨q1_, m2_, t3_⟩ := TX.nn xa2 na2
  refine w_gF (ji := 5) rfl (congrArg Prod.fst (tn_k t3_)) (fun a5 ha5 => ?_)
  have ra5 : a5 = (m2_ : Int) ∧ 1 ≤ a5 ∧ a5 ≤ 40 := by rw [← ha5.e]; exact tn_p t3_
  refine w_if (fun c4_ => ?_) (fun c4_ => ?_)
  · skip
    exact w_ret ⟨iM, kM, trivial⟩
  · skip
    have lp5_ : LPt n M (l1) := LPt.mk ((show mG M 20 1 = a2 from ha2)) t3_ (by omega) (by omega)
    refine w_if (fun c6_ => ?_) (fun c6_ => ?_)
    · skip
      refine w_gFc (ji := 1) rfl (congrArg Prod.fst (kl_20 iM)) (show mG M 20 1 = a2 from (show mG M 20 1 = a2 from ha2)) ?_
      refine w_gFc (ji := 0) rfl (congrArg Prod.fst (tn_k t3_)) (tn_0 t3_) ?_
      have w7_ := tn_p t3_
      have w8_ := LPt.use lp5_ ((show mG M 20 1 = a2 from ha2)) t3_
      refine w_aG (tn_a0 t3_) (by omega) (by omega) (fun a27 ha27 => ?_)
      refine w_if (fun c9_ => ?_) (fun c9_ => ?_)
      · skip
        refine w_gK (congrArg Prod.fst (kl_20 iM)) ?_
        refine w_call (hf_counted _ _ _ ⟨by omega, by omega⟩ ⟨by omega, by omega⟩ (by all_goals omega) (LPt.mono lp5_ (by omega)) p_JS p_JT iM) ?_
        intro v91 m91 pp91
        obtain ⟨im91, kk91, -⟩ := pp91
        try dsimp only
        replace im91 : I n m91 := im91
        replace kk91 : Keep n W_X0_counted M m91 := kk91
        have km91 : Keep n W_X0_judged M m91 := kM.tr kk91 (fun b j z => Or.elim z (fun z => (Or.inl z)) (fun z => (Or.inr z)))
        exact w_ret ⟨im91, km91, trivial⟩
      · skip
        refine w_if (fun c10_ => ?_) (fun c10_ => ?_)
        · skip
          refine w_gK (congrArg Prod.fst (kl_20 iM)) ?_
          refine w_call (hf_counted _ _ _ ⟨by omega, by omega⟩ ⟨by omega, by omega⟩ (by all_goals omega) (LPt.mono lp5_ (by omega)) p_JS p_JT iM) ?_
          intro v91 m91 pp91
          obtain ⟨im91, kk91, -⟩ := pp91
          try dsimp only
          replace im91 : I n m91 := im91
          replace kk91 : Keep n W_X0_counted M m91 := kk91
          have km91 : Keep n W_X0_judged M m91 := kM.tr kk91 (fun b j z => Or.elim z (fun z => (Or.inl z)) (fun z => (Or.inr z)))
          exact w_ret ⟨im91, km91, trivial⟩
        · skip
          refine w_if (fun c11_ => ?_) (fun c11_ => ?_)
          · skip
            refine w_gK (congrArg Prod.fst (kl_20 iM)) ?_
            refine w_call (hf_counted _ _ _ ⟨by omega, by omega⟩ ⟨by omega, by omega⟩ (by all_goals omega) (LPt.mono lp5_ (by omega)) p_JS p_JT iM) ?_
            intro v91 m91 pp91
            obtain ⟨im91, kk91, -⟩ := pp91
            try dsimp only
            replace im91 : I n m91 := im91
            replace kk91 : Keep n W_X0_counted M m91 := kk91
            have km91 : Keep n W_X0_judged M m91 := kM.tr kk91 (fun b j z => Or.elim z (fun z => (Or.inl z)) (fun z => (Or.inr z)))
            exact w_ret ⟨im91, km91, trivial⟩
          · skip
            refine w_if (fun c12_ => ?_) (fun c12_ => ?_)
            · skip
              refine w_gK (congrArg Prod.fst (kl_20 iM)) ?_
              refine w_call (hf_counted _ _ _ ⟨by omega, by omega⟩ ⟨by omega, by omega⟩ (by all_goals omega) (LPt.mono lp5_ (by omega)) p_JS p_JT iM) ?_
              intro v91 m91 pp91
              obtain ⟨im91, kk91, -⟩ := pp91
              try dsimp only
              replace im91 : I n m91 := im91
              replace kk91 : Keep n W_X0_counted M m91 := kk91
              have km91 : Keep n W_X0_judged M m91 := kM.tr kk91 (fun b j z => Or.elim z (fun z => (Or.inl z)) (fun z => (Or.inr z)))
              exact w_ret ⟨im91, km91, trivial⟩
            · skip
              refine w_if (fun c13_ => ?_) (fun c13_ => ?_)
              · skip
                refine w_gK (congrArg Prod.fst (kl_20 iM)) ?_
                refine w_call (hf_joined _ _ _ ⟨by omega, by omega⟩ ⟨by omega, by omega⟩ (by all_goals omega) (LPt.mono lp5_ (by omega)) p_JS p_JT iM) ?_
                intro v98 m98 pp98
                obtain ⟨im98, kk98, -⟩ := pp98
                try dsimp only
                replace im98 : I n m98 := im98
                replace kk98 : Keep n W_X0_joined M m98 := kk98
                have km98 : Keep n W_X0_judged M m98 := kM.tr kk98 (fun b j z => Or.elim z (fun z => (Or.inl z)) (fun z => (Or.inr z)))
                exact w_ret ⟨im98, km98, trivial⟩
              · skip
                refine w_if (fun c14_ => ?_) (fun c14_ => ?_)
                · skip
                  refine w_gK (congrArg Prod.fst (kl_20 iM)) ?_
                  refine w_call (hf_joined _ _ _ ⟨by omega, by omega⟩ ⟨by omega, by omega⟩ (by all_goals omega) (LPt.mono lp5_ (by omega)) p_JS p_JT iM) ?_
                  intro v98 m98 pp98
                  obtain ⟨im98, kk98, -⟩ := pp98
                  try dsimp only
                  replace im98 : I n m98 := im98
                  replace kk98 : Keep n W_X0_joined M m98 := kk98
                  have km98 : Keep n W_X0_judged M m98 := kM.tr kk98 (fun b j z => Or.elim z (fun z => (Or.inl z)) (fun z => (Or.inr z)))
                  exact w_ret ⟨im98, km98, trivial⟩
                · skip
                  refine w_if (fun c15_ => ?_) (fun c15_ => ?_)
                  · skip
                    refine w_gK (congrArg Prod.fst (kl_20 iM)) ?_
                    refine w_call (hf_joined _ _ _ ⟨by omega, by omega⟩ ⟨by omega, by omega⟩ (by all_goals omega) (LPt.mono lp5_ (by omega)) p_JS p_JT iM) ?_
                    intro v98 m98 pp98
                    obtain ⟨im98, kk98, -⟩ := pp98
                    try dsimp only
                    replace im98 : I n m98 := im98
                    replace kk98 : Keep n W_X0_joined M m98 := kk98
                    have km98 : Keep n W_X0_judged M m98 := kM.tr kk98 (fun b j z => Or.elim z (fun z => (Or.inl z)) (fun z => (Or.inr z)))
                    exact w_ret ⟨im98, km98, trivial⟩
                  · skip
                    refine w_if (fun c16_ => ?_) (fun c16_ => ?_)
                    · skip
                      refine w_gK (congrArg Prod.fst (kl_20 iM)) ?_
                      refine w_call (hf_joined _ _ _ ⟨by omega, by omega⟩ ⟨by omega, by omega⟩ (by all_goals omega) (LPt.mono lp5_ (by omega)) p_JS p_JT iM) ?_
                      intro v98 m98 pp98
                      obtain ⟨im98, kk98, -⟩ := pp98
                      try dsimp only
                      replace im98 : I n m98 := im98
                      replace kk98 : Keep n W_X0_joined M m98 := kk98
                      have km98 : Keep n W_X0_judged M m98 := kM.tr kk98 (fun b j z => Or.elim z (fun z => (Or.inl z)) (fun z => (Or.inr z)))
                      exact w_ret ⟨im98, km98, trivial⟩
                    · skip
                      refine w_if (fun c17_ => ?_) (fun c17_ => ?_)
                      · skip
                        refine w_gFc (ji := 1) rfl (congrArg Prod.fst (kl_20 iM)) (show mG M 20 1 = a2 from (show mG M 20 1 = a2 from ha2)) ?_
                        refine w_gFc (ji := 2) rfl (congrArg Prod.fst (tn_k t3_)) (tn_2 t3_) ?_
                        have w18_ := tn_p t3_
                        have w19_ := LPt.use lp5_ ((show mG M 20 1 = a2 from ha2)) t3_
                        refine w_aG (tn_a2 t3_) (by omega) (by omega) (fun a111 ha111 => ?_)
                        refine w_gK (congrArg Prod.fst (kl_20 iM)) ?_
                        refine w_call (s_X0_slot iM) ?_
                        intro v112 m112 pp112
                        obtain ⟨im112, kk112, e112_0, -⟩ := pp112
                        try dsimp only
                        replace im112 : I n m112 := im112
                        replace kk112 : Keep n W_X0_slot M m112 := kk112
                        have km112 : Keep n W_X0_judged M m112 := kM.tr kk112 (fun b j z => z.elim)
                        replace e112_0 : (-2147483648) ≤ v112 ∧ v112 ≤ 2147483647 := e112_0
                        refine w_gFc (ji := 1) rfl (congrArg Prod.fst (kl_20 im112)) (show mG m112 20 1 = a2 from ((kk112.2.2 20 1 (by omega) (fun z => z)).trans (show mG M 20 1 = a2 from ha2))) ?_
                        have x20_ : TX n m112 a2 := (TX.ot xa2 (otx_kp kk112 (fun b j z => z.elim)))
                        have t24_ : TextN m112 a2 m2_ := (TextN.ot (n := n) t3_ (otx_kp kk112 (fun b j z => z.elim)) (by omega) (by omega))
                        refine w_gFc (ji := 3) rfl (congrArg Prod.fst (tn_k t24_)) (tn_3 t24_) ?_
                        have w25_ := tn_p t24_
                        have lp26_ : LPt n m112 (l1) := (LPt_of lp5_ (kk112.2.2 20 1 (by omega) (fun z => z)) (otx_kp kk112 (fun b j z => z.elim)))
                        have w27_ := LPt.use lp26_ (((kk112.2.2 20 1 (by omega) (fun z => z)).trans (show mG M 20 1 = a2 from ha2))) t24_
                        refine w_aG (tn_a3 t24_) (by omega) (by omega) (fun a124 ha124 => ?_)
                        refine w_gK (congrArg Prod.fst (kl_20 im112)) ?_
                        refine w_call (s_X0_slot im112) ?_
                        intro v125 m125 pp125
                        obtain ⟨im125, kk125, e125_0, -⟩ := pp125
                        try dsimp only
                        replace im125 : I n m125 := im125
                        replace kk125 : Keep n W_X0_slot m112 m125 := kk125
                        have km125 : Keep n W_X0_judged M m125 := km112.tr kk125 (fun b j z => z.elim)
                        replace e125_0 : (-2147483648) ≤ v125 ∧ v125 ≤ 2147483647 := e125_0
                        refine w_if (fun c28_ => ?_) (fun c28_ => ?_)
                        · skip
                          exact w_ret ⟨im125, km125, trivial⟩
                        · skip
                          exact w_ret ⟨im125, km125, trivial⟩
                      · skip
                        refine w_if (fun c29_ => ?_) (fun c29_ => ?_)
                        · skip
                          refine w_gFc (ji := 1) rfl (congrArg Prod.fst (kl_20 iM)) (show mG M 20 1 = a2 from (show mG M 20 1 = a2 from ha2)) ?_
                          refine w_gFc (ji := 1) rfl (congrArg Prod.fst (tn_k t3_)) (tn_1 t3_) ?_
                          have w30_ := tn_p t3_
                          have w31_ := LPt.use lp5_ ((show mG M 20 1 = a2 from ha2)) t3_
                          refine w_aG (tn_a1 t3_) (by omega) (by omega) (fun a148 ha148 => ?_)
                          refine w_gFc (ji := 1) rfl (congrArg Prod.fst (kl_20 iM)) (show mG M 20 1 = a2 from (show mG M 20 1 = a2 from ha2)) ?_
                          refine w_gFc (ji := 2) rfl (congrArg Prod.fst (tn_k t3_)) (tn_2 t3_) ?_
                          have w32_ := tn_p t3_
                          have w33_ := LPt.use lp5_ ((show mG M 20 1 = a2 from ha2)) t3_
                          refine w_aG (tn_a2 t3_) (by omega) (by omega) (fun a158 ha158 => ?_)
                          refine w_gK (congrArg Prod.fst (kl_20 iM)) ?_
                          refine w_call (s_X0_slot iM) ?_
                          intro v159 m159 pp159
                          obtain ⟨im159, kk159, e159_0, -⟩ := pp159
                          try dsimp only
                          replace im159 : I n m159 := im159
                          replace kk159 : Keep n W_X0_slot M m159 := kk159
                          have km159 : Keep n W_X0_judged M m159 := kM.tr kk159 (fun b j z => z.elim)
                          replace e159_0 : (-2147483648) ≤ v159 ∧ v159 ≤ 2147483647 := e159_0
                          refine w_gFc (ji := 1) rfl (congrArg Prod.fst (kl_20 im159)) (show mG m159 20 1 = a2 from ((kk159.2.2 20 1 (by omega) (fun z => z)).trans (show mG M 20 1 = a2 from ha2))) ?_
                          have x34_ : TX n m159 a2 := (TX.ot xa2 (otx_kp kk159 (fun b j z => z.elim)))
                          have t38_ : TextN m159 a2 m2_ := (TextN.ot (n := n) t3_ (otx_kp kk159 (fun b j z => z.elim)) (by omega) (by omega))
                          refine w_gFc (ji := 3) rfl (congrArg Prod.fst (tn_k t38_)) (tn_3 t38_) ?_
                          have w39_ := tn_p t38_
                          have lp40_ : LPt n m159 (l1) := (LPt_of lp5_ (kk159.2.2 20 1 (by omega) (fun z => z)) (otx_kp kk159 (fun b j z => z.elim)))
                          have w41_ := LPt.use lp40_ (((kk159.2.2 20 1 (by omega) (fun z => z)).trans (show mG M 20 1 = a2 from ha2))) t38_
                          refine w_aG (tn_a3 t38_) (by omega) (by omega) (fun a171 ha171 => ?_)
                          refine w_gK (congrArg Prod.fst (kl_20 im159)) ?_
                          refine w_call (s_X0_slot im159) ?_
                          intro v172 m172 pp172
                          obtain ⟨im172, kk172, e172_0, -⟩ := pp172
                          try dsimp only
                          replace im172 : I n m172 := im172
                          replace kk172 : Keep n W_X0_slot m159 m172 := kk172
                          have km172 : Keep n W_X0_judged M m172 := km159.tr kk172 (fun b j z => z.elim)
                          replace e172_0 : (-2147483648) ≤ v172 ∧ v172 ≤ 2147483647 := e172_0
                          refine w_gK (congrArg Prod.fst (kl_20 im172)) ?_
                          have ppJS_m172 : JS m172 := (JS_of (JS_of p_JS (kk159.2.2 20 0 (by omega) (fun z => z))) (kk172.2.2 20 0 (by omega) (fun z => z)))
                          refine w_call (s_X0_reached ⟨by omega, by omega⟩ ⟨by omega, by omega⟩ ppJS_m172 im172) ?_
                          intro v175 m175 pp175
                          obtain ⟨im175, kk175, -⟩ := pp175
                          try dsimp only
                          replace im175 : I n m175 := im175
                          replace kk175 : Keep n W_X0_reached m172 m175 := kk175
                          have km175 : Keep n W_X0_judged M m175 := km172.tr kk175 (fun b j z => Or.elim z (fun z => (Or.inl ⟨by omega, by omega⟩)) (fun z => (Or.inr z)))
                          exact w_ret ⟨im175, km175, trivial⟩
                        · skip
                          refine w_if (fun c42_ => ?_) (fun c42_ => ?_)
                          · skip
                            refine w_gFc (ji := 1) rfl (congrArg Prod.fst (kl_20 iM)) (show mG M 20 1 = a2 from (show mG M 20 1 = a2 from ha2)) ?_
                            refine w_gFc (ji := 1) rfl (congrArg Prod.fst (tn_k t3_)) (tn_1 t3_) ?_
                            have w43_ := tn_p t3_
                            have w44_ := LPt.use lp5_ ((show mG M 20 1 = a2 from ha2)) t3_
                            refine w_aG (tn_a1 t3_) (by omega) (by omega) (fun a188 ha188 => ?_)
                            refine w_gK (congrArg Prod.fst (kl_20 iM)) ?_
                            refine w_call (s_X0_treeLike p_JS iM) ?_
                            intro v189 m189 pp189
                            obtain ⟨im189, kk189, -⟩ := pp189
                            try dsimp only
                            replace im189 : I n m189 := im189
                            replace kk189 : Keep n W_X0_treeLike M m189 := kk189
                            have km189 : Keep n W_X0_judged M m189 := kM.tr kk189 (fun b j z => Or.elim z (fun z => (Or.inl ⟨by omega, by omega⟩)) (fun z => (Or.inr z)))
                            exact w_ret ⟨im189, km189, trivial⟩
                          · skip
                            refine w_gFc (ji := 1) rfl (congrArg Prod.fst (kl_20 iM)) (show mG M 20 1 = a2 from (show mG M 20 1 = a2 from ha2)) ?_
                            refine w_gFc (ji := 1) rfl (congrArg Prod.fst (tn_k t3_)) (tn_1 t3_) ?_
                            have w45_ := tn_p t3_
                            have w46_ := LPt.use lp5_ ((show mG M 20 1 = a2 from ha2)) t3_
                            refine w_aG (tn_a1 t3_) (by omega) (by omega) (fun a202 ha202 => ?_)
                            refine w_gFc (ji := 1) rfl (congrArg Prod.fst (kl_20 iM)) (show mG M 20 1 = a2 from (show mG M 20 1 = a2 from ha2)) ?_
                            refine w_gFc (ji := 2) rfl (congrArg Prod.fst (tn_k t3_)) (tn_2 t3_) ?_
                            have w47_ := tn_p t3_
                            have w48_ := LPt.use lp5_ ((show mG M 20 1 = a2 from ha2)) t3_
                            refine w_aG (tn_a2 t3_) (by omega) (by omega) (fun a212 ha212 => ?_)
                            refine w_gK (congrArg Prod.fst (kl_20 iM)) ?_
                            refine w_call (s_X0_slot iM) ?_
                            intro v213 m213 pp213
                            obtain ⟨im213, kk213, e213_0, -⟩ := pp213
                            try dsimp only
                            replace im213 : I n m213 := im213
                            replace kk213 : Keep n W_X0_slot M m213 := kk213
                            have km213 : Keep n W_X0_judged M m213 := kM.tr kk213 (fun b j z => z.elim)
                            replace e213_0 : (-2147483648) ≤ v213 ∧ v213 ≤ 2147483647 := e213_0
                            refine w_gFc (ji := 1) rfl (congrArg Prod.fst (kl_20 im213)) (show mG m213 20 1 = a2 from ((kk213.2.2 20 1 (by omega) (fun z => z)).trans (show mG M 20 1 = a2 from ha2))) ?_
                            have x49_ : TX n m213 a2 := (TX.ot xa2 (otx_kp kk213 (fun b j z => z.elim)))
                            have t53_ : TextN m213 a2 m2_ := (TextN.ot (n := n) t3_ (otx_kp kk213 (fun b j z => z.elim)) (by omega) (by omega))
                            refine w_gFc (ji := 3) rfl (congrArg Prod.fst (tn_k t53_)) (tn_3 t53_) ?_
                            have w54_ := tn_p t53_
                            have lp55_ : LPt n m213 (l1) := (LPt_of lp5_ (kk213.2.2 20 1 (by omega) (fun z => z)) (otx_kp kk213 (fun b j z => z.elim)))
                            have w56_ := LPt.use lp55_ (((kk213.2.2 20 1 (by omega) (fun z => z)).trans (show mG M 20 1 = a2 from ha2))) t53_
                            refine w_aG (tn_a3 t53_) (by omega) (by omega) (fun a225 ha225 => ?_)
                            refine w_gK (congrArg Prod.fst (kl_20 im213)) ?_
                            refine w_call (s_X0_slot im213) ?_
                            intro v226 m226 pp226
                            obtain ⟨im226, kk226, e226_0, -⟩ := pp226
                            try dsimp only
                            replace im226 : I n m226 := im226
                            replace kk226 : Keep n W_X0_slot m213 m226 := kk226
                            have km226 : Keep n W_X0_judged M m226 := km213.tr kk226 (fun b j z => z.elim)
                            replace e226_0 : (-2147483648) ≤ v226 ∧ v226 ≤ 2147483647 := e226_0
                            refine w_gK (congrArg Prod.fst (kl_20 im226)) ?_
                            have ppJS_m226 : JS m226 := (JS_of (JS_of p_JS (kk213.2.2 20 0 (by omega) (fun z => z))) (kk226.2.2 20 0 (by omega) (fun z => z)))
                            refine w_call (s_X0_factAt ⟨by omega, by omega⟩ ⟨by omega, by omega⟩ ppJS_m226 im226) ?_
                            intro v229 m229 pp229
                            obtain ⟨im229, kk229, -⟩ := pp229
                            try dsimp only
                            replace im229 : I n m229 := im229
                            replace kk229 : Keep n W_X0_factAt m226 m229 := kk229
                            have km229 : Keep n W_X0_judged M m229 := km226.tr kk229 (fun b j z => z.elim)
                            exact w_ret ⟨im229, km229, trivial⟩
    · skip
      exact w_ret ⟨iM, kM, trivial⟩
