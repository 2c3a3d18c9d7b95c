/-! ===== the reference's story and guess ===== -/
theorem WF.new {n : Nat} {t : Int} {M0 M1 M2 : Mem} (wf : WF M0) (i0 : I n M0) (r_t : 0 ≤ t ∧ t ≤ 8) (g : ∀ b j : Int, 141 ≤ b → b ≤ 144 → mG M1 b j = mG M0 b j) (ht : TXT M1) (kt : KT t (mG M1 126 40) M1 M2) (hs : ∀ i : Int, ¬ i = 0 → mG M2 138 i = mG M0 138 i) (hs0 : mG M2 138 0 = mG M0 138 0 ∨ (mG M2 138 0 = mG M0 138 0 + 1 ∧ t = mG M0 138 0)) : WF M2 := by
  have rp : ∀ t, 0 ≤ mG M0 141 t ∧ mG M0 141 t ≤ 40 := fun t => rd_Mparts i0 (a := 141) rfl
  have rs : ∀ t, 0 ≤ mG M0 138 t ∧ mG M0 138 t ≤ 8 := fun t => rd_Mstories i0 (a := 138) rfl
  have np := ht.1
  have np2 := ht.2.1
  have p1 : ∀ t', ¬ t' = t → mG M2 141 t' = mG M0 141 t' := fun t' h => by
    rw [kt.2.2, if_neg (fun z => h z.2), if_neg (fun z => by omega)]; exact g _ _ (by decide) (by decide)
  have p2 : mG M2 141 t = mG M1 126 40 := by rw [kt.2.2, if_pos ⟨rfl, rfl⟩]
  refine ⟨fun t' t0 t1 => ?_, fun i i0' i1 s s0 s1 => ?_⟩
  · by_cases e : t' = t
    · subst e; exact kt.wft ht
    · have h := rp t'
      have z : ∀ (b : Int) (k : Nat), 142 ≤ b → b ≤ 144 → (k : Int) < mG M0 141 t' → mG M2 b (40 * t' + k) = mG M0 b (40 * t' + k) := fun b k b0 b1 hk => by
        rw [kt.2.2, if_neg (fun z => by omega), if_neg (fun z => by omega)]; exact g _ _ (by omega) b1
      exact WFt_of (wf.1 t' t0 t1) (p1 t' e) (fun k hk => ⟨z 142 k (by decide) (by decide) hk, z 143 k (by decide) (by decide) hk, z 144 k (by decide) (by decide) hk⟩)
  · by_cases e : 9 * i + s = t
    · rw [e, p2]; exact np
    · rw [p1 _ e]
      by_cases ei : i = 0
      · subst ei
        rcases hs0 with h | ⟨h, h2⟩
        · exact wf.2 0 i0' i1 s s0 (by rw [← h]; exact s1)
        · exact wf.2 0 i0' i1 s s0 (by omega)
      · exact wf.2 i i0' i1 s s0 (by rw [← hs i ei]; exact s1)
theorem s_X9_story {n : Nat} {M : Mem} (wf : WF M) (iM : I n M) : wp (mX9_story 126 M) (fun q => I n q.2 ∧ Keep n W_X9_story M q.2 ∧ ((-2) ≤ q.1 ∧ q.1 ≤ 7) ∧ WF q.2 ∧ mG q.2 128 0 = 0 ∧ ∀ j : Int, ¬ j = 0 → mG q.2 128 j = mG M 128 j) := by
  have hn : (169 : Int) ≤ (n : Int) := by have := iM.2.2.2.2.1; omega
  unfold mX9_story
  refine w_pF (ji := 0) rfl (congrArg Prod.fst (kl_126 iM)) (fun M2 h2 => ?_)
  have i2 : I n M2 := wr_Model_0 iM rfl ⟨by omega, by omega⟩ h2
  have k2 : Keep n W_X9_story M M2 := Keep.rf.st h2 (Or.inl (show W_X9_story 126 0 from (Or.inr (Or.inr (Or.inr (Or.inl ⟨rfl, rfl⟩))))))
  have g2 : ∀ b j : Int, ¬ b = 126 → mG M2 b j = mG M b j := fun b j hb => st_ne h2 (fun z => hb z.1)
  have wf2 : WF M2 := WF_of wf (fun j => g2 _ _ (by decide)) (fun j => g2 _ _ (by decide)) (fun j => g2 _ _ (by decide)) (fun j => g2 _ _ (by decide)) (fun j => g2 _ _ (by decide))
  refine w_gFc (ji := 12) rfl (congrArg Prod.fst (kl_126 i2)) (rd_Model_12 i2 rfl) ?_
  refine w_aG (kl_138 i2) (by decide) (by decide) (fun a10 h10 => ?_)
  have r10 := h10.tr (P := fun z => 0 ≤ z ∧ z ≤ 8) (rd_Mstories i2 rfl)
  refine w_if (fun c => ?_) (fun c => ?_)
  · refine w_gFc (ji := 2) rfl (congrArg Prod.fst (kl_126 i2)) (rd_Model_2 i2 rfl) ?_
    refine w_aS (kl_128 i2) (by decide) (by decide) (fun M3 h3 => ?_)
    have i3 : I n M3 := wr_Msize i2 rfl (by decide) h3
    refine w_gFc (ji := 3) rfl (congrArg Prod.fst (kl_126 i3)) (rd_Model_3 i3 rfl) ?_
    refine w_aS (kl_129 i3) (by decide) (by decide) (fun M4 h4 => ?_)
    have i4 : I n M4 := wr_Mfault i3 rfl (by decide) h4
    refine w_gFc (ji := 4) rfl (congrArg Prod.fst (kl_126 i4)) (rd_Model_4 i4 rfl) ?_
    refine w_aS (kl_130 i4) (by decide) (by decide) (fun M5 h5 => ?_)
    have i5 : I n M5 := wr_MfaultPlace i4 rfl (by decide) h5
    have k5 : Keep n W_X9_story M M5 := ((k2.st h3 (Or.inl (show W_X9_story 128 _ from (Or.inl ⟨by decide, by decide⟩)))).st h4 (Or.inl (show W_X9_story 129 _ from (Or.inl ⟨by decide, by decide⟩)))).st h5 (Or.inl (show W_X9_story 130 _ from (Or.inl ⟨by decide, by decide⟩)))
    have g5 : ∀ b j : Int, 131 ≤ b → mG M5 b j = mG M2 b j := fun b j hb => by rw [st_ne h5 (fun z => by omega), st_ne h4 (fun z => by omega), st_ne h3 (fun z => by omega)]
    exact w_ret ⟨i5, k5, (show (-2 : Int) ≤ -2 ∧ (-2 : Int) ≤ 7 from by decide), WF_of wf2 (fun j => g5 _ _ (by decide)) (fun j => g5 _ _ (by decide)) (fun j => g5 _ _ (by decide)) (fun j => g5 _ _ (by decide)) (fun j => g5 _ _ (by decide)), by rw [st_ne h5 (fun z => absurd z.1 (by decide)), st_ne h4 (fun z => absurd z.1 (by decide)), st_eq h3], fun j hj => by rw [st_ne h5 (fun z => absurd z.1 (by decide)), st_ne h4 (fun z => absurd z.1 (by decide)), st_ne h3 (fun z => hj z.2), g2 128 j (by decide)]⟩
  · refine w_gK (congrArg Prod.fst (kl_126 i2)) ?_
    refine w_call (w_pw (s_X9_readText i2) (pt_readText i2)) ?_
    rintro v m ⟨⟨im, km, rv, -⟩, tv, sv, sj⟩
    have im : I n m := im
    have km : Keep n W_X9_readText M2 m := km
    have rv : 0 ≤ v ∧ v ≤ 1 := rv
    have tv : v = 1 → TXT m := tv
    have sv : mG m 128 0 = 0 := sv
    have sj : ∀ j : Int, ¬ j = 0 → mG m 128 j = mG M 128 j := fun j hj => (sj j hj).trans (g2 128 j (by decide))
    dsimp only
    have gm : ∀ b j : Int, 131 ≤ b → b ≤ 154 → ¬ b = 126 → mG m b j = mG M2 b j := fun b j b0 b1 b2 => km.2.2 b j (by omega) (fun z => by unfold W_X9_readText at z; rcases z with z | z | z | z | z | z | z | z | z | z | z | z | z <;> omega)
    have kmm : Keep n W_X9_story M m := k2.tr km (fun b j z => by unfold W_X9_readText at z; exact (show W_X9_story b j from Or.elim z (fun z => (Or.inl z)) (fun z => Or.elim z (fun z => (Or.inr (Or.inr (Or.inl z)))) (fun z => Or.elim z (fun z => (Or.inr (Or.inr (Or.inr (Or.inr (Or.inl z)))))) (fun z => Or.elim z (fun z => (Or.inr (Or.inr (Or.inr (Or.inr (Or.inr (Or.inl z))))))) (fun z => Or.elim z (fun z => (Or.inr (Or.inr (Or.inr (Or.inr (Or.inr (Or.inr (Or.inl z)))))))) (fun z => Or.elim z (fun z => (Or.inr (Or.inr (Or.inr (Or.inr (Or.inr (Or.inr (Or.inr (Or.inl z))))))))) (fun z => Or.elim z (fun z => (Or.inr (Or.inr (Or.inr (Or.inr (Or.inr (Or.inr (Or.inr (Or.inr (Or.inl z)))))))))) (fun z => Or.elim z (fun z => (Or.inr (Or.inr (Or.inr (Or.inr (Or.inr (Or.inr (Or.inr (Or.inr (Or.inr (Or.inl z))))))))))) (fun z => Or.elim z (fun z => (Or.inr (Or.inr (Or.inr (Or.inr (Or.inr (Or.inr (Or.inr (Or.inr (Or.inr (Or.inr (Or.inl z)))))))))))) (fun z => Or.elim z (fun z => (Or.inr (Or.inr (Or.inr (Or.inr (Or.inr (Or.inr (Or.inr (Or.inr (Or.inr (Or.inr (Or.inr (Or.inl z))))))))))))) (fun z => Or.elim z (fun z => (Or.inr (Or.inr (Or.inr (Or.inr (Or.inr (Or.inr (Or.inr (Or.inr (Or.inr (Or.inr (Or.inr (Or.inr (Or.inl z)))))))))))))) (fun z => Or.elim z (fun z => (Or.inr (Or.inr (Or.inr (Or.inr (Or.inr (Or.inr (Or.inr (Or.inr (Or.inr (Or.inr (Or.inr (Or.inr (Or.inr (Or.inl z))))))))))))))) (fun z => (Or.inr (Or.inr (Or.inr (Or.inr (Or.inr (Or.inr (Or.inr (Or.inr (Or.inr (Or.inr (Or.inr (Or.inr (Or.inr (Or.inr z))))))))))))))))))))))))))))
    have wfm : WF m := WF_of wf2 (fun j => gm _ _ (by decide) (by decide) (by decide)) (fun j => gm _ _ (by decide) (by decide) (by decide)) (fun j => gm _ _ (by decide) (by decide) (by decide)) (fun j => gm _ _ (by decide) (by decide) (by decide)) (fun j => gm _ _ (by decide) (by decide) (by decide))
    refine w_if (fun c2 => ?_) (fun c2 => ?_)
    · exact w_ret ⟨im, kmm, (show (-2 : Int) ≤ -1 ∧ (-1 : Int) ≤ 7 from by decide), wfm, sv, sj⟩
    have tv := tv (by omega)
    have e10 : mG m 138 0 = a10 := (gm 138 0 (by decide) (by decide) (by decide)).trans h10.e
    refine w_gFc (ji := 12) rfl (congrArg Prod.fst (kl_126 im)) (rd_Model_12 im rfl) ?_
    refine w_aGc (kl_138 im) (by decide) (by decide) e10 ?_
    refine w_gFc (ji := 12) rfl (congrArg Prod.fst (kl_126 im)) (rd_Model_12 im rfl) ?_
    refine w_aGc (kl_138 im) (by decide) (by decide) e10 ?_
    have w1 := wI_id (x := a10 + 1) (by omega) (by omega)
    rw [w1]
    refine w_aS (kl_138 im) (by decide) (by decide) (fun M3 h3 => ?_)
    have i3 : I n M3 := wr_Mstories im rfl ⟨by omega, by omega⟩ h3
    have k3 : Keep n W_X9_story M M3 := kmm.st h3 (Or.inl (show W_X9_story 138 _ from (Or.inr (Or.inl ⟨by decide, by decide⟩))))
    have g3 : ∀ b j : Int, ¬ b = 138 → mG M3 b j = mG m b j := fun b j hb => st_ne h3 (fun z => hb z.1)
    have t3 : TXT M3 := tv.of (g3 126 40 (by decide)) (fun b j b0 b1 => g3 b j (by omega))
    refine w_gK (congrArg Prod.fst (kl_126 i3)) ?_
    refine w_call (x_keepText (t := a10) (by omega) t3 i3) ?_
    rintro v4 m4 ⟨i4, kt⟩
    have i4 : I n m4 := i4
    have kt : KT a10 (mG M3 126 40) M3 m4 := kt
    dsimp only
    have k4 : Keep n W_X9_story M m4 := k3.tr (kt.keep (W := W_X9_story) (fun b j b0 b1 => show W_X9_story b j from (Or.inr (Or.inl ⟨by omega, by omega⟩)))) (fun b j z => z)
    have g4 : ∀ b j : Int, ¬ (141 ≤ b ∧ b ≤ 145) → mG m4 b j = mG M3 b j := fun b j hb => by rw [kt.2.2, if_neg (fun z => hb (by omega)), if_neg (fun z => hb (by omega))]
    refine w_gFc (ji := 13) rfl (congrArg Prod.fst (kl_126 i4)) (rd_Model_13 i4 rfl) ?_
    refine w_gFc (ji := 5) rfl (congrArg Prod.fst (kl_126 i4)) (rd_Model_5 i4 rfl) ?_
    refine w_aG (kl_131 i4) (by decide) (by decide) (fun a81 h81 => ?_)
    have r81 := h81.tr (P := fun z => 0 ≤ z ∧ z ≤ 999) (rd_Mdays i4 rfl)
    refine w_aS (kl_139 i4) (by omega) (by omega) (fun M5 h5 => ?_)
    have i5 : I n M5 := wr_MstoryDay i4 rfl r81 h5
    refine w_gFc (ji := 14) rfl (congrArg Prod.fst (kl_126 i5)) (rd_Model_14 i5 rfl) ?_
    refine w_aS (kl_140 i5) (by omega) (by omega) (fun M6 h6 => ?_)
    have i6 : I n M6 := wr_MstruckDay i5 rfl (by decide) h6
    have k6 : Keep n W_X9_story M M6 := (k4.st h5 (Or.inl (show W_X9_story 139 _ from (Or.inr (Or.inl ⟨by decide, by decide⟩))))).st h6 (Or.inl (show W_X9_story 140 _ from (Or.inr (Or.inl ⟨by decide, by decide⟩))))
    have g6 : ∀ b j : Int, ¬ b = 139 → ¬ b = 140 → mG M6 b j = mG m4 b j := fun b j z1 z2 => by rw [st_ne h6 (fun z => z2 z.1), st_ne h5 (fun z => z1 z.1)]
    have e4 : ∀ i : Int, mG m4 138 i = mG M3 138 i := fun i => g4 138 i (by omega)
    have wf4 : WF m4 := WF.new wfm im (t := a10) (by omega) (fun b j b0 b1 => g3 b j (by omega)) t3 kt (fun i hi => by rw [e4]; exact st_ne h3 (fun z => hi z.2)) (Or.inr ⟨by rw [e4, st_eq h3, e10], e10.symm⟩)
    refine w_ret ⟨i6, k6, ⟨by show -2 ≤ a10; omega, by show a10 ≤ 7; omega⟩, WF_of wf4 (fun j => g6 _ _ (by decide) (by decide)) (fun j => g6 _ _ (by decide) (by decide)) (fun j => g6 _ _ (by decide) (by decide)) (fun j => g6 _ _ (by decide) (by decide)) (fun j => g6 _ _ (by decide) (by decide)), ?_, fun j hj => ?_⟩
    · rw [g6 128 0 (by decide) (by decide), g4 128 0 (by omega), g3 128 0 (by decide)]
      exact sv
    · rw [g6 128 j (by decide) (by decide), g4 128 j (by omega), g3 128 j (by decide)]
      exact sj j hj
theorem s_X9_guess {n : Nat} {M : Mem} (wf : WF M) (iM : I n M) : wp (mX9_guess 126 M) (fun q => I n q.2 ∧ Keep n W_X9_guess M q.2 ∧ ((-1) ≤ q.1 ∧ q.1 ≤ 40) ∧ WF q.2 ∧ mG q.2 128 0 = 0 ∧ ∀ j : Int, ¬ j = 0 → mG q.2 128 j = mG M 128 j) := by
  have hn : (169 : Int) ≤ (n : Int) := by have := iM.2.2.2.2.1; omega
  unfold mX9_guess
  refine w_pF (ji := 0) rfl (congrArg Prod.fst (kl_126 iM)) (fun M2 h2 => ?_)
  have i2 : I n M2 := wr_Model_0 iM rfl ⟨by omega, by omega⟩ h2
  have k2 : Keep n W_X9_guess M M2 := Keep.rf.st h2 (Or.inl (show W_X9_guess 126 0 from (Or.inr (Or.inr (Or.inr (Or.inl ⟨rfl, rfl⟩))))))
  have g2 : ∀ b j : Int, ¬ b = 126 → mG M2 b j = mG M b j := fun b j hb => st_ne h2 (fun z => hb z.1)
  have wf2 : WF M2 := WF_of wf (fun j => g2 _ _ (by decide)) (fun j => g2 _ _ (by decide)) (fun j => g2 _ _ (by decide)) (fun j => g2 _ _ (by decide)) (fun j => g2 _ _ (by decide))
  refine w_gK (congrArg Prod.fst (kl_126 i2)) ?_
  refine w_call (w_pw (s_X9_readText i2) (pt_readText i2)) ?_
  rintro v m ⟨⟨im, km, rv, -⟩, tv, sv, sj⟩
  have im : I n m := im
  have km : Keep n W_X9_readText M2 m := km
  have rv : 0 ≤ v ∧ v ≤ 1 := rv
  have tv : v = 1 → TXT m := tv
  have sv : mG m 128 0 = 0 := sv
  have sj : ∀ j : Int, ¬ j = 0 → mG m 128 j = mG M 128 j := fun j hj => (sj j hj).trans (g2 128 j (by decide))
  dsimp only
  have gm : ∀ b j : Int, 131 ≤ b → b ≤ 154 → ¬ b = 126 → mG m b j = mG M2 b j := fun b j b0 b1 b2 => km.2.2 b j (by omega) (fun z => by unfold W_X9_readText at z; rcases z with z | z | z | z | z | z | z | z | z | z | z | z | z <;> omega)
  have kmm : Keep n W_X9_guess M m := k2.tr km (fun b j z => by unfold W_X9_readText at z; exact (show W_X9_guess b j from Or.elim z (fun z => (Or.inl z)) (fun z => Or.elim z (fun z => (Or.inr (Or.inr (Or.inl z)))) (fun z => Or.elim z (fun z => (Or.inr (Or.inr (Or.inr (Or.inr (Or.inl z)))))) (fun z => Or.elim z (fun z => (Or.inr (Or.inr (Or.inr (Or.inr (Or.inr (Or.inl z))))))) (fun z => Or.elim z (fun z => (Or.inr (Or.inr (Or.inr (Or.inr (Or.inr (Or.inr (Or.inl z)))))))) (fun z => Or.elim z (fun z => (Or.inr (Or.inr (Or.inr (Or.inr (Or.inr (Or.inr (Or.inr (Or.inl z))))))))) (fun z => Or.elim z (fun z => (Or.inr (Or.inr (Or.inr (Or.inr (Or.inr (Or.inr (Or.inr (Or.inr (Or.inl z)))))))))) (fun z => Or.elim z (fun z => (Or.inr (Or.inr (Or.inr (Or.inr (Or.inr (Or.inr (Or.inr (Or.inr (Or.inr (Or.inl z))))))))))) (fun z => Or.elim z (fun z => (Or.inr (Or.inr (Or.inr (Or.inr (Or.inr (Or.inr (Or.inr (Or.inr (Or.inr (Or.inr (Or.inl z)))))))))))) (fun z => Or.elim z (fun z => (Or.inr (Or.inr (Or.inr (Or.inr (Or.inr (Or.inr (Or.inr (Or.inr (Or.inr (Or.inr (Or.inr (Or.inl z))))))))))))) (fun z => Or.elim z (fun z => (Or.inr (Or.inr (Or.inr (Or.inr (Or.inr (Or.inr (Or.inr (Or.inr (Or.inr (Or.inr (Or.inr (Or.inr (Or.inl z)))))))))))))) (fun z => Or.elim z (fun z => (Or.inr (Or.inr (Or.inr (Or.inr (Or.inr (Or.inr (Or.inr (Or.inr (Or.inr (Or.inr (Or.inr (Or.inr (Or.inr (Or.inl z))))))))))))))) (fun z => (Or.inr (Or.inr (Or.inr (Or.inr (Or.inr (Or.inr (Or.inr (Or.inr (Or.inr (Or.inr (Or.inr (Or.inr (Or.inr (Or.inr z))))))))))))))))))))))))))))
  have wfm : WF m := WF_of wf2 (fun j => gm _ _ (by decide) (by decide) (by decide)) (fun j => gm _ _ (by decide) (by decide) (by decide)) (fun j => gm _ _ (by decide) (by decide) (by decide)) (fun j => gm _ _ (by decide) (by decide) (by decide)) (fun j => gm _ _ (by decide) (by decide) (by decide))
  refine w_if (fun c2 => ?_) (fun c2 => ?_)
  · exact w_ret ⟨im, kmm, (show (-1 : Int) ≤ -1 ∧ (-1 : Int) ≤ 40 from by decide), wfm, sv, sj⟩
  have tv := tv (by omega)
  refine w_gK (congrArg Prod.fst (kl_126 im)) ?_
  refine w_call (x_keepText (t := 8) (by decide) tv im) ?_
  rintro v4 m4 ⟨i4, kt⟩
  have i4 : I n m4 := i4
  have kt : KT 8 (mG m 126 40) m m4 := kt
  dsimp only
  have k4 : Keep n W_X9_guess M m4 := kmm.tr (kt.keep (W := W_X9_guess) (fun b j b0 b1 => show W_X9_guess b j from (Or.inr (Or.inl ⟨by omega, by omega⟩)))) (fun b j z => z)
  have g4 : ∀ b j : Int, ¬ (141 ≤ b ∧ b ≤ 145) → mG m4 b j = mG m b j := fun b j hb => by rw [kt.2.2, if_neg (fun z => hb (by omega)), if_neg (fun z => hb (by omega))]
  refine w_gFc (ji := 40) rfl (congrArg Prod.fst (kl_126 i4)) (g4 126 40 (by omega)) ?_
  have e4 : ∀ i : Int, mG m4 138 i = mG m 138 i := fun i => g4 138 i (by omega)
  have wf4 : WF m4 := WF.new wfm im (t := 8) (by decide) (fun b j b0 b1 => rfl) tv kt (fun i hi => e4 i) (Or.inl (e4 0))
  refine w_ret ⟨i4, k4, ⟨by show -1 ≤ mG m 126 40; have := tv.1; omega, tv.2.1⟩, wf4, ?_, fun j hj => ?_⟩
  · show mG m4 128 0 = 0
    rw [g4 128 0 (by omega)]; exact sv
  · show mG m4 128 j = _
    rw [g4 128 j (by omega)]; exact sj j hj
