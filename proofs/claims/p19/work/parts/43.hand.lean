def W_X9_bringSizes (b j : Int) : Prop := (152 ≤ b ∧ b ≤ 153)
theorem x_sizeOf {n : Nat} {l1 : Int} {M : Mem} (hI : I n M) (h : l1 = -1 ∨ (0 ≤ l1 ∧ l1 ≤ 2)) : wp (mX9_sizeOf 126 l1 M) (fun q => q.2 = M ∧ q.1 = if l1 = -1 then 1 else mG M 152 l1) := by
  unfold mX9_sizeOf
  refine w_if (fun c => ?_) (fun c => ?_)
  · exact w_ret ⟨rfl, by rw [if_pos c]⟩
  · refine w_gFc (ji := 26) rfl (congrArg Prod.fst (kl_126 hI)) (rd_Model_26 hI rfl) ?_
    refine w_aG (kl_152 hI) (by omega) (by omega) (fun a ha => ?_)
    exact w_ret ⟨rfl, by rw [if_neg c]; exact ha.e.symm⟩
theorem x_fs {n : Nat} {Me : Mem} : ∀ (fu : Nat) (l1 : Int) (M : Mem), 0 ≤ l1 → l1 ≤ 4 → NP M → (∀ k : Int, 0 ≤ k → k < 3 → mG M 152 k = mG M 133 k) → (∀ r : Nat, (r : Int) ≤ l1 → mG M 153 r = stF M r) → 5 - l1 < (fu : Int) → I n M → Keep n W_X9_bringSizes Me M → wp (mX9_findStarts_9 fu 126 l1 M) (fun q => I n q.2 ∧ Keep n W_X9_bringSizes Me q.2 ∧ NP q.2 ∧ SF q.2) := by
  intro fu
  induction fu with
  | zero => intro l1 M h0 h1 _ _ _ hf _ _; exfalso; omega
  | succ fu ih =>
    intro l1 M h0 h1 np hn hs hf iM kM
    show wp (bX9_findStarts_9 (mX9_findStarts_9 fu) 126 l1 M) _
    unfold bX9_findStarts_9
    refine w_gFc (ji := 8) rfl (congrArg Prod.fst (kl_126 iM)) (rd_Model_8 iM rfl) ?_
    refine w_aG (kl_134 iM) (by decide) (by decide) (fun a15 h15 => ?_)
    have r15 := h15.tr (P := fun z => 0 ≤ z ∧ z ≤ 4) (rd_Mrelations iM rfl)
    refine w_if (fun c1 => ?_) (fun c1 => ?_)
    · exact w_ret ⟨iM, kM, np, fun r hr => hs r (by rw [h15.e] at hr; omega), hn⟩
    · refine w_gFc (ji := 27) rfl (congrArg Prod.fst (kl_126 iM)) (rd_Model_27 iM rfl) ?_
      refine w_gFc (ji := 27) rfl (congrArg Prod.fst (kl_126 iM)) (rd_Model_27 iM rfl) ?_
      refine w_aG (kl_153 iM) (by omega) (by omega) (fun a31 h31 => ?_)
      have r31 := h31.tr (P := fun z => 0 ≤ z ∧ z ≤ 9 * l1) (rd_Mstart iM rfl (by omega) (by omega))
      refine w_gFc (ji := 9) rfl (congrArg Prod.fst (kl_126 iM)) (rd_Model_9 iM rfl) ?_
      refine w_aG (kl_135 iM) (by omega) (by omega) (fun a38 h38 => ?_)
      have r38 := h38.tr (P := fun z => 0 ≤ z ∧ z ≤ 2) (rd_MfirstKind iM rfl)
      refine w_gK (congrArg Prod.fst (kl_126 iM)) ?_
      refine w_call (x_sizeOf iM (Or.inr r38)) ?_
      rintro v39 m39 ⟨e39, q39⟩
      have e39 : m39 = M := e39
      have q39 : v39 = if a38 = -1 then 1 else mG M 152 a38 := q39
      subst e39
      dsimp only
      refine w_gFc (ji := 10) rfl (congrArg Prod.fst (kl_126 iM)) (rd_Model_10 iM rfl) ?_
      refine w_aG (kl_136 iM) (by omega) (by omega) (fun a48 h48 => ?_)
      have r48 := h48.tr (P := fun z => -1 ≤ z ∧ z ≤ 2) (rd_MsecondKind iM rfl)
      refine w_gK (congrArg Prod.fst (kl_126 iM)) ?_
      refine w_call (x_sizeOf iM (by omega)) ?_
      rintro v49 m49 ⟨e49, q49⟩
      have e49 : m49 = m39 := e49
      have q49 : v49 = if a48 = -1 then 1 else mG m39 152 a48 := q49
      subst e49
      dsimp only
      have b39 : 1 ≤ v39 ∧ v39 ≤ 3 := by
        rw [q39]; split
        · omega
        · exact np a38 (by omega) (by omega)
      have b49 : 1 ≤ v49 ∧ v49 ≤ 3 := by
        rw [q49]; split
        · omega
        · exact np a48 (by omega) (by omega)
      have p := mul_b (x := v39) (y := v49) (a := 3) (b := 3) (by omega) (by omega) (by omega) (by omega)
      have w1 := wI_id (x := v39 * v49) (by omega) (by omega)
      have w2 := wI_id (x := a31 + wI (v39 * v49)) (by omega) (by omega)
      have w3 := wI_id (x := l1 + 1) (by omega) (by omega)
      refine w_aS (kl_153 iM) (by omega) (by omega) (fun M54 hM54 => ?_)
      have g : ∀ b j : Int, b ≠ 153 → mG M54 b j = mG m49 b j := fun b j hb => st_ne hM54 (fun z => hb z.1)
      have iM54 : I n M54 := wr_Mstart iM rfl ⟨by omega, by omega⟩ hM54
      have kM54 : Keep n W_X9_bringSizes Me M54 := kM.st hM54 (Or.inl ⟨by decide, by decide⟩)
      have fS : ∀ r : Nat, stF M54 r = stF m49 r := stF_of (fun j => g _ _ (by decide)) (fun j => g _ _ (by decide)) (fun j => g _ _ (by decide))
      refine ih _ M54 (by omega) (by omega) (NP_of np (fun j => g _ _ (by decide))) (fun k k0 k1 => by rw [g _ _ (by decide), g _ _ (by decide)]; exact hn k k0 k1) (fun r hr => ?_) (by have : ((fu + 1 : Nat) : Int) = (fu : Int) + 1 := rfl; omega) iM54 kM54
      rw [fS]
      by_cases e : (r : Int) = l1 + 1
      · have e2 : r = l1.toNat + 1 := by omega
        have e3 : ((l1.toNat : Nat) : Int) = l1 := by omega
        have q1 : szF m49 a38 = v39 := by rw [q39]; unfold szF; split; rfl; exact (hn a38 (by omega) (by omega)).symm
        have q2 : szF m49 a48 = v49 := by rw [q49]; unfold szF; split; rfl; exact (hn a48 (by omega) (by omega)).symm
        rw [show mG M54 153 (r : Int) = wI (a31 + wI (v39 * v49)) from by rw [show (r : Int) = wI (l1 + 1) by omega]; exact st_eq hM54]
        rw [e2]
        show _ = stF m49 l1.toNat + szF m49 (mG m49 135 (l1.toNat : Int)) * szF m49 (mG m49 136 (l1.toNat : Int))
        rw [← hs l1.toNat (by omega), e3, h31.e, h38.e, h48.e, q1, q2, w2, w1]
      · rw [st_ne hM54 (fun z => e (by rw [z.2, w3]))]
        exact hs r (by omega)
theorem s_X9_bringSizes {n : Nat} {M : Mem} (iM : I n M) : wp (mX9_bringSizes 126 M) (fun q => I n q.2 ∧ Keep n W_X9_bringSizes M q.2 ∧ (NP q.2) ∧ (SF q.2) ∧ True) := by
  have key : ∀ (fu : Nat) (l1 : Int) (M' : Mem), 0 ≤ l1 → l1 ≤ 3 → (∀ k : Int, 0 ≤ k → k < l1 → mG M' 152 k = mG M' 133 k) → 4 - l1 < (fu : Int) → I n M' → Keep n W_X9_bringSizes M M' → wp (mX9_bringSizes_2 fu 126 l1 M') (fun q => I n q.2 ∧ Keep n W_X9_bringSizes M q.2 ∧ NP q.2 ∧ SF q.2) := by
    intro fu
    induction fu with
    | zero => intro l1 M' h0 h1 _ hf _ _; exfalso; omega
    | succ fu ih =>
      intro l1 M' h0 h1 hn hf iM' kM'
      show wp (bX9_bringSizes_2 (mX9_bringSizes_2 fu) 126 l1 M') _
      unfold bX9_bringSizes_2
      refine w_if (fun c1 => ?_) (fun c1 => ?_)
      · refine w_gK (congrArg Prod.fst (kl_126 iM')) ?_
        have np : NP M' := fun k k0 k1 => by
          rw [hn k k0 (by omega)]
          have r := rd_Msizes (i := k) iM' (a := 133) rfl
          exact ⟨r.2.2 k0 k1, r.2.1⟩
        refine w_call (P := fun q => I n q.2 ∧ Keep n W_X9_bringSizes M q.2 ∧ NP q.2 ∧ SF q.2) ?_ ?_
        · unfold mX9_findStarts
          refine w_gFc (ji := 27) rfl (congrArg Prod.fst (kl_126 iM')) (rd_Model_27 iM' rfl) ?_
          refine w_aS (kl_153 iM') (by decide) (by decide) (fun M6 hM6 => ?_)
          have g : ∀ b j : Int, b ≠ 153 → mG M6 b j = mG M' b j := fun b j hb => st_ne hM6 (fun z => hb z.1)
          refine x_fs FU 0 M6 (by decide) (by decide) (NP_of np (fun j => g _ _ (by decide))) (fun k k0 k1 => by rw [g _ _ (by decide), g _ _ (by decide)]; exact hn k k0 (by omega)) (fun r hr => ?_) (by show _ < (70000 : Int); omega) (wr_Mstart iM' rfl ⟨by decide, by decide⟩ hM6) (kM'.st hM6 (Or.inl ⟨by decide, by decide⟩))
          have e : r = 0 := by omega
          subst e
          exact st_eq hM6
        · rintro v m ⟨i1, k1, n1, s1⟩
          exact w_ret ⟨i1, k1, n1, s1⟩
      · refine w_gFc (ji := 26) rfl (congrArg Prod.fst (kl_126 iM')) (rd_Model_26 iM' rfl) ?_
        refine w_gFc (ji := 7) rfl (congrArg Prod.fst (kl_126 iM')) (rd_Model_7 iM' rfl) ?_
        refine w_aG (kl_133 iM') (by omega) (by omega) (fun a17 h17 => ?_)
        have r17 := h17.tr (P := fun z => 0 ≤ z ∧ z ≤ 3 ∧ (0 ≤ l1 → l1 < 3 → 1 ≤ z)) (rd_Msizes iM' rfl)
        refine w_aS (kl_152 iM') (by omega) (by omega) (fun M18 hM18 => ?_)
        have w3 := wI_id (x := l1 + 1) (by omega) (by omega)
        refine ih _ M18 (by omega) (by omega) (fun k k0 k1 => ?_) (by have : ((fu + 1 : Nat) : Int) = (fu : Int) + 1 := rfl; omega) (wr_Mnow iM' rfl ⟨by omega, by omega⟩ hM18) (kM'.st hM18 (Or.inl ⟨by decide, by decide⟩))
        rw [st_ne hM18 (b := 133) (fun z => absurd z.1 (by decide))]
        by_cases e : k = l1
        · subst e
          rw [st_eq hM18]; exact h17.e.symm
        · rw [st_ne hM18 (fun z => e z.2)]
          exact hn k k0 (by omega)
  unfold mX9_bringSizes
  refine w_mono (key FU 0 M (by decide) (by decide) (fun k k0 k1 => by omega) (by show _ < (70000 : Int); omega) iM Keep.rf) ?_
  rintro q ⟨i1, k1, n1, s1⟩
  exact ⟨i1, k1, n1, s1, trivial⟩
theorem x_in {a b c : Int} {M : Mem} : wp (mX9_in a b c M) (fun q => q.2 = M ∧ ((q.1 = 1 ∧ b ≤ a ∧ a ≤ c) ∨ (q.1 = 0 ∧ ¬ (b ≤ a ∧ a ≤ c)))) := by
  unfold mX9_in
  refine w_if (fun c1 => ?_) (fun c1 => ?_)
  · exact w_ret ⟨rfl, Or.inr ⟨rfl, by omega⟩⟩
  · refine w_if (fun c2 => ?_) (fun c2 => ?_)
    · exact w_ret ⟨rfl, Or.inr ⟨rfl, by omega⟩⟩
    · exact w_ret ⟨rfl, Or.inl ⟨rfl, by omega, by omega⟩⟩
theorem x_isRel {n : Nat} {l1 : Int} {M : Mem} (hI : I n M) : wp (mX9_isRelation 126 l1 M) (fun q => q.2 = M ∧ ((q.1 = 1 ∧ 0 ≤ l1 ∧ l1 < mG M 134 0) ∨ (q.1 = 0 ∧ ¬ (0 ≤ l1 ∧ l1 < mG M 134 0)))) := by
  unfold mX9_isRelation
  refine w_gFc (ji := 8) rfl (congrArg Prod.fst (kl_126 hI)) (rd_Model_8 hI rfl) ?_
  refine w_aG (kl_134 hI) (by decide) (by decide) (fun a7 h7 => ?_)
  have r7 := h7.tr (P := fun z => 0 ≤ z ∧ z ≤ 4) (rd_Mrelations hI rfl)
  have w := wI_id (x := a7 - 1) (by omega) (by omega)
  refine w_call x_in ?_
  rintro v m ⟨e, h⟩
  have e : m = M := e
  have h : (v = 1 ∧ 0 ≤ l1 ∧ l1 ≤ wI (a7 - 1)) ∨ (v = 0 ∧ ¬ (0 ≤ l1 ∧ l1 ≤ wI (a7 - 1))) := h
  subst e
  dsimp only
  refine w_zR (by omega) (fun z hz => ?_)
  refine w_ret ⟨rfl, ?_⟩
  show (z = 1 ∧ 0 ≤ l1 ∧ l1 < mG m 134 0) ∨ (z = 0 ∧ ¬ (0 ≤ l1 ∧ l1 < mG m 134 0))
  rw [h7.e]
  omega
theorem szF_nn {n : Nat} {M : Mem} (hI : I n M) (k : Int) : 0 ≤ szF M k := by
  unfold szF; split
  · decide
  · exact (rd_Msizes (i := k) hI (a := 133) rfl).1
theorem stF_up {n : Nat} {M : Mem} (hI : I n M) (r : Nat) : ∀ d : Nat, stF M r ≤ stF M (r + d) := by
  intro d
  induction d with
  | zero => exact Int.le_refl _
  | succ d ih =>
    have p := Int.mul_nonneg (szF_nn hI (mG M 135 ((r + d : Nat) : Int))) (szF_nn hI (mG M 136 ((r + d : Nat) : Int)))
    show stF M r ≤ stF M (r + d) + szF M (mG M 135 ((r + d : Nat) : Int)) * szF M (mG M 136 ((r + d : Nat) : Int))
    omega
theorem FB_neg {n : Nat} {M : Mem} (hI : I n M) : FB M (-1) := by
  have h := stF_up hI 0 (mG M 134 0).toNat
  rw [Nat.zero_add] at h
  have : stF M 0 = 0 := rfl
  unfold FB; omega
theorem x_factAt {n : Nat} {l1 l2 l3 : Int} {M : Mem} (h0 : 0 ≤ l1) (h1 : l1 < mG M 134 0) (np : NP M) (sf : SF M) (hI : I n M) : wp (mX9_factAt 126 l1 l2 l3 M) (fun q => q.2 = M ∧ (-1 ≤ q.1 ∧ q.1 ≤ 35) ∧ FB M q.1) := by
  have rr := rd_Mrelations (i := 0) hI (a := 134) rfl
  have key : ∀ b : Int, wp (mX9_factAt_15 126 l1 l2 b M) (fun q => q.2 = M ∧ (-1 ≤ q.1 ∧ q.1 ≤ 35) ∧ FB M q.1) := by
    intro b
    unfold mX9_factAt_15
    refine w_gFc (ji := 9) rfl (congrArg Prod.fst (kl_126 hI)) (rd_Model_9 hI rfl) ?_
    refine w_aG (kl_135 hI) (by omega) (by omega) (fun a25 h25 => ?_)
    have r25 := h25.tr (P := fun z => 0 ≤ z ∧ z ≤ 2) (rd_MfirstKind hI rfl)
    refine w_gK (congrArg Prod.fst (kl_126 hI)) ?_
    refine w_call (x_sizeOf hI (Or.inr r25)) ?_
    rintro v26 m26 ⟨e26, q26⟩
    have e26 : m26 = M := e26
    have q26 : v26 = if a25 = -1 then 1 else mG M 152 a25 := q26
    subst e26
    dsimp only
    have b26 : 1 ≤ v26 ∧ v26 ≤ 3 := by
      rw [q26]; split
      · omega
      · exact np a25 (by omega) (by omega)
    have w26 := wI_id (x := v26 - 1) (by omega) (by omega)
    refine w_call x_in ?_
    rintro v31 m31 ⟨e31, q31⟩
    have e31 : m31 = m26 := e31
    have q31 : (v31 = 1 ∧ 0 ≤ l2 ∧ l2 ≤ wI (v26 - 1)) ∨ (v31 = 0 ∧ ¬ (0 ≤ l2 ∧ l2 ≤ wI (v26 - 1))) := q31
    subst e31
    dsimp only
    refine w_if (fun c1 => ?_) (fun c1 => ?_)
    · exact w_ret ⟨rfl, (show (-1 : Int) ≤ -1 ∧ (-1 : Int) ≤ 35 from by decide), FB_neg hI⟩
    · refine w_gFc (ji := 10) rfl (congrArg Prod.fst (kl_126 hI)) (rd_Model_10 hI rfl) ?_
      refine w_aG (kl_136 hI) (by omega) (by omega) (fun a46 h46 => ?_)
      have r46 := h46.tr (P := fun z => -1 ≤ z ∧ z ≤ 2) (rd_MsecondKind hI rfl)
      refine w_gK (congrArg Prod.fst (kl_126 hI)) ?_
      refine w_call (x_sizeOf hI (by omega)) ?_
      rintro v47 m47 ⟨e47, q47⟩
      have e47 : m47 = m31 := e47
      have q47 : v47 = if a46 = -1 then 1 else mG m31 152 a46 := q47
      subst e47
      dsimp only
      have b47 : 1 ≤ v47 ∧ v47 ≤ 3 := by
        rw [q47]; split
        · omega
        · exact np a46 (by omega) (by omega)
      have w47 := wI_id (x := v47 - 1) (by omega) (by omega)
      refine w_call x_in ?_
      rintro v52 m52 ⟨e52, q52⟩
      have e52 : m52 = m47 := e52
      have q52 : (v52 = 1 ∧ 0 ≤ b ∧ b ≤ wI (v47 - 1)) ∨ (v52 = 0 ∧ ¬ (0 ≤ b ∧ b ≤ wI (v47 - 1))) := q52
      subst e52
      dsimp only
      refine w_if (fun c2 => ?_) (fun c2 => ?_)
      · exact w_ret ⟨rfl, (show (-1 : Int) ≤ -1 ∧ (-1 : Int) ≤ 35 from by decide), FB_neg hI⟩
      · refine w_gFc (ji := 27) rfl (congrArg Prod.fst (kl_126 hI)) (rd_Model_27 hI rfl) ?_
        refine w_aG (kl_153 hI) (by omega) (by omega) (fun a63 h63 => ?_)
        have r63 := h63.tr (P := fun z => 0 ≤ z ∧ z ≤ 9 * l1) (rd_Mstart hI rfl (by omega) (by omega))
        refine w_gFc (ji := 10) rfl (congrArg Prod.fst (kl_126 hI)) (rd_Model_10 hI rfl) ?_
        refine w_aGc (kl_136 hI) (by omega) (by omega) h46.e ?_
        refine w_gK (congrArg Prod.fst (kl_126 hI)) ?_
        refine w_call (x_sizeOf hI (by omega)) ?_
        rintro v71 m71 ⟨e71, q71⟩
        have e71 : m71 = m52 := e71
        have q71 : v71 = if a46 = -1 then 1 else mG m52 152 a46 := q71
        subst e71
        dsimp only
        have e9 : v71 = v47 := by rw [q71, q47]
        subst e9
        have p := mul_b (x := v71) (y := l2) (a := 3) (b := 2) (by omega) (by omega) (by omega) (by omega)
        have w1 := wI_id (x := v71 * l2) (by omega) (by omega)
        have w2 := wI_id (x := a63 + wI (v71 * l2)) (by omega) (by omega)
        have w3 := wI_id (x := wI (a63 + wI (v71 * l2)) + b) (by omega) (by omega)
        have l3 : ((l1.toNat : Nat) : Int) = l1 := by omega
        have s1 := sf.1 l1.toNat (by omega)
        rw [l3, h63.e] at s1
        have s2 : stF m71 (l1.toNat + 1) = stF m71 l1.toNat + szF m71 (mG m71 135 (l1.toNat : Int)) * szF m71 (mG m71 136 (l1.toNat : Int)) := rfl
        have q1 : szF m71 a25 = v26 := by rw [q26]; unfold szF; split; rfl; exact (sf.2 a25 (by omega) (by omega)).symm
        have q2 : szF m71 a46 = v71 := by rw [q71]; unfold szF; split; rfl; exact (sf.2 a46 (by omega) (by omega)).symm
        rw [l3, h25.e, h46.e, q1, q2] at s2
        have up := stF_up hI (l1.toNat + 1) ((mG m71 134 0).toNat - (l1.toNat + 1))
        rw [show l1.toNat + 1 + ((mG m71 134 0).toNat - (l1.toNat + 1)) = (mG m71 134 0).toNat by omega] at up
        have m1 : v71 * (l2 + 1) ≤ v71 * v26 := Int.mul_le_mul_of_nonneg_left (by omega) (by omega)
        rw [Int.mul_add, Int.mul_comm v71 v26] at m1
        refine w_ret ⟨rfl, ⟨by show -1 ≤ wI (wI (a63 + wI (v71 * l2)) + b); omega, by show wI (wI (a63 + wI (v71 * l2)) + b) ≤ 35; omega⟩, ?_⟩
        show wI (wI (a63 + wI (v71 * l2)) + b) < stF m71 (mG m71 134 0).toNat
        omega
  unfold mX9_factAt
  refine w_gFc (ji := 10) rfl (congrArg Prod.fst (kl_126 hI)) (rd_Model_10 hI rfl) ?_
  refine w_aG (kl_136 hI) (by omega) (by omega) (fun a5 h5 => ?_)
  refine w_if (fun c => ?_) (fun c => ?_)
  · exact key 0
  · exact key l3
def W_X9_copy (b j : Int) : Prop := (127 ≤ b ∧ b ≤ 151)
def W_X5_leadingAlls (b j : Int) : Prop := False
theorem s_X5_leadingAlls {n : Nat} {l0 : Int} {M : Mem} (x_l0 : TX n M l0) (n_l0 : ¬ l0 = 0) (iM : I n M) : wp (mX5_leadingAlls l0 M) (fun q => I n q.2 ∧ Keep n W_X5_leadingAlls M q.2 ∧ (0 ≤ q.1 ∧ q.1 ≤ 4) ∧ (∀ m2 : Nat, TextN M l0 m2 → q.1 ≤ (m2 : Int)) ∧ True) := by
  obtain ⟨q, m, t⟩ := TX.nn x_l0 n_l0
  have hp := tn_p t
  have key : ∀ (fu : Nat) (l1 : Int), 0 ≤ l1 → l1 ≤ 4 → l1 ≤ (m : Int) → 5 - l1 < (fu : Int) → wp (mX5_leadingAlls_2 fu l0 l1 M) (fun q => q.2 = M ∧ 0 ≤ q.1 ∧ q.1 ≤ 4 ∧ q.1 ≤ (m : Int)) := by
    intro fu
    induction fu with
    | zero => intro l1 h0 h1 h2 hf; exfalso; omega
    | succ fu ih =>
      intro l1 h0 h1 h2 hf
      show wp (bX5_leadingAlls_2 (mX5_leadingAlls_2 fu) l0 l1 M) _
      unfold bX5_leadingAlls_2
      refine w_gF (ji := 5) rfl (congrArg Prod.fst (tn_k t)) (fun a4 ha4 => ?_)
      have e4 : mG M l0 5 = a4 := ha4
      refine w_if (fun c1 => ?_) (fun c1 => ?_)
      · exact w_ret ⟨rfl, h0, h1, h2⟩
      · refine w_if (fun c2 => ?_) (fun c2 => ?_)
        · exact w_ret ⟨rfl, h0, h1, h2⟩
        · refine w_gFc (ji := 0) rfl (congrArg Prod.fst (tn_k t)) (tn_0 t) ?_
          refine w_aG (tn_a0 t) h0 (by omega) (fun a20 ha20 => ?_)
          have w1 := wI_id (x := l1 + 1) (by omega) (by omega)
          refine w_if (fun c3 => ?_) (fun c3 => ?_)
          · exact ih _ (by omega) (by omega) (by omega) (by rw [w1]; have : ((fu + 1 : Nat) : Int) = (fu : Int) + 1 := rfl; omega)
          · exact w_ret ⟨rfl, h0, h1, h2⟩
  unfold mX5_leadingAlls
  refine w_mono (key FU 0 (by omega) (by omega) (by omega) (by show _ < (70000 : Int); omega)) ?_
  rintro ⟨r, M'⟩ ⟨h0, h1, h2, h3⟩
  have h0 : M' = M := h0
  subst h0
  exact ⟨iM, Keep.rf, ⟨h1, h2⟩, fun m2 z => by have z1 := (tn_p z).1; have h3 : r ≤ (m : Int) := h3; show r ≤ _; omega, trivial⟩
