/-! ===== the reference's reader: readText, keepText, story, guess ===== -/
theorem TXT.of {M M' : Mem} (h : TXT M) (e40 : mG M' 126 40 = mG M 126 40) (g : ∀ b j : Int, 156 ≤ b → b ≤ 159 → mG M' b j = mG M b j) : TXT M' := by
  obtain ⟨h1, h2, ⟨f, f0, fn, fk⟩, a, a1, a2, a3⟩ := h
  unfold TXT GH VLn
  rw [e40]
  refine ⟨h1, h2, ⟨f, f0, fn, fun k hk => ?_⟩, a, a1, a2, by rw [g 156 _ (by decide) (by decide)]; exact a3⟩
  rw [g 156 _ (by decide) (by decide), g 157 _ (by decide) (by decide), g 158 _ (by decide) (by decide)]
  exact fk k hk
def Z0 (M0 M : Mem) : Prop := ∀ j : Int, mG M 128 j = mG M0 128 j
theorem pt_74 {n : Nat} {M0 : Mem} : ∀ (fu : Nat) (l1 : Int) (M : Mem), (0 ≤ l1 ∧ l1 ≤ 1) → (mG M 126 31 ≤ mG M 126 29) → (mG M 126 34 = 0 ∨ mG M 126 31 < mG M 126 29) → (mG M 126 38 ≤ 420 ∧ (l1 = 1 → mG M 126 38 ≤ mG M 126 31 + 1)) → (mG M 126 40 ≤ 402 ∧ (l1 = 1 → mG M 126 40 ≤ mG M 126 31)) → I n M → (l1 = 1 → PI M) → Z0 M0 M → pw (mX9_readText_74 fu 126 l1 M) (fun q => (q.1 = 1 → TXT q.2) ∧ Z0 M0 q.2) := by
  intro fu
  induction fu with
  | zero => intro l1 M _ _ _ _ _ _ _ _; exact p_none
  | succ fu ih =>
    intro l1 M r1 y1 y2 y3 y4 iM hp hz
    show pw (bX9_readText_74 (mX9_readText_74 fu) 126 l1 M) _
    unfold bX9_readText_74
    have t112 : (l1 = 1 → mG M 126 38 ≤ 0) → pw (mX9_readText_112 126 l1 M) (fun q => (q.1 = 1 → TXT q.2) ∧ Z0 M0 q.2) := by
      intro hw
      have t133 : ∀ (l : Int) (M' : Mem), (l = 0 ∨ (l = 1 ∧ l1 = 1 ∧ M' = M)) → AD M' → Z0 M0 M' → pw (mX9_readText_133 126 l M') (fun q => (q.1 = 1 → TXT q.2) ∧ Z0 M0 q.2) := by
        intro l M' hl a' hz'
        have t150 : ∀ s2 : Int, (l = 0 → ¬ s2 = 0) → (¬ l = 0 → s2 = mG M' 126 36) → pw (mX9_readText_150 126 l 129 0 s2 M') (fun q => (q.1 = 1 → TXT q.2) ∧ Z0 M0 q.2) := by
          intro s2 c1 c2
          have t182 : ∀ (M1 : Mem) (s : Int), M1 = mS M' 129 0 s2 → pw (mX9_readText_182 126 130 0 s M1) (fun q => (q.1 = 1 → TXT q.2) ∧ Z0 M0 q.2) := by
            intro M1 s h1
            unfold mX9_readText_182
            refine p_aS (fun M2 h2 => ?_)
            have a2 : mG M2 126 3 = 129 := by rw [st_ne h2 (fun z => absurd z.1 (by decide)), st_ne h1 (fun z => absurd z.1 (by decide))]; exact a' 3 (by decide)
            refine p_gFc (ji := 3) (r := 129) rfl a2 ?_
            have e : mG M2 129 0 = s2 := by rw [st_ne h2 (fun z => absurd z.1 (by decide)), st_eq h1]
            refine p_aGc e ?_
            have z2 : Z0 M0 M2 := fun j => by rw [st_ne h2 (fun z => absurd z.1 (by decide)), st_ne h1 (fun z => absurd z.1 (by decide))]; exact hz' j
            refine p_if (fun c => p_ret ⟨fun _ => ?_, z2⟩) (fun c => p_ret ⟨fun z => absurd z (show ¬ (0 : Int) = 1 from by decide), z2⟩)
            rcases hl with hl | ⟨hl, hl1, hM⟩
            · exact absurd c (c1 hl)
            · subst hM
              have e2 := c2 (by omega)
              refine ((hp hl1).txt (hw hl1) (by rw [← e2]; exact c)).of ?_ (fun b j b0 b1 => ?_)
              · rw [st_ne h2 (fun z => absurd z.1 (by decide)), st_ne h1 (fun z => absurd z.1 (by decide))]
              · rw [st_ne h2 (fun z => by omega), st_ne h1 (fun z => by omega)]
          unfold mX9_readText_150
          refine p_aS (fun M1 h1 => ?_)
          have a1 : mG M1 126 4 = 130 := by rw [st_ne h1 (fun z => absurd z.1 (by decide))]; exact a' 4 (by decide)
          refine p_gFc (ji := 4) (r := 130) rfl a1 ?_
          refine p_if (fun _ => ?_) (fun _ => ?_)
          · refine p_gF (ji := 35) rfl (fun _ _ => ?_)
            exact t182 _ _ h1
          · refine p_gF (ji := 36) rfl (fun _ _ => ?_)
            refine p_if (fun _ => t182 _ _ h1) (fun _ => ?_)
            refine p_gF (ji := 37) rfl (fun _ _ => ?_)
            exact t182 _ _ h1
        unfold mX9_readText_133
        refine p_gFc (ji := 3) (r := 129) rfl (a' 3 (by decide)) ?_
        refine p_if (fun c => t150 1 (fun _ => by decide) (fun z => absurd c z)) (fun c => ?_)
        refine p_gF (ji := 36) rfl (fun v hv => ?_)
        exact t150 v (fun z => absurd z c) (fun _ => hv.symm)
      unfold mX9_readText_112
      refine p_if (fun c => t133 l1 M (Or.inl c) iM.ad hz) (fun c => ?_)
      refine p_gF (ji := 32) rfl (fun _ _ => ?_)
      refine p_if (fun _ => t133 l1 M (Or.inr ⟨by omega, by omega, rfl⟩) iM.ad hz) (fun _ => ?_)
      refine p_gF (ji := 31) rfl (fun _ _ => ?_)
      refine p_pF (ji := 35) rfl (fun M1 h1 => ?_)
      exact t133 0 M1 (Or.inl rfl) (iM.ad.of (fun j hj => st_ne h1 (fun z => (adc_in hj).1 (by omega)))) (fun j => (st_ne h1 (fun z => absurd z.1 (by decide))).trans (hz j))
    refine p_if (fun c => t112 (fun z => by omega)) (fun c => ?_)
    have l1e : l1 = 1 := by omega
    have hp := hp l1e
    have y3b := y3.2 l1e
    have y4b := y4.2 l1e
    have r31 := rd_Model_31 iM (a := 126) rfl
    refine p_gF (ji := 38) rfl (fun w hw => ?_)
    refine p_if (fun c2 => t112 (fun _ => by rw [hw]; exact c2)) (fun c2 => ?_)
    refine p_gFc (ji := 38) rfl hw ?_
    have ww := wI_id (x := w - 1) (by omega) (by omega)
    rw [ww]
    refine p_pF (ji := 38) rfl (fun M1 h1 => ?_)
    have i1 : I n M1 := wr_Model_38 iM rfl ⟨by omega, by omega⟩ h1
    have g1 : ∀ b j : Int, ¬ (b = 126 ∧ j = 38) → mG M1 b j = mG M b j := fun b j hb => st_ne h1 hb
    have e38 : mG M1 126 38 = w - 1 := st_eq h1
    have e29 : mG M1 126 29 = mG M 126 29 := g1 _ _ (by omega)
    have e31 : mG M1 126 31 = mG M 126 31 := g1 _ _ (by omega)
    have e34 : mG M1 126 34 = mG M 126 34 := g1 _ _ (by omega)
    have e40 : mG M1 126 40 = mG M 126 40 := g1 _ _ (by omega)
    have e36 : mG M1 126 36 = mG M 126 36 := g1 _ _ (by omega)
    refine p_gFc (ji := 39) (r := 155) rfl (i1.ad 39 (by decide)) ?_
    refine p_gFc (ji := 38) rfl e38 ?_
    refine p_aG (fun b hb => ?_)
    have hb : mG M1 155 (w - 1) = b := hb
    have rb : (-2147483648) ≤ b ∧ b ≤ 2147483647 := by rw [← hb]; exact rd_Maround i1 rfl
    refine p_gK ?_
    refine p_call (p_and (p_wp (s_X9_readPart rb rfl (by rw [e29, e31]; exact y1) (by rw [e29, e31, e34]; exact y2) (by omega) (by omega) i1)) (pt_readPart i1.ad (by have := rd_Model_38 i1 (a := 126) rfl; omega) (by have := rd_Model_40 i1 (a := 126) rfl; omega))) ?_
    rintro r M2 ⟨⟨i2, k2, q1, q2, q3, q4, q5, -⟩, rp⟩
    have i2 : I n M2 := i2
    have q1 : 0 ≤ r ∧ r ≤ 1 := q1
    have q2 : mG M1 126 31 ≤ mG M2 126 31 ∧ mG M2 126 31 ≤ mG M2 126 29 ∧ (mG M2 126 34 = 0 ∨ mG M2 126 31 < mG M2 126 29) := q2
    have q3 : r = 1 → mG M1 126 31 < mG M2 126 31 := q3
    have q4 : mG M2 126 38 ≤ mG M1 126 38 + 2 := q4
    have q5 : mG M2 126 40 = mG M1 126 40 + 1 := q5
    dsimp only
    refine ih r M2 q1 q2.2.1 q2.2.2 ⟨by omega, fun z => by have := q3 z; omega⟩ ⟨by omega, fun z => by have := q3 z; omega⟩ i2 (fun z => ?_) ?_
    · exact hp.step (by omega) (fun b j hb => g1 b j (fun z => hb z.1)) (by omega) e40 e36 (by rw [← hb, hw]; exact g1 _ _ (by omega)) rp z
    · obtain ⟨N, n1, -, -, -, -, bk, -⟩ := rp
      intro j
      rw [show mG M2 128 j = mG N 128 j from bk.1 128 j (fun z => by omega) (fun z => by omega) (by decide), n1 128 j (fun z => by omega), g1 128 j (fun z => by omega)]; exact hz j
theorem pt_readText {n : Nat} {M : Mem} (iM : I n M) : pw (mX9_readText 126 M) (fun q => (q.1 = 1 → TXT q.2) ∧ mG q.2 128 0 = 0 ∧ ∀ j : Int, ¬ j = 0 → mG q.2 128 j = mG M 128 j) := by
  unfold mX9_readText
  refine p_gFc (ji := 2) (r := 128) rfl (iM.ad 2 (by decide)) ?_
  refine p_aG (fun v0 hv0 => ?_)
  have rv0 : 0 ≤ v0 ∧ v0 ≤ 400 := by rw [← hv0]; exact rd_Msize iM rfl
  refine p_pF (ji := 30) rfl (fun M1 h1 => ?_)
  have i1 : I n M1 := wr_Model_30 iM rfl rv0 h1
  refine p_gFc (ji := 2) (r := 128) rfl (i1.ad 2 (by decide)) ?_
  refine p_aS (fun M2 h2 => ?_)
  have i2 : I n M2 := wr_Msize i1 rfl (by decide) h2
  refine p_gFc (ji := 3) (r := 129) rfl (i2.ad 3 (by decide)) ?_
  refine p_aS (fun M3 h3 => ?_)
  have i3 : I n M3 := wr_Mfault i2 rfl (by decide) h3
  refine p_gFc (ji := 4) (r := 130) rfl (i3.ad 4 (by decide)) ?_
  refine p_aS (fun M4 h4 => ?_)
  have i4 : I n M4 := wr_MfaultPlace i3 rfl (by decide) h4
  refine p_pF (ji := 29) rfl (fun M5 h5 => ?_)
  have i5 : I n M5 := wr_Model_29 i4 rfl (by decide) h5
  refine p_pF (ji := 35) rfl (fun M6 h6 => ?_)
  have i6 : I n M6 := wr_Model_35 i5 rfl (by decide) h6
  refine p_pF (ji := 36) rfl (fun M7 h7 => ?_)
  have i7 : I n M7 := wr_Model_36 i6 rfl (by decide) h7
  refine p_pF (ji := 37) rfl (fun M8 h8 => ?_)
  have i8 : I n M8 := wr_Model_37 i7 rfl (by decide) h8
  refine p_pF (ji := 38) rfl (fun M9 h9 => ?_)
  have i9 : I n M9 := wr_Model_38 i8 rfl (by decide) h9
  refine p_pF (ji := 40) rfl (fun Ma ha => ?_)
  have ia : I n Ma := wr_Model_40 i9 rfl (by decide) ha
  have e38 : mG Ma 126 38 = 0 := by rw [st_ne ha (fun z => absurd z.2 (by decide)), st_eq h9]
  have e36 : mG Ma 126 36 = 0 := by rw [st_ne ha (fun z => absurd z.2 (by decide)), st_ne h9 (fun z => absurd z.2 (by decide)), st_ne h8 (fun z => absurd z.2 (by decide)), st_eq h7]
  have e40 : mG Ma 126 40 = 0 := st_eq ha
  refine p_gK ?_
  refine p_call (p_and (p_wp (s_X9_wait ⟨by decide, by decide⟩ (by omega) ia)) (pt_wait (p := 0) ia.ad (by omega))) ?_
  rintro v1 mb ⟨⟨ib, -, -⟩, bb, -, f38, f155, f36⟩
  have ib : I n mb := ib
  have bb : BK 0 Ma mb := bb
  have f38 : mG mb 126 38 = mG Ma 126 38 + 1 := f38
  have f155 : mG mb 155 (mG Ma 126 38) = 255 := f155
  have f36 : mG mb 126 36 = mG Ma 126 36 := f36
  rw [e38] at f38 f155
  have f40 : mG mb 126 40 = 0 := (bb.1 126 40 (fun z => by omega) (fun z => by omega) (by decide)).trans e40
  refine p_gK ?_
  refine p_call (p_and (p_wp (s_X9_token ib)) pt_token) ?_
  rintro v2 mc ⟨⟨ic, kc, tc, -⟩, tk⟩
  have ic : I n mc := ic
  have tc : mG mb 126 29 ≤ mG mc 126 31 ∧ mG mc 126 31 ≤ mG mc 126 29 ∧ (mG mc 126 34 = 0 ∨ mG mc 126 31 < mG mc 126 29) := tc
  have tk : TK mb mc := tk
  have kc : Keep n W_X9_token mb mc := kc
  have g36 : mG mc 126 36 = 0 := by
    rw [show mG mc 126 36 = mG mb 126 36 from kc.2.2 126 36 (by have := ic.2.2.2.2.1; omega) (fun z => by unfold W_X9_token at z; omega), f36, e36]
  have g38 : mG mc 126 38 = 1 := (tk.1 126 38 (fun z => by omega)).trans f38
  have g40 : mG mc 126 40 = 0 := (tk.1 126 40 (fun z => by omega)).trans f40
  have g155 : mG mc 155 0 = 255 := (tk.1 155 0 (fun z => by omega)).trans f155
  have r31 := rd_Model_31 ic (a := 126) rfl
  have g128 : Z0 M2 mc := fun j => by
    rw [tk.1 128 j (fun z => by omega), show mG mb 128 j = mG Ma 128 j from bb.1 128 j (fun z => by omega) (fun z => by omega) (by decide), st_ne ha (fun z => absurd z.1 (by decide)), st_ne h9 (fun z => absurd z.1 (by decide)), st_ne h8 (fun z => absurd z.1 (by decide)), st_ne h7 (fun z => absurd z.1 (by decide)), st_ne h6 (fun z => absurd z.1 (by decide)), st_ne h5 (fun z => absurd z.1 (by decide)), st_ne h4 (fun z => absurd z.1 (by decide)), st_ne h3 (fun z => absurd z.1 (by decide))]
  dsimp only
  refine p_mono (pt_74 FU 1 mc ⟨by decide, by decide⟩ tc.2.1 tc.2.2 ⟨by omega, fun _ => by omega⟩ ⟨by omega, fun _ => by omega⟩ ic (fun _ => ?_) g128) (fun q hq => ⟨hq.1, (hq.2 0).trans (st_eq h2), fun j hj => (hq.2 j).trans ((st_ne h2 (fun z => hj z.2)).trans (st_ne h1 (fun z => absurd z.1 (by decide))))⟩)
  unfold PI
  rw [g36, g38, g40, g155]
  refine ⟨by decide, fun _ => ⟨fun _ => 1, rfl, rfl, fun k hk => absurd hk (Nat.not_lt_zero k)⟩, fun z => absurd z (by decide), fun _ => ⟨fun m hm _ => by omega, fun _ => ⟨rfl, by decide, by decide⟩⟩⟩
/-- the text is kept -/
def KT (t u : Int) (M M' : Mem) : Prop := (∀ b, mK M' b = mK M b) ∧ mN M' = mN M ∧ ∀ b j : Int, mG M' b j = if b = 141 ∧ j = t then mG M 126 40 else if 142 ≤ b ∧ b ≤ 145 ∧ 40 * t ≤ j ∧ j < 40 * t + u then mG M (b + 14) (j - 40 * t) else mG M b j
theorem x_keepText {n : Nat} {t : Int} {M : Mem} (r_t : 0 ≤ t ∧ t ≤ 8) (ht : TXT M) (iM : I n M) : wp (mX9_keepText 126 t M) (fun q => I n q.2 ∧ KT t (mG M 126 40) M q.2) := by
  have hn : (169 : Int) ≤ (n : Int) := by have := iM.2.2.2.2.1; omega
  obtain ⟨np1, np2, ⟨g, -, -, gk⟩, -⟩ := ht
  obtain ⟨np, hnp⟩ : ∃ x, mG M 126 40 = x := ⟨_, rfl⟩
  rw [hnp] at np1 np2 gk ⊢
  have w1 := wI_id (x := 40 * t) (by omega) (by omega)
  have key : ∀ (fu : Nat) (l2 : Int) (M' : Mem), 0 ≤ l2 → l2 ≤ np → np - l2 < (fu : Int) → I n M' → KT t l2 M M' → wp (mX9_keepText_12 fu 126 t l2 M') (fun q => I n q.2 ∧ KT t np M q.2) := by
    intro fu
    induction fu with
    | zero => intro l2 M' b0 b1 hf; exfalso; omega
    | succ fu ih =>
      intro l2 M' b0 b1 hf i' k'
      show wp (bX9_keepText_12 (mX9_keepText_12 fu) 126 t l2 M') _
      unfold bX9_keepText_12
      have gl : ∀ b j : Int, ¬ b = 141 → ¬ (142 ≤ b ∧ b ≤ 145) → mG M' b j = mG M b j := fun b j z1 z2 => by rw [k'.2.2, if_neg (fun z => z1 z.1), if_neg (fun z => z2 ⟨z.1, z.2.1⟩)]
      refine w_gFc (ji := 40) rfl (congrArg Prod.fst (kl_126 i')) ((gl 126 40 (by decide) (by decide)).trans hnp) ?_
      refine w_if (fun c => ?_) (fun c => ?_)
      · have e : l2 = np := by omega
        subst e
        exact w_ret ⟨i', k'⟩
      · have w2 := wI_id (x := 40 * t + l2) (by omega) (by omega)
        have w3 := wI_id (x := l2 + 1) (by omega) (by omega)
        rw [w1, w2, w3]
        obtain ⟨-, -, v0, -, -⟩ := gk l2.toNat (by omega)
        rw [show ((l2.toNat : Nat) : Int) = l2 by omega] at v0
        have ra := rd_MnewAct (i := l2) iM (a := 156) rfl
        have ro := rd_MnewOne (i := l2) iM (a := 157) rfl
        have rt := rd_MnewTwo (i := l2) iM (a := 158) rfl
        have rh := rd_MnewThree (i := l2) iM (a := 159) rfl
        refine w_gFc (ji := 16) rfl (congrArg Prod.fst (kl_126 i')) (rd_Model_16 i' rfl) ?_
        refine w_gFc (ji := 41) rfl (congrArg Prod.fst (kl_126 i')) (rd_Model_41 i' rfl) ?_
        refine w_aGc (kl_156 i') (by omega) (by omega) (gl 156 l2 (by decide) (by decide)) ?_
        refine w_aS (kl_142 i') (by omega) (by omega) (fun M1 h1 => ?_)
        have i1 : I n M1 := wr_Mact i' rfl ⟨v0, ra.2⟩ h1
        refine w_gFc (ji := 17) rfl (congrArg Prod.fst (kl_126 i1)) (rd_Model_17 i1 rfl) ?_
        refine w_gFc (ji := 42) rfl (congrArg Prod.fst (kl_126 i1)) (rd_Model_42 i1 rfl) ?_
        refine w_aGc (kl_157 i1) (by omega) (by omega) ((st_ne h1 (fun z => absurd z.1 (by decide))).trans (gl 157 l2 (by decide) (by decide))) ?_
        refine w_aS (kl_143 i1) (by omega) (by omega) (fun M2 h2 => ?_)
        have i2 : I n M2 := wr_Mone i1 rfl ro h2
        refine w_gFc (ji := 18) rfl (congrArg Prod.fst (kl_126 i2)) (rd_Model_18 i2 rfl) ?_
        refine w_gFc (ji := 43) rfl (congrArg Prod.fst (kl_126 i2)) (rd_Model_43 i2 rfl) ?_
        refine w_aGc (kl_158 i2) (by omega) (by omega) ((st_ne h2 (fun z => absurd z.1 (by decide))).trans ((st_ne h1 (fun z => absurd z.1 (by decide))).trans (gl 158 l2 (by decide) (by decide)))) ?_
        refine w_aS (kl_144 i2) (by omega) (by omega) (fun M3 h3 => ?_)
        have i3 : I n M3 := wr_Mtwo i2 rfl rt h3
        refine w_gFc (ji := 19) rfl (congrArg Prod.fst (kl_126 i3)) (rd_Model_19 i3 rfl) ?_
        refine w_gFc (ji := 44) rfl (congrArg Prod.fst (kl_126 i3)) (rd_Model_44 i3 rfl) ?_
        refine w_aGc (kl_159 i3) (by omega) (by omega) ((st_ne h3 (fun z => absurd z.1 (by decide))).trans ((st_ne h2 (fun z => absurd z.1 (by decide))).trans ((st_ne h1 (fun z => absurd z.1 (by decide))).trans (gl 159 l2 (by decide) (by decide))))) ?_
        refine w_aS (kl_145 i3) (by omega) (by omega) (fun M4 h4 => ?_)
        have i4 : I n M4 := wr_Mthree i3 rfl rh h4
        refine ih _ M4 (by omega) (by omega) (by have : ((fu + 1 : Nat) : Int) = (fu : Int) + 1 := rfl; omega) i4 ⟨fun b => ?_, ?_, fun b j => ?_⟩
        · rw [st_k h4, st_k h3, st_k h2, st_k h1]; exact k'.1 b
        · rw [st_n h4, st_n h3, st_n h2, st_n h1]; exact k'.2.1
        · by_cases e : 142 ≤ b ∧ b ≤ 145 ∧ j = 40 * t + l2
          · obtain ⟨e1, e2, e3⟩ := e
            rw [if_neg (fun z => by omega), if_pos (by omega), show j - 40 * t = l2 by omega, e3]
            obtain e | e | e | e : b = 142 ∨ b = 143 ∨ b = 144 ∨ b = 145 := by omega
            · subst e; rw [st_ne h4 (fun z => absurd z.1 (by decide)), st_ne h3 (fun z => absurd z.1 (by decide)), st_ne h2 (fun z => absurd z.1 (by decide)), st_eq h1]; rfl
            · subst e; rw [st_ne h4 (fun z => absurd z.1 (by decide)), st_ne h3 (fun z => absurd z.1 (by decide)), st_eq h2]; rfl
            · subst e; rw [st_ne h4 (fun z => absurd z.1 (by decide)), st_eq h3]; rfl
            · subst e; rw [st_eq h4]; rfl
          · rw [st_ne h4 (fun z => e (by omega)), st_ne h3 (fun z => e (by omega)), st_ne h2 (fun z => e (by omega)), st_ne h1 (fun z => e (by omega)), k'.2.2, hnp]
            by_cases e2 : b = 141 ∧ j = t
            · rw [if_pos e2, if_pos e2]
            · rw [if_neg e2, if_neg e2]
              by_cases e3 : 142 ≤ b ∧ b ≤ 145 ∧ 40 * t ≤ j ∧ j < 40 * t + l2
              · rw [if_pos e3, if_pos (by omega)]
              · rw [if_neg e3, if_neg (fun z => by omega)]
  unfold mX9_keepText
  refine w_gFc (ji := 15) rfl (congrArg Prod.fst (kl_126 iM)) (rd_Model_15 iM rfl) ?_
  refine w_gFc (ji := 40) rfl (congrArg Prod.fst (kl_126 iM)) hnp ?_
  refine w_aS (kl_141 iM) (by omega) (by omega) (fun M1 h1 => ?_)
  have i1 : I n M1 := wr_Mparts iM rfl ⟨by omega, by omega⟩ h1
  refine key FU 0 M1 (by decide) (by omega) (by show _ < (70000 : Int); omega) i1 ⟨fun b => st_k h1 b, st_n h1, fun b j => ?_⟩
  by_cases e : b = 141 ∧ j = t
  · rw [if_pos e, e.1, e.2, st_eq h1, hnp]
  · rw [if_neg e, st_ne h1 e, if_neg (fun z => by omega)]
theorem KT.keep {n : Nat} {t u : Int} {M M' : Mem} {W : Int → Int → Prop} (h : KT t u M M') (hw : ∀ b j, 141 ≤ b → b ≤ 145 → W b j) : Keep n W M M' :=
  ⟨fun b _ => h.1 b, Nat.le_of_eq h.2.1.symm, fun b j _ hn => by rw [h.2.2, if_neg (fun z => hn (hw b j (by omega) (by omega))), if_neg (fun z => hn (hw b j (by omega) (by omega)))]⟩
theorem KT.wft {t : Int} {M M' : Mem} (h : KT t (mG M 126 40) M M') (ht : TXT M) : WFt M' t := by
  obtain ⟨np1, np2, ⟨g, g0, gn, gk⟩, a, a1, a2, a3⟩ := ht
  have e : mG M' 141 t = mG M 126 40 := by rw [h.2.2, if_pos ⟨rfl, rfl⟩]
  have c : ∀ (b : Int) (k : Nat), 142 ≤ b → b ≤ 145 → (k : Int) < mG M 126 40 → mG M' b (40 * t + k) = mG M (b + 14) k := fun b k b0 b1 hk => by
    rw [h.2.2, if_neg (fun z => by omega), if_pos (by omega), show 40 * t + (k : Int) - 40 * t = k by omega]
  unfold WFt VL
  rw [e]
  refine ⟨⟨g, gn, fun k hk => ?_⟩, fun _ => ⟨a, a1, a2, by rw [c 142 a (by decide) (by decide) a2]; exact a3⟩⟩
  rw [c 142 k (by decide) (by decide) hk, c 143 k (by decide) (by decide) hk, c 144 k (by decide) (by decide) hk]
  obtain ⟨x1, x2, x3, x4⟩ := gk k (by omega)
  exact ⟨by show arN (mG M 156 k) ≤ _; omega, by show _ = _ + 1 - arN (mG M 156 k); omega, x4⟩
