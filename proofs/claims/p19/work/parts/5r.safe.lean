def W_X9_breaks (b j : Int) : Prop := (152 ≤ b ∧ b ≤ 154) ∨ (160 ≤ b ∧ b ≤ 161) ∨ (b = 126 ∧ j = 0) ∨ (b = 126 ∧ j = 46)
theorem s_X9_breaks {n : Nat} {l1 l2 : Int} {M : Mem} (r_l1 : (-2147483648) ≤ l1 ∧ l1 ≤ 2147483647) (r_l2 : (-2147483648) ≤ l2 ∧ l2 ≤ 2147483647) (p_WF : WF M) (iM : I n M) : wp (mX9_breaks 126 l1 l2 M) (fun q => I n q.2 ∧ Keep n W_X9_breaks M q.2 ∧ ((-1) ≤ q.1 ∧ q.1 ≤ 2) ∧ True) := by
  have hn : (169 : Int) ≤ (n : Int) := by have := iM.2.2.2.2.1; omega
  have unit : ∀ (a : Int) (M' : Mem), wp (mX9_unit a M') (fun q => q.2 = M' ∧ 1 ≤ q.1 ∧ q.1 ≤ 27) := by
    intro a M'
    unfold mX9_unit
    refine w_if (fun _ => w_ret ⟨rfl, (show (1 : Int) ≤ 1 from by decide), (show (1 : Int) ≤ 27 from by decide)⟩) (fun _ => w_if (fun _ => w_ret ⟨rfl, (show (1 : Int) ≤ 3 from by decide), (show (3 : Int) ≤ 27 from by decide)⟩) (fun _ => w_if (fun _ => w_ret ⟨rfl, (show (1 : Int) ≤ 9 from by decide), (show (9 : Int) ≤ 27 from by decide)⟩) (fun _ => w_ret ⟨rfl, (show (1 : Int) ≤ 27 from by decide), (show (27 : Int) ≤ 27 from by decide)⟩)))
  unfold mX9_breaks
  refine w_pF (ji := 0) rfl (congrArg Prod.fst (kl_126 iM)) (fun M2 hM2 => ?_)
  have iM2 : I n M2 := wr_Model_0 iM rfl ⟨by omega, by omega⟩ hM2
  have kM2 : Keep n W_X9_breaks M M2 := Keep.rf.st hM2 (Or.inl (Or.inr (Or.inr (Or.inl ⟨rfl, rfl⟩))))
  have g2 : ∀ b j : Int, ¬ b = 126 → mG M2 b j = mG M b j := fun b j hb => st_ne hM2 (fun z => hb z.1)
  have wf2 : WF M2 := WF_of p_WF (fun j => g2 _ _ (by decide)) (fun j => g2 _ _ (by decide)) (fun j => g2 _ _ (by decide)) (fun j => g2 _ _ (by decide)) (fun j => g2 _ _ (by decide))
  refine w_gFc (ji := 12) rfl (congrArg Prod.fst (kl_126 iM2)) (rd_Model_12 iM2 rfl) ?_
  refine w_aG (kl_138 iM2) (by decide) (by decide) (fun a12 h12 => ?_)
  have r12 := h12.tr (P := fun z => 0 ≤ z ∧ z ≤ 8) (rd_Mstories iM2 rfl)
  have w12 := wI_id (x := a12 - 1) (by omega) (by omega)
  refine w_call x_in ?_
  rintro v15 m15 ⟨e15, q15⟩
  have e15 : m15 = M2 := e15
  have q15 : (v15 = 1 ∧ 0 ≤ l1 ∧ l1 ≤ wI (a12 - 1)) ∨ (v15 = 0 ∧ ¬ (0 ≤ l1 ∧ l1 ≤ wI (a12 - 1))) := q15
  subst e15
  dsimp only
  refine w_if (fun c => ?_) (fun c => ?_)
  · exact w_ret ⟨iM2, kM2, (show (-1 : Int) ≤ -1 ∧ (-1 : Int) ≤ 2 from by decide), trivial⟩
  have r1 : 0 ≤ l1 ∧ l1 < a12 := by omega
  refine w_gK (congrArg Prod.fst (kl_126 iM2)) ?_
  refine w_call (s_X9_bringWorld iM2) ?_
  rintro v24 m24 ⟨i24, k24, n24, -, -⟩
  have i24 : I n m24 := i24
  have n24 : NP m24 := n24
  have k24 : Keep n W_X9_bringWorld m15 m24 := k24
  dsimp only
  have g24 : ∀ b j : Int, b ≤ 151 → mG m24 b j = mG m15 b j := fun b j hb => k24.2.2 b j (by omega) (fun z => by unfold W_X9_bringWorld at z; omega)
  have wf : WF m24 := WF_of wf2 (fun j => g24 _ _ (by decide)) (fun j => g24 _ _ (by decide)) (fun j => g24 _ _ (by decide)) (fun j => g24 _ _ (by decide)) (fun j => g24 _ _ (by decide))
  have kK : Keep n W_X9_breaks M m24 := kM2.tr k24 (fun b j z => by unfold W_X9_bringWorld at z; exact Or.inl z)
  have hp : 1 ≤ mG m24 141 l1 := by
    have h := wf.2 0 (by decide) (by decide) l1 r1.1 (by rw [g24 _ _ (by decide), h12.e]; exact r1.2)
    rw [show 9 * (0 : Int) + l1 = l1 by omega] at h; exact h
  have wt := wf.1 l1 (by omega) (by omega)
  obtain ⟨a, a4, ap, an⟩ := wt.2 hp
  obtain ⟨h, h0, hk⟩ := wt.1
  have rp : 0 ≤ mG m24 141 l1 ∧ mG m24 141 l1 ≤ 40 := rd_Mparts i24 (a := 141) rfl
  have w40 := wI_id (x := 40 * l1) (by omega) (by omega)
  -- the rows
  have rows : ∀ (M' : Mem) (l3 l4 : Int), I n M' → Keep n W_X9_breaks M M' → NP M' → (∀ b j : Int, b ≤ 151 → ¬ b = 126 → mG M' b j = mG m24 b j) → 0 ≤ l3 → l3 ≤ (a : Int) → (∀ k : Int, 0 ≤ k → k < l3 → mG m24 142 (40 * l1 + k) = 0) → l4 ≤ 81 → 0 ≤ l4 → ∀ (fu : Nat) (l5 : Int), 0 ≤ l5 → l5 ≤ 81 → 82 - l5 < (fu : Int) → wp (mX9_breaks_103 fu 126 l1 l2 l3 l4 l5 M') (fun q => I n q.2 ∧ Keep n W_X9_breaks M q.2 ∧ ((-1) ≤ q.1 ∧ q.1 ≤ 2) ∧ True) := by
    intro M' l3 l4 iM' kM' np gM' l30 l3a hall l481 l40 fu
    induction fu with
    | zero => intro l5 b0 b1 hf; exfalso; omega
    | succ fu ih =>
      intro l5 b0 b1 hf
      show wp (bX9_breaks_103 (mX9_breaks_103 fu) 126 l1 l2 l3 l4 l5 M') _
      unfold bX9_breaks_103
      refine w_if (fun c1 => ?_) (fun c1 => ?_)
      · exact w_ret ⟨iM', kM', (show (-1 : Int) ≤ -1 ∧ (-1 : Int) ≤ 2 from by decide), trivial⟩
      have inner : ∀ (fu2 : Nat) (l6 l7 l8 l9 l10 : Int), -1 ≤ l10 → l10 < l3 → 0 ≤ l6 → l6 ≤ 81 → 0 ≤ l7 → l7 ≤ 54 * (l3 - 1 - l10) → 0 ≤ l8 → l8 ≤ 2 → l10 + 1 < (fu2 : Int) → wp (mX9_breaks_128 (mX9_breaks_103 fu) fu2 126 l1 l2 l3 l4 l5 l6 l7 l8 l9 l10 M') (fun q => I n q.2 ∧ Keep n W_X9_breaks M q.2 ∧ ((-1) ≤ q.1 ∧ q.1 ≤ 2) ∧ True) := by
        intro fu2
        induction fu2 with
        | zero => intro l6 l7 l8 l9 l10 b0 b1 b2 b3 b4 b5 b6 b7 hf; exfalso; omega
        | succ fu2 ih2 =>
          intro l6 l7 l8 l9 l10 b0 b1 b2 b3 b4 b5 b6 b7 hf2
          show wp (bX9_breaks_128 (mX9_breaks_103 fu) (mX9_breaks_128 (mX9_breaks_103 fu) fu2) 126 l1 l2 l3 l4 l5 l6 l7 l8 l9 l10 M') _
          unfold bX9_breaks_128
          refine w_if (fun c2 => ?_) (fun c2 => ?_)
          · refine w_gFc (ji := 45) rfl (congrArg Prod.fst (kl_126 iM')) (rd_Model_45 iM' rfl) ?_
            refine w_aG (kl_160 iM') (by omega) (by omega) (fun a248 h248 => ?_)
            refine w_if (fun c3 => ?_) (fun c3 => ?_)
            · exact w_ret ⟨iM', kM', ⟨by show -1 ≤ l8; omega, b7⟩, trivial⟩
            · have w5 := wI_id (x := l5 + 1) (by omega) (by omega)
              exact ih _ (by omega) (by omega) (by have : ((fu + 1 : Nat) : Int) = (fu : Int) + 1 := rfl; omega)
          · have w2 := wI_id (x := wI (40 * l1) + l10) (by omega) (by omega)
            have w10 := wI_id (x := l10 + (-1)) (by omega) (by omega)
            refine w_some (fun b140 hb140 => ?_)
            have e140 : b140 = 40 * l1 + l10 := by rw [hb140]; omega
            refine w_gFc (ji := 26) rfl (congrArg Prod.fst (kl_126 iM')) (rd_Model_26 iM' rfl) ?_
            refine w_gFc (ji := 18) rfl (congrArg Prod.fst (kl_126 iM')) (rd_Model_18 iM' rfl) ?_
            refine w_aG (kl_144 iM') (by omega) (by omega) (fun a152 h152 => ?_)
            have e152 : a152 = mG m24 144 b140 := by rw [← h152.e]; exact gM' _ _ (by decide) (by decide)
            obtain ⟨-, -, c3⟩ := hk l10.toNat (by omega)
            rw [show ((l10.toNat : Nat) : Int) = l10 by omega, ← e140] at c3
            have z0 := hall l10 (by omega) b1
            rw [← e140] at z0
            have r152 := c3.2 (by rw [z0]; decide)
            rw [← e152] at r152
            refine w_aG (kl_152 iM') (by omega) (by omega) (fun a153 h153 => ?_)
            have r153 := h153.tr (P := fun z => 1 ≤ z ∧ z ≤ 3) (np a152 (by omega) (by omega))
            refine w_dM (by omega) (fun a160 h160 => ?_)
            have e160 : a160 = l6 % a153 := h160.trans (irem_e (by omega) (by omega) (by omega) (by omega))
            have r160 : 0 ≤ a160 ∧ a160 < a153 := by rw [e160]; exact ⟨Int.emod_nonneg _ (by omega), Int.emod_lt_of_pos _ (by omega)⟩
            refine w_dQ (by omega) (fun a167 h167 => ?_)
            have e167 : a167 = l6 / a153 := h167.trans (idiv_e (by omega) (by omega) (by omega) (by omega))
            have r167 : 0 ≤ a167 ∧ a167 ≤ l6 := by rw [e167]; exact ⟨Int.ediv_nonneg (by omega) (by omega), Int.ediv_le_self _ (by omega)⟩
            refine w_gFc (ji := 17) rfl (congrArg Prod.fst (kl_126 iM')) (rd_Model_17 iM' rfl) ?_
            refine w_aG (kl_143 iM') (by omega) (by omega) (fun a180 h180 => ?_)
            have tail : ∀ s1 : Int, 0 ≤ s1 → s1 ≤ 54 → wp (mX9_breaks_204 (mX9_breaks_103 fu) (mX9_breaks_128 (mX9_breaks_103 fu) fu2) 126 l1 l2 l3 l4 l5 a167 l8 l9 l10 b140 a160 l7 s1 M') (fun q => I n q.2 ∧ Keep n W_X9_breaks M q.2 ∧ ((-1) ≤ q.1 ∧ q.1 ≤ 2) ∧ True) := by
              intro s1 s10 s11
              have w7 := wI_id (x := l7 + s1) (by omega) (by omega)
              unfold mX9_breaks_204
              refine w_gFc (ji := 17) rfl (congrArg Prod.fst (kl_126 iM')) (rd_Model_17 iM' rfl) ?_
              refine w_aG (kl_143 iM') (by omega) (by omega) (fun a216 h216 => ?_)
              unfold mX9_breaks_234
              have hfu : ((fu2 + 1 : Nat) : Int) = (fu2 : Int) + 1 := rfl
              refine w_if (fun c3 => ?_) (fun c3 => ?_)
              · exact ih2 _ _ _ _ _ (by omega) (by omega) (by omega) (by omega) (by omega) (by omega) (by omega) (by omega) (by omega)
              · exact ih2 _ _ _ _ _ (by omega) (by omega) (by omega) (by omega) (by omega) (by omega) (by omega) (by omega) (by omega)
            refine w_if (fun c3 => ?_) (fun c3 => ?_)
            · refine w_gFc (ji := 17) rfl (congrArg Prod.fst (kl_126 iM')) (rd_Model_17 iM' rfl) ?_
              refine w_aG (kl_143 iM') (by omega) (by omega) (fun a195 h195 => ?_)
              refine w_call (unit a195 M') ?_
              rintro v196 m196 ⟨e196, q196⟩
              have e196 : m196 = M' := e196
              have q196 : 1 ≤ v196 ∧ v196 ≤ 27 := q196
              subst e196
              dsimp only
              have p := mul_b (x := a160) (y := v196) (a := 2) (b := 27) (by omega) (by omega) (by omega) (by omega)
              have w8 := wI_id (x := a160 * v196) (by omega) (by omega)
              exact tail _ (by omega) (by omega)
            · exact tail 0 (by decide) (by decide)
      have w3 := wI_id (x := l3 - 1) (by omega) (by omega)
      exact inner FU l5 0 0 0 _ (by omega) (by omega) b0 b1 (by decide) (by omega) (by decide) (by decide) (by show _ < (70000 : Int); omega)
  -- the leading alls
  have lead : ∀ (fu : Nat) (l3 l4 : Int), 0 ≤ l3 → l3 ≤ (a : Int) → (∀ k : Int, 0 ≤ k → k < l3 → mG m24 142 (40 * l1 + k) = 0) → ((l3 = 0 ∧ l4 = 1) ∨ (l3 = 1 ∧ 0 ≤ l4 ∧ l4 ≤ 3) ∨ (l3 = 2 ∧ 0 ≤ l4 ∧ l4 ≤ 9) ∨ (l3 = 3 ∧ 0 ≤ l4 ∧ l4 ≤ 27) ∨ (l3 = 4 ∧ 0 ≤ l4 ∧ l4 ≤ 81)) → 5 - l3 < (fu : Int) → wp (mX9_breaks_32 fu 126 l1 l2 l3 l4 m24) (fun q => I n q.2 ∧ Keep n W_X9_breaks M q.2 ∧ ((-1) ≤ q.1 ∧ q.1 ≤ 2) ∧ True) := by
    intro fu
    induction fu with
    | zero => intro l3 l4 b0 b1 hall b2 hf; exfalso; omega
    | succ fu ih =>
      intro l3 l4 b0 b1 hall b2 hf
      show wp (bX9_breaks_32 (mX9_breaks_32 fu) 126 l1 l2 l3 l4 m24) _
      unfold bX9_breaks_32
      have w2 := wI_id (x := wI (40 * l1) + l3) (by omega) (by omega)
      have e2 : wI (wI (40 * l1) + l3) = 40 * l1 + l3 := by omega
      rw [e2]
      refine w_gFc (ji := 16) rfl (congrArg Prod.fst (kl_126 i24)) (rd_Model_16 i24 rfl) ?_
      refine w_aG (kl_142 i24) (by omega) (by omega) (fun a42 h42 => ?_)
      have e42 : mG m24 142 (40 * l1 + l3) = a42 := h42.e
      refine w_if (fun c1 => ?_) (fun c1 => ?_)
      · refine w_gFc (ji := 26) rfl (congrArg Prod.fst (kl_126 i24)) (rd_Model_26 i24 rfl) ?_
        refine w_gFc (ji := 18) rfl (congrArg Prod.fst (kl_126 i24)) (rd_Model_18 i24 rfl) ?_
        refine w_aG (kl_144 i24) (by omega) (by omega) (fun a62 h62 => ?_)
        obtain ⟨-, -, c3⟩ := hk l3.toNat (by omega)
        rw [show ((l3.toNat : Nat) : Int) = l3 by omega] at c3
        have r62 := c3.2 (by rw [e42, c1]; decide)
        rw [h62.e] at r62
        refine w_aG (kl_152 i24) (by omega) (by omega) (fun a63 h63 => ?_)
        have r63 := h63.tr (P := fun z => 1 ≤ z ∧ z ≤ 3) (n24 a62 (by omega) (by omega))
        have ne : ¬ l3 = (a : Int) := fun z => an (by rw [← z, e42, c1])
        have p := mul_b (x := l4) (y := a63) (a := 81) (b := 3) (by omega) (by omega) (by omega) (by omega)
        have p3 := mul_3 (x := l4) (y := a63) (by omega) (by omega)
        have w4 := wI_id (x := l4 * a63) (by omega) (by omega)
        have w3 := wI_id (x := l3 + 1) (by omega) (by omega)
        refine ih _ _ (by omega) (by omega) (fun k k0 k1 => ?_) (by omega) (by have : ((fu + 1 : Nat) : Int) = (fu : Int) + 1 := rfl; omega)
        by_cases e : k = l3
        · rw [e, e42]; exact c1
        · exact hall k k0 (by omega)
      · refine w_call x_in ?_
        rintro v78 m78 ⟨e78, -⟩
        have e78 : m78 = m24 := e78
        subst e78
        dsimp only
        refine w_if (fun c2 => ?_) (fun c2 => ?_)
        · exact w_ret ⟨i24, kK, (show (-1 : Int) ≤ -1 ∧ (-1 : Int) ≤ 2 from by decide), trivial⟩
        refine w_gK (congrArg Prod.fst (kl_126 i24)) ?_
        refine w_call (s_X9_means ⟨by omega, by omega⟩ n24 wf i24) ?_
        rintro v86 m86 ⟨i86, k86, -⟩
        have i86 : I n m86 := i86
        have k86 : Keep n W_X9_means m78 m86 := k86
        dsimp only
        have g86 : ∀ b j : Int, b ≤ 159 → ¬ b = 126 → mG m86 b j = mG m78 b j := fun b j hb hc => k86.2.2 b j (by omega) (fun z => by unfold W_X9_means at z; omega)
        have kK86 : Keep n W_X9_breaks M m86 := kK.tr k86 (fun b j z => by unfold W_X9_means at z; unfold W_X9_breaks; omega)
        refine w_if (fun c3 => ?_) (fun c3 => ?_)
        · refine w_gK (congrArg Prod.fst (kl_126 i86)) ?_
          have np86 : NP m86 := NP_of n24 (fun j => g86 _ _ (by decide) (by decide))
          have wf86 : WF m86 := WF_of wf (fun j => g86 _ _ (by decide) (by decide)) (fun j => g86 _ _ (by decide) (by decide)) (fun j => g86 _ _ (by decide) (by decide)) (fun j => g86 _ _ (by decide) (by decide)) (fun j => g86 _ _ (by decide) (by decide))
          refine w_call (s_X9_work ⟨by omega, by omega⟩ ⟨by omega, by omega⟩ np86 wf86 i86) ?_
          rintro v97 m97 ⟨i97, k97, -⟩
          have i97 : I n m97 := i97
          have k97 : Keep n W_X9_work m86 m97 := k97
          dsimp only
          have g97 : ∀ b j : Int, b ≤ 159 → ¬ b = 126 → mG m97 b j = mG m78 b j := fun b j hb hc => (k97.2.2 b j (by omega) (fun z => by unfold W_X9_work at z; omega)).trans (g86 b j hb hc)
          exact rows m97 l3 l4 i97 (kK86.tr k97 (fun b j z => by unfold W_X9_work at z; unfold W_X9_breaks; omega)) (NP_of n24 (fun j => g97 _ _ (by decide) (by decide))) (fun b j hb hc => g97 b j (by omega) hc) b0 b1 hall (by omega) (by omega) FU 0 (by decide) (by decide) (by show _ < (70000 : Int); omega)
        · exact w_ret ⟨i86, kK86, (show (-1 : Int) ≤ -1 ∧ (-1 : Int) ≤ 2 from by decide), trivial⟩
  exact lead FU 0 1 (by decide) (by omega) (fun k k0 k1 => by omega) (Or.inl ⟨rfl, rfl⟩) (by show _ < (70000 : Int); omega)
def W_X9_told (b j : Int) : Prop := False
theorem s_X9_told_78 {n : Nat} {Me : Mem} {k30 : Int → Int → Int → Int → Mem → Option (Int × Mem)} {fu30 : Nat} (hk30 : ∀ (l1 l2 l3 : Int) (M : Mem), (0 ≤ l1 ∧ l1 ≤ 999) → (0 ≤ l2 ∧ l2 ≤ 4095) → (0 ≤ l3 ∧ l3 ≤ 8) → 9 - l3 < (fu30 : Int) → I n M → Keep n W_X9_told Me M → wp (k30 126 l1 l2 l3 M) (fun q => I n q.2 ∧ Keep n W_X9_told Me q.2 ∧ (0 ≤ q.1 ∧ q.1 ≤ 4095) ∧ True)) {l1 l3 s0 s1 : Int} {M : Mem} (r_l1 : 0 ≤ l1 ∧ l1 ≤ 999) (r_l3 : 0 ≤ l3 ∧ l3 ≤ 7) (r_s0 : 0 ≤ s0 ∧ s0 ≤ 4095) (r_s1 : 0 ≤ s1 ∧ s1 ≤ 128) (hf30 : 9 - l3 < (fu30 : Int) + 1) (iM : I n M) (kM : Keep n W_X9_told Me M) : wp (mX9_told_78 k30 126 l1 l3 s0 s1 M) (fun q => I n q.2 ∧ Keep n W_X9_told Me q.2 ∧ (0 ≤ q.1 ∧ q.1 ≤ 4095) ∧ True) := by
  have hn : (169 : Int) ≤ (n : Int) := by have := iM.2.2.2.2.1; omega
  unfold mX9_told_78
  have w1_ := ior_b (x := s0) (y := s1) (k := 12) (by decide) (by omega) (by omega) (by omega) (by omega)
  have w2_ := wI_id (x := (l3 + 1)) (by omega) (by omega)
  exact hk30 _ _ _ _ ⟨by omega, by omega⟩ ⟨by omega, by omega⟩ ⟨by omega, by omega⟩ (by omega) iM kM
theorem s_X9_told_77 {n : Nat} {Me : Mem} {k30 : Int → Int → Int → Int → Mem → Option (Int × Mem)} {fu30 : Nat} (hk30 : ∀ (l1 l2 l3 : Int) (M : Mem), (0 ≤ l1 ∧ l1 ≤ 999) → (0 ≤ l2 ∧ l2 ≤ 4095) → (0 ≤ l3 ∧ l3 ≤ 8) → 9 - l3 < (fu30 : Int) → I n M → Keep n W_X9_told Me M → wp (k30 126 l1 l2 l3 M) (fun q => I n q.2 ∧ Keep n W_X9_told Me q.2 ∧ (0 ≤ q.1 ∧ q.1 ≤ 4095) ∧ True)) {l1 l3 s0 : Int} {M : Mem} (r_l1 : 0 ≤ l1 ∧ l1 ≤ 999) (r_l3 : 0 ≤ l3 ∧ l3 ≤ 7) (r_s0 : 0 ≤ s0 ∧ s0 ≤ 4095) (hf30 : 9 - l3 < (fu30 : Int) + 1) (iM : I n M) (kM : Keep n W_X9_told Me M) : wp (mX9_told_77 k30 126 l1 l3 s0 M) (fun q => I n q.2 ∧ Keep n W_X9_told Me q.2 ∧ (0 ≤ q.1 ∧ q.1 ≤ 4095) ∧ True) := by
  have hn : (169 : Int) ≤ (n : Int) := by have := iM.2.2.2.2.1; omega
  unfold mX9_told_77
  exact s_X9_told_78 hk30 ⟨by omega, by omega⟩ ⟨by omega, by omega⟩ ⟨by omega, by omega⟩ ⟨by omega, by omega⟩ (by omega) iM kM
theorem s_X9_told_71 {n : Nat} {Me : Mem} {k30 : Int → Int → Int → Int → Mem → Option (Int × Mem)} {fu30 : Nat} (hk30 : ∀ (l1 l2 l3 : Int) (M : Mem), (0 ≤ l1 ∧ l1 ≤ 999) → (0 ≤ l2 ∧ l2 ≤ 4095) → (0 ≤ l3 ∧ l3 ≤ 8) → 9 - l3 < (fu30 : Int) → I n M → Keep n W_X9_told Me M → wp (k30 126 l1 l2 l3 M) (fun q => I n q.2 ∧ Keep n W_X9_told Me q.2 ∧ (0 ≤ q.1 ∧ q.1 ≤ 4095) ∧ True)) {l1 l3 s0 : Int} {M : Mem} (r_l1 : 0 ≤ l1 ∧ l1 ≤ 999) (r_l3 : 0 ≤ l3 ∧ l3 ≤ 7) (r_s0 : 0 ≤ s0 ∧ s0 ≤ 4095) (hf30 : 9 - l3 < (fu30 : Int) + 1) (iM : I n M) (kM : Keep n W_X9_told Me M) : wp (mX9_told_71 k30 126 l1 l3 s0 M) (fun q => I n q.2 ∧ Keep n W_X9_told Me q.2 ∧ (0 ≤ q.1 ∧ q.1 ≤ 4095) ∧ True) := by
  have hn : (169 : Int) ≤ (n : Int) := by have := iM.2.2.2.2.1; omega
  unfold mX9_told_71
  have w1_ := ishl1_b (k := l3) (B := 7) (by omega) (by omega) (by decide)
  exact s_X9_told_78 hk30 ⟨by omega, by omega⟩ ⟨by omega, by omega⟩ ⟨by omega, by omega⟩ ⟨by omega, by omega⟩ (by omega) iM kM
theorem sb_X9_told_30 {n : Nat} {Me : Mem} {k30 : Int → Int → Int → Int → Mem → Option (Int × Mem)} {fu30 : Nat} (hk30 : ∀ (l1 l2 l3 : Int) (M : Mem), (0 ≤ l1 ∧ l1 ≤ 999) → (0 ≤ l2 ∧ l2 ≤ 4095) → (0 ≤ l3 ∧ l3 ≤ 8) → 9 - l3 < (fu30 : Int) → I n M → Keep n W_X9_told Me M → wp (k30 126 l1 l2 l3 M) (fun q => I n q.2 ∧ Keep n W_X9_told Me q.2 ∧ (0 ≤ q.1 ∧ q.1 ≤ 4095) ∧ True)) {l1 l2 l3 : Int} {M : Mem} (r_l1 : 0 ≤ l1 ∧ l1 ≤ 999) (r_l2 : 0 ≤ l2 ∧ l2 ≤ 4095) (r_l3 : 0 ≤ l3 ∧ l3 ≤ 8) (hf30 : 9 - l3 < (fu30 : Int) + 1) (iM : I n M) (kM : Keep n W_X9_told Me M) : wp (bX9_told_30 k30 126 l1 l2 l3 M) (fun q => I n q.2 ∧ Keep n W_X9_told Me q.2 ∧ (0 ≤ q.1 ∧ q.1 ≤ 4095) ∧ True) := by
  have hn : (169 : Int) ≤ (n : Int) := by have := iM.2.2.2.2.1; omega
  unfold bX9_told_30
  refine w_gFc (ji := 12) rfl (congrArg Prod.fst (kl_126 iM)) (show mG M 126 12 = 138 from rd_Model_12 iM (a := 126) rfl) ?_
  refine w_aG (kl_138 iM) (by decide) (by decide) (fun a36 ha36 => ?_)
  have ra36 : 0 ≤ a36 ∧ a36 ≤ 8 := ha36.tr (P := fun z => 0 ≤ z ∧ z ≤ 8) (rd_Mstories iM rfl)
  refine w_if (fun c1_ => ?_) (fun c1_ => ?_)
  · skip
    exact w_ret ⟨iM, kM, (show 0 ≤ l2 ∧ l2 ≤ 4095 from ⟨by omega, by omega⟩), trivial⟩
  · skip
    refine w_gFc (ji := 13) rfl (congrArg Prod.fst (kl_126 iM)) (show mG M 126 13 = 139 from rd_Model_13 iM (a := 126) rfl) ?_
    refine w_aG (kl_139 iM) (by omega) (by omega) (fun a46 ha46 => ?_)
    have ra46 : 0 ≤ a46 ∧ a46 ≤ 999 := ha46.tr (P := fun z => 0 ≤ z ∧ z ≤ 999) (rd_MstoryDay iM rfl)
    refine w_if (fun c2_ => ?_) (fun c2_ => ?_)
    · skip
      exact s_X9_told_77 hk30 ⟨by omega, by omega⟩ ⟨by omega, by omega⟩ ⟨by omega, by omega⟩ (by omega) iM kM
    · skip
      refine w_gFc (ji := 14) rfl (congrArg Prod.fst (kl_126 iM)) (show mG M 126 14 = 140 from rd_Model_14 iM (a := 126) rfl) ?_
      refine w_aG (kl_140 iM) (by omega) (by omega) (fun a56 ha56 => ?_)
      have ra56 : (-1) ≤ a56 ∧ a56 ≤ 999 := ha56.tr (P := fun z => (-1) ≤ z ∧ z ≤ 999) (rd_MstruckDay iM rfl)
      refine w_if (fun c3_ => ?_) (fun c3_ => ?_)
      · skip
        exact s_X9_told_71 hk30 ⟨by omega, by omega⟩ ⟨by omega, by omega⟩ ⟨by omega, by omega⟩ (by omega) iM kM
      · skip
        refine w_gFc (ji := 14) rfl (congrArg Prod.fst (kl_126 iM)) (show mG M 126 14 = 140 from rd_Model_14 iM (a := 126) rfl) ?_
        refine w_aGc (kl_140 iM) (by omega) (by omega) (show mG M 140 l3 = a56 from (show mG M 140 l3 = a56 from ha56)) ?_
        refine w_if (fun c4_ => ?_) (fun c4_ => ?_)
        · skip
          exact s_X9_told_77 hk30 ⟨by omega, by omega⟩ ⟨by omega, by omega⟩ ⟨by omega, by omega⟩ (by omega) iM kM
        · skip
          exact s_X9_told_71 hk30 ⟨by omega, by omega⟩ ⟨by omega, by omega⟩ ⟨by omega, by omega⟩ (by omega) iM kM
theorem s_X9_told_30 {n : Nat} {Me : Mem} : ∀ (fu : Nat) (l1 l2 l3 : Int) (M : Mem), (0 ≤ l1 ∧ l1 ≤ 999) → (0 ≤ l2 ∧ l2 ≤ 4095) → (0 ≤ l3 ∧ l3 ≤ 8) → 9 - l3 < (fu : Int) → I n M → Keep n W_X9_told Me M → wp (mX9_told_30 fu 126 l1 l2 l3 M) (fun q => I n q.2 ∧ Keep n W_X9_told Me q.2 ∧ (0 ≤ q.1 ∧ q.1 ≤ 4095) ∧ True) := by
  intro fu
  induction fu with
  | zero =>
    intro l1 l2 l3 M r_l1 r_l2 r_l3 hf iM kM
    exfalso
    omega
  | succ fu ih =>
    intro l1 l2 l3 M r_l1 r_l2 r_l3 hf iM kM
    exact sb_X9_told_30 ih r_l1 r_l2 r_l3 (by have e : ((fu + 1 : Nat) : Int) = (fu : Int) + 1 := rfl; rw [e] at hf; exact hf) iM kM
theorem s_X9_told_25 {n : Nat} {Me : Mem} {s0 : Int} {M : Mem} (r_s0 : 0 ≤ s0 ∧ s0 ≤ 999) (iM : I n M) (kM : Keep n W_X9_told Me M) : wp (mX9_told_25 126 s0 M) (fun q => I n q.2 ∧ Keep n W_X9_told Me q.2 ∧ (0 ≤ q.1 ∧ q.1 ≤ 4095) ∧ True) := by
  have hn : (169 : Int) ≤ (n : Int) := by have := iM.2.2.2.2.1; omega
  unfold mX9_told_25
  exact s_X9_told_30 FU _ _ _ _ ⟨by omega, by omega⟩ ⟨by omega, by omega⟩ ⟨by omega, by omega⟩ (by show _ < (70000 : Int); omega) iM kM
theorem s_X9_told {n : Nat} {M : Mem} (iM : I n M) : wp (mX9_told 126 M) (fun q => I n q.2 ∧ Keep n W_X9_told M q.2 ∧ (0 ≤ q.1 ∧ q.1 ≤ 4095) ∧ True) := by
  have hn : (169 : Int) ≤ (n : Int) := by have := iM.2.2.2.2.1; omega
  have kM : Keep n W_X9_told M M := Keep.rf
  unfold mX9_told
  refine w_gFc (ji := 6) rfl (congrArg Prod.fst (kl_126 iM)) (show mG M 126 6 = 132 from rd_Model_6 iM (a := 126) rfl) ?_
  refine w_aG (kl_132 iM) (by decide) (by decide) (fun a5 ha5 => ?_)
  have ra5 : (-1) ≤ a5 ∧ a5 ≤ 999 := ha5.tr (P := fun z => (-1) ≤ z ∧ z ≤ 999) (rd_Mviewed iM rfl)
  refine w_if (fun c1_ => ?_) (fun c1_ => ?_)
  · skip
    refine w_gFc (ji := 5) rfl (congrArg Prod.fst (kl_126 iM)) (show mG M 126 5 = 131 from rd_Model_5 iM (a := 126) rfl) ?_
    refine w_aG (kl_131 iM) (by decide) (by decide) (fun a15 ha15 => ?_)
    have ra15 : 0 ≤ a15 ∧ a15 ≤ 999 := ha15.tr (P := fun z => 0 ≤ z ∧ z ≤ 999) (rd_Mdays iM rfl)
    exact s_X9_told_25 ⟨by omega, by omega⟩ iM kM
  · skip
    refine w_gFc (ji := 6) rfl (congrArg Prod.fst (kl_126 iM)) (show mG M 126 6 = 132 from rd_Model_6 iM (a := 126) rfl) ?_
    refine w_aGc (kl_132 iM) (by omega) (by omega) (show mG M 132 0 = a5 from (show mG M 132 0 = a5 from ha5)) ?_
    exact s_X9_told_25 ⟨by omega, by omega⟩ iM kM
def W_X9_findKnown (b j : Int) : Prop := (b = 126 ∧ j = 49) ∨ (b = 126 ∧ j = 50)
theorem s_X9_findKnown_163 {n : Nat} {Me : Mem} {k43 : Int → Int → Int → Int → Mem → Option (Int × Mem)} {fu43 : Nat} (hk43 : ∀ (l1 l2 l3 : Int) (M : Mem), (0 ≤ l1 ∧ l1 ≤ 999) → (0 ≤ l2 ∧ l2 ≤ 12) → (0 ≤ l3 ∧ l3 ≤ 40) → (F12 M) → (NP M) → 41 - l3 < (fu43 : Int) → I n M → Keep n W_X9_findKnown Me M → wp (k43 126 l1 l2 l3 M) (fun q => I n q.2 ∧ Keep n W_X9_findKnown Me q.2 ∧ True)) {l1 l2 l3 : Int} {M : Mem} (r_l1 : 0 ≤ l1 ∧ l1 ≤ 999) (r_l2 : 0 ≤ l2 ∧ l2 ≤ 12) (r_l3 : 0 ≤ l3 ∧ l3 ≤ 39) (p_F12 : F12 M) (p_NP : NP M) (hf43 : 41 - l3 < (fu43 : Int) + 1) (iM : I n M) (kM : Keep n W_X9_findKnown Me M) : wp (mX9_findKnown_163 k43 126 l1 l2 l3 M) (fun q => I n q.2 ∧ Keep n W_X9_findKnown Me q.2 ∧ True) := by
  have hn : (169 : Int) ≤ (n : Int) := by have := iM.2.2.2.2.1; omega
  unfold mX9_findKnown_163
  have w1_ := wI_id (x := (l3 + 1)) (by omega) (by omega)
  exact hk43 _ _ _ _ ⟨by omega, by omega⟩ ⟨by omega, by omega⟩ ⟨by omega, by omega⟩ p_F12 p_NP (by omega) iM kM
theorem s_X9_findKnown_160 {n : Nat} {Me : Mem} {k43 : Int → Int → Int → Int → Mem → Option (Int × Mem)} {fu43 : Nat} (hk43 : ∀ (l1 l2 l3 : Int) (M : Mem), (0 ≤ l1 ∧ l1 ≤ 999) → (0 ≤ l2 ∧ l2 ≤ 12) → (0 ≤ l3 ∧ l3 ≤ 40) → (F12 M) → (NP M) → 41 - l3 < (fu43 : Int) → I n M → Keep n W_X9_findKnown Me M → wp (k43 126 l1 l2 l3 M) (fun q => I n q.2 ∧ Keep n W_X9_findKnown Me q.2 ∧ True)) {l1 l2 l3 s1 : Int} {M : Mem} (r_l1 : 0 ≤ l1 ∧ l1 ≤ 999) (r_l2 : 0 ≤ l2 ∧ l2 ≤ 12) (r_l3 : 0 ≤ l3 ∧ l3 ≤ 39) (r_s1 : (-2147483648) ≤ s1 ∧ s1 ≤ 2147483647) (p_F12 : F12 M) (p_NP : NP M) (hf43 : 41 - l3 < (fu43 : Int) + 1) (iM : I n M) (kM : Keep n W_X9_findKnown Me M) : wp (mX9_findKnown_160 k43 126 l1 l2 l3 126 s1 M) (fun q => I n q.2 ∧ Keep n W_X9_findKnown Me q.2 ∧ True) := by
  have hn : (169 : Int) ≤ (n : Int) := by have := iM.2.2.2.2.1; omega
  unfold mX9_findKnown_160
  refine w_pF (ji := 50) rfl (congrArg Prod.fst (kl_126 iM)) (fun M160 hM160 => ?_)
  replace hM160 : M160 = mS M 126 50 s1 := hM160
  have iM160 : I n M160 := wr_Model_50 iM rfl ⟨by omega, by omega⟩ hM160
  have kM160 : Keep n W_X9_findKnown Me M160 := kM.st hM160 (Or.inl (Or.inr ⟨rfl, rfl⟩))
  have ppF12_M160 : F12 M160 := (F12_of p_F12 (fun j => st_ne hM160 (fun z => ne_fam rfl rfl (by decide) z.1)) (fun j => st_ne hM160 (fun z => ne_fam rfl rfl (by decide) z.1)))
  have ppNP_M160 : NP M160 := (NP_of p_NP (fun j => st_ne hM160 (fun z => ne_fam rfl rfl (by decide) z.1)))
  exact s_X9_findKnown_163 hk43 ⟨by omega, by omega⟩ ⟨by omega, by omega⟩ ⟨by omega, by omega⟩ ppF12_M160 ppNP_M160 (by omega) iM160 kM160
theorem sb_X9_findKnown_43 {n : Nat} {Me : Mem} {k43 : Int → Int → Int → Int → Mem → Option (Int × Mem)} {fu43 : Nat} (hk43 : ∀ (l1 l2 l3 : Int) (M : Mem), (0 ≤ l1 ∧ l1 ≤ 999) → (0 ≤ l2 ∧ l2 ≤ 12) → (0 ≤ l3 ∧ l3 ≤ 40) → (F12 M) → (NP M) → 41 - l3 < (fu43 : Int) → I n M → Keep n W_X9_findKnown Me M → wp (k43 126 l1 l2 l3 M) (fun q => I n q.2 ∧ Keep n W_X9_findKnown Me q.2 ∧ True)) {l1 l2 l3 : Int} {M : Mem} (r_l1 : 0 ≤ l1 ∧ l1 ≤ 999) (r_l2 : 0 ≤ l2 ∧ l2 ≤ 12) (r_l3 : 0 ≤ l3 ∧ l3 ≤ 40) (p_F12 : F12 M) (p_NP : NP M) (hf43 : 41 - l3 < (fu43 : Int) + 1) (iM : I n M) (kM : Keep n W_X9_findKnown Me M) : wp (bX9_findKnown_43 k43 126 l1 l2 l3 M) (fun q => I n q.2 ∧ Keep n W_X9_findKnown Me q.2 ∧ True) := by
  have hn : (169 : Int) ≤ (n : Int) := by have := iM.2.2.2.2.1; omega
  unfold bX9_findKnown_43
  refine w_gFc (ji := 20) rfl (congrArg Prod.fst (kl_126 iM)) (show mG M 126 20 = 146 from rd_Model_20 iM (a := 126) rfl) ?_
  refine w_aG (kl_146 iM) (by decide) (by decide) (fun a49 ha49 => ?_)
  have ra49 : 0 ≤ a49 ∧ a49 ≤ 40 := ha49.tr (P := fun z => 0 ≤ z ∧ z ≤ 40) (rd_Mknowns iM rfl)
  refine w_if (fun c1_ => ?_) (fun c1_ => ?_)
  · skip
    exact w_ret ⟨iM, kM, trivial⟩
  · skip
    refine w_gFc (ji := 21) rfl (congrArg Prod.fst (kl_126 iM)) (show mG M 126 21 = 147 from rd_Model_21 iM (a := 126) rfl) ?_
    refine w_aG (kl_147 iM) (by omega) (by omega) (fun a58 ha58 => ?_)
    have ra58 : 0 ≤ a58 ∧ a58 ≤ 35 := ha58.tr (P := fun z => 0 ≤ z ∧ z ≤ 35) (rd_MknownOf iM rfl)
    refine w_dQ (by omega) (fun a61 ha61 => ?_)
    have ea61 : a61 = a58 / 9 := ha61.trans (idiv_e (by omega) (by omega) (by omega) (by omega))
    refine w_gFc (ji := 21) rfl (congrArg Prod.fst (kl_126 iM)) (show mG M 126 21 = 147 from rd_Model_21 iM (a := 126) rfl) ?_
    refine w_aGc (kl_147 iM) (by omega) (by omega) (show mG M 147 l3 = a58 from (show mG M 147 l3 = a58 from ha58)) ?_
    refine w_dQ (by omega) (fun a74 ha74 => ?_)
    have ea74 : a74 = a58 / 3 := ha74.trans (idiv_e (by omega) (by omega) (by omega) (by omega))
    refine w_dM (by omega) (fun a76 ha76 => ?_)
    have ea76 : a76 = a74 % 3 := ha76.trans (irem_e (by omega) (by omega) (by omega) (by omega))
    refine w_gFc (ji := 21) rfl (congrArg Prod.fst (kl_126 iM)) (show mG M 126 21 = 147 from rd_Model_21 iM (a := 126) rfl) ?_
    refine w_aGc (kl_147 iM) (by omega) (by omega) (show mG M 147 l3 = a58 from (show mG M 147 l3 = a58 from ha58)) ?_
    refine w_dM (by omega) (fun a84 ha84 => ?_)
    have ea84 : a84 = a58 % 3 := ha84.trans (irem_e (by omega) (by omega) (by omega) (by omega))
    refine w_gK (congrArg Prod.fst (kl_126 iM)) ?_
    refine w_call (s_X9_factAt ⟨by omega, by omega⟩ ⟨by omega, by omega⟩ ⟨by omega, by omega⟩ p_NP iM) ?_
    intro v85 m85 pp85
    obtain ⟨im85, kk85, e85_0, -⟩ := pp85
    try dsimp only
    replace im85 : I n m85 := im85
    replace kk85 : Keep n W_X9_factAt M m85 := kk85
    have km85 : Keep n W_X9_findKnown Me m85 := kM.tr kk85 (fun b j z => z.elim)
    replace e85_0 : (-1) ≤ v85 ∧ v85 ≤ 35 := e85_0
    refine w_if (fun c2_ => ?_) (fun c2_ => ?_)
    · skip
      have ppF12_m85 : F12 m85 := (F12_of p_F12 (fun j => kk85.2.2 153 j (by omega) (fun z => z)) (fun j => kk85.2.2 134 j (by omega) (fun z => z)))
      have ppNP_m85 : NP m85 := (NP_of p_NP (fun j => kk85.2.2 152 j (by omega) (fun z => z)))
      exact s_X9_findKnown_163 hk43 ⟨by omega, by omega⟩ ⟨by omega, by omega⟩ ⟨by omega, by omega⟩ ppF12_m85 ppNP_m85 (by omega) im85 km85
    · skip
      refine w_gFc (ji := 23) rfl (congrArg Prod.fst (kl_126 im85)) (show mG m85 126 23 = 149 from rd_Model_23 im85 (a := 126) rfl) ?_
      refine w_aG (kl_149 im85) (by omega) (by omega) (fun a101 ha101 => ?_)
      have ra101 : 0 ≤ a101 ∧ a101 ≤ 999 := ha101.tr (P := fun z => 0 ≤ z ∧ z ≤ 999) (rd_MknownDay im85 rfl)
      refine w_if (fun c3_ => ?_) (fun c3_ => ?_)
      · skip
        have w4_ := wI_id (x := (l2 - 1)) (by omega) (by omega)
        have w5_ := wI_id (x := ((wI (l2 - 1)) - v85)) (by omega) (by omega)
        have w6_ := ishl_in 1 (wI ((wI (l2 - 1)) - v85))
        refine w_some (fun b117 hb117 => ?_)
        replace hb117 : b117 = (ishl 1 (wI ((wI (l2 - 1)) - v85))) := hb117
        refine w_gF (ji := 49) rfl (congrArg Prod.fst (kl_126 im85)) (fun a121 ha121 => ?_)
        have ra121 : (-2147483648) ≤ a121 ∧ a121 ≤ 2147483647 := ha121.tr (P := fun z => (-2147483648) ≤ z ∧ z ≤ 2147483647) (rd_Model_49 im85 rfl)
        have w7_ := ior_in a121 b117
        refine w_pF (ji := 49) rfl (congrArg Prod.fst (kl_126 im85)) (fun M127 hM127 => ?_)
        replace hM127 : M127 = mS m85 126 49 (ior a121 b117) := hM127
        have iM127 : I n M127 := wr_Model_49 im85 rfl ⟨by omega, by omega⟩ hM127
        have kM127 : Keep n W_X9_findKnown Me M127 := km85.st hM127 (Or.inl (Or.inl ⟨rfl, rfl⟩))
        obtain ⟨svM127, esvM127⟩ : ∃ z, z = (ior a121 b117) := ⟨_, rfl⟩
        refine w_gFc (ji := 22) rfl (congrArg Prod.fst (kl_126 iM127)) (show mG M127 126 22 = 148 from rd_Model_22 iM127 (a := 126) rfl) ?_
        refine w_aG (kl_148 iM127) (by omega) (by omega) (fun a136 ha136 => ?_)
        have ra136 : 0 ≤ a136 ∧ a136 ≤ 1 := ha136.tr (P := fun z => 0 ≤ z ∧ z ≤ 1) (rd_MknownIs iM127 rfl)
        refine w_if (fun c8_ => ?_) (fun c8_ => ?_)
        · skip
          refine w_gF (ji := 50) rfl (congrArg Prod.fst (kl_126 iM127)) (fun a142 ha142 => ?_)
          have ra142 : (-2147483648) ≤ a142 ∧ a142 ≤ 2147483647 := ha142.tr (P := fun z => (-2147483648) ≤ z ∧ z ≤ 2147483647) (rd_Model_50 iM127 rfl)
          have w9_ := ior_in a142 b117
          have ppF12_M127 : F12 M127 := (F12_of (F12_of p_F12 (fun j => kk85.2.2 153 j (by omega) (fun z => z)) (fun j => kk85.2.2 134 j (by omega) (fun z => z))) (fun j => st_ne hM127 (fun z => ne_fam rfl rfl (by decide) z.1)) (fun j => st_ne hM127 (fun z => ne_fam rfl rfl (by decide) z.1)))
          have ppNP_M127 : NP M127 := (NP_of (NP_of p_NP (fun j => kk85.2.2 152 j (by omega) (fun z => z))) (fun j => st_ne hM127 (fun z => ne_fam rfl rfl (by decide) z.1)))
          exact s_X9_findKnown_160 hk43 ⟨by omega, by omega⟩ ⟨by omega, by omega⟩ ⟨by omega, by omega⟩ ⟨by omega, by omega⟩ ppF12_M127 ppNP_M127 (by omega) iM127 kM127
        · skip
          refine w_gF (ji := 50) rfl (congrArg Prod.fst (kl_126 iM127)) (fun a152 ha152 => ?_)
          have ra152 : (-2147483648) ≤ a152 ∧ a152 ≤ 2147483647 := ha152.tr (P := fun z => (-2147483648) ≤ z ∧ z ≤ 2147483647) (rd_Model_50 iM127 rfl)
          have w10_ := ixor_in b117 (-1)
          have w11_ := iand_in a152 (ixor b117 (-1))
          have ppF12_M127 : F12 M127 := (F12_of (F12_of p_F12 (fun j => kk85.2.2 153 j (by omega) (fun z => z)) (fun j => kk85.2.2 134 j (by omega) (fun z => z))) (fun j => st_ne hM127 (fun z => ne_fam rfl rfl (by decide) z.1)) (fun j => st_ne hM127 (fun z => ne_fam rfl rfl (by decide) z.1)))
          have ppNP_M127 : NP M127 := (NP_of (NP_of p_NP (fun j => kk85.2.2 152 j (by omega) (fun z => z))) (fun j => st_ne hM127 (fun z => ne_fam rfl rfl (by decide) z.1)))
          exact s_X9_findKnown_160 hk43 ⟨by omega, by omega⟩ ⟨by omega, by omega⟩ ⟨by omega, by omega⟩ ⟨by omega, by omega⟩ ppF12_M127 ppNP_M127 (by omega) iM127 kM127
      · skip
        have ppF12_m85 : F12 m85 := (F12_of p_F12 (fun j => kk85.2.2 153 j (by omega) (fun z => z)) (fun j => kk85.2.2 134 j (by omega) (fun z => z)))
        have ppNP_m85 : NP m85 := (NP_of p_NP (fun j => kk85.2.2 152 j (by omega) (fun z => z)))
        exact s_X9_findKnown_163 hk43 ⟨by omega, by omega⟩ ⟨by omega, by omega⟩ ⟨by omega, by omega⟩ ppF12_m85 ppNP_m85 (by omega) im85 km85
theorem s_X9_findKnown_43 {n : Nat} {Me : Mem} : ∀ (fu : Nat) (l1 l2 l3 : Int) (M : Mem), (0 ≤ l1 ∧ l1 ≤ 999) → (0 ≤ l2 ∧ l2 ≤ 12) → (0 ≤ l3 ∧ l3 ≤ 40) → (F12 M) → (NP M) → 41 - l3 < (fu : Int) → I n M → Keep n W_X9_findKnown Me M → wp (mX9_findKnown_43 fu 126 l1 l2 l3 M) (fun q => I n q.2 ∧ Keep n W_X9_findKnown Me q.2 ∧ True) := by
  intro fu
  induction fu with
  | zero =>
    intro l1 l2 l3 M r_l1 r_l2 r_l3 p_F12 p_NP hf iM kM
    exfalso
    omega
  | succ fu ih =>
    intro l1 l2 l3 M r_l1 r_l2 r_l3 p_F12 p_NP hf iM kM
    exact sb_X9_findKnown_43 ih r_l1 r_l2 r_l3 p_F12 p_NP (by have e : ((fu + 1 : Nat) : Int) = (fu : Int) + 1 := rfl; rw [e] at hf; exact hf) iM kM
theorem s_X9_findKnown_25 {n : Nat} {Me : Mem} {s0 : Int} {M : Mem} (r_s0 : 0 ≤ s0 ∧ s0 ≤ 999) (p_F12 : F12 M) (p_NP : NP M) (iM : I n M) (kM : Keep n W_X9_findKnown Me M) : wp (mX9_findKnown_25 126 s0 M) (fun q => I n q.2 ∧ Keep n W_X9_findKnown Me q.2 ∧ True) := by
  have hn : (169 : Int) ≤ (n : Int) := by have := iM.2.2.2.2.1; omega
  unfold mX9_findKnown_25
  refine w_gK (congrArg Prod.fst (kl_126 iM)) ?_
  refine w_call (s_X9_manyFacts iM) ?_
  intro v27 m27 pp27
  obtain ⟨im27, kk27, e27_0, e27_1, -⟩ := pp27
  try dsimp only
  replace im27 : I n m27 := im27
  replace kk27 : Keep n W_X9_manyFacts M m27 := kk27
  have km27 : Keep n W_X9_findKnown Me m27 := kM.tr kk27 (fun b j z => z.elim)
  replace e27_0 : 0 ≤ v27 ∧ v27 ≤ 36 := e27_0
  replace e27_1 : v27 = mG m27 153 (mG m27 134 0) := e27_1
  have ev27 := e27_1
  have ppF12_m27 : F12 m27 := (F12_of p_F12 (fun j => kk27.2.2 153 j (by omega) (fun z => z)) (fun j => kk27.2.2 134 j (by omega) (fun z => z)))
  have fv27 : v27 ≤ 12 := by rw [ev27]; exact ppF12_m27
  refine w_pF (ji := 49) rfl (congrArg Prod.fst (kl_126 im27)) (fun M33 hM33 => ?_)
  replace hM33 : M33 = mS m27 126 49 0 := hM33
  have iM33 : I n M33 := wr_Model_49 im27 rfl ⟨by omega, by omega⟩ hM33
  have kM33 : Keep n W_X9_findKnown Me M33 := km27.st hM33 (Or.inl (Or.inl ⟨rfl, rfl⟩))
  refine w_pF (ji := 50) rfl (congrArg Prod.fst (kl_126 iM33)) (fun M38 hM38 => ?_)
  replace hM38 : M38 = mS M33 126 50 0 := hM38
  have iM38 : I n M38 := wr_Model_50 iM33 rfl ⟨by omega, by omega⟩ hM38
  have kM38 : Keep n W_X9_findKnown Me M38 := kM33.st hM38 (Or.inl (Or.inr ⟨rfl, rfl⟩))
  have ppF12_M38 : F12 M38 := (F12_of (F12_of ppF12_m27 (fun j => st_ne hM33 (fun z => ne_fam rfl rfl (by decide) z.1)) (fun j => st_ne hM33 (fun z => ne_fam rfl rfl (by decide) z.1))) (fun j => st_ne hM38 (fun z => ne_fam rfl rfl (by decide) z.1)) (fun j => st_ne hM38 (fun z => ne_fam rfl rfl (by decide) z.1)))
  have ppNP_M38 : NP M38 := (NP_of (NP_of (NP_of p_NP (fun j => kk27.2.2 152 j (by omega) (fun z => z))) (fun j => st_ne hM33 (fun z => ne_fam rfl rfl (by decide) z.1))) (fun j => st_ne hM38 (fun z => ne_fam rfl rfl (by decide) z.1)))
  exact s_X9_findKnown_43 FU _ _ _ _ ⟨by omega, by omega⟩ ⟨by omega, by omega⟩ ⟨by omega, by omega⟩ ppF12_M38 ppNP_M38 (by show _ < (70000 : Int); omega) iM38 kM38
theorem s_X9_findKnown {n : Nat} {M : Mem} (p_F12 : F12 M) (p_NP : NP M) (iM : I n M) : wp (mX9_findKnown 126 M) (fun q => I n q.2 ∧ Keep n W_X9_findKnown M q.2 ∧ True) := by
  have hn : (169 : Int) ≤ (n : Int) := by have := iM.2.2.2.2.1; omega
  have kM : Keep n W_X9_findKnown M M := Keep.rf
  unfold mX9_findKnown
  refine w_gFc (ji := 6) rfl (congrArg Prod.fst (kl_126 iM)) (show mG M 126 6 = 132 from rd_Model_6 iM (a := 126) rfl) ?_
  refine w_aG (kl_132 iM) (by decide) (by decide) (fun a5 ha5 => ?_)
  have ra5 : (-1) ≤ a5 ∧ a5 ≤ 999 := ha5.tr (P := fun z => (-1) ≤ z ∧ z ≤ 999) (rd_Mviewed iM rfl)
  refine w_if (fun c1_ => ?_) (fun c1_ => ?_)
  · skip
    refine w_gFc (ji := 5) rfl (congrArg Prod.fst (kl_126 iM)) (show mG M 126 5 = 131 from rd_Model_5 iM (a := 126) rfl) ?_
    refine w_aG (kl_131 iM) (by decide) (by decide) (fun a15 ha15 => ?_)
    have ra15 : 0 ≤ a15 ∧ a15 ≤ 999 := ha15.tr (P := fun z => 0 ≤ z ∧ z ≤ 999) (rd_Mdays iM rfl)
    exact s_X9_findKnown_25 ⟨by omega, by omega⟩ p_F12 p_NP iM kM
  · skip
    refine w_gFc (ji := 6) rfl (congrArg Prod.fst (kl_126 iM)) (show mG M 126 6 = 132 from rd_Model_6 iM (a := 126) rfl) ?_
    refine w_aGc (kl_132 iM) (by omega) (by omega) (show mG M 132 0 = a5 from (show mG M 132 0 = a5 from ha5)) ?_
    exact s_X9_findKnown_25 ⟨by omega, by omega⟩ p_F12 p_NP iM kM
def W_X9_prepare (b j : Int) : Prop := (b = 126 ∧ j = 48) ∨ (b = 126 ∧ j = 49) ∨ (b = 126 ∧ j = 50)
theorem s_X9_prepare {n : Nat} {M : Mem} (p_F12 : F12 M) (p_NP : NP M) (iM : I n M) : wp (mX9_prepare 126 M) (fun q => I n q.2 ∧ Keep n W_X9_prepare M q.2 ∧ True) := by
  have hn : (169 : Int) ≤ (n : Int) := by have := iM.2.2.2.2.1; omega
  have kM : Keep n W_X9_prepare M M := Keep.rf
  unfold mX9_prepare
  refine w_gK (congrArg Prod.fst (kl_126 iM)) ?_
  refine w_call (s_X9_told iM) ?_
  intro v2 m2 pp2
  obtain ⟨im2, kk2, e2_0, -⟩ := pp2
  try dsimp only
  replace im2 : I n m2 := im2
  replace kk2 : Keep n W_X9_told M m2 := kk2
  have km2 : Keep n W_X9_prepare M m2 := kM.tr kk2 (fun b j z => z.elim)
  replace e2_0 : 0 ≤ v2 ∧ v2 ≤ 4095 := e2_0
  refine w_pF (ji := 48) rfl (congrArg Prod.fst (kl_126 im2)) (fun M5 hM5 => ?_)
  replace hM5 : M5 = mS m2 126 48 v2 := hM5
  have iM5 : I n M5 := wr_Model_48 im2 rfl ⟨by omega, by omega⟩ hM5
  have kM5 : Keep n W_X9_prepare M M5 := km2.st hM5 (Or.inl (Or.inl ⟨rfl, rfl⟩))
  refine w_gK (congrArg Prod.fst (kl_126 iM5)) ?_
  have ppF12_M5 : F12 M5 := (F12_of (F12_of p_F12 (fun j => kk2.2.2 153 j (by omega) (fun z => z)) (fun j => kk2.2.2 134 j (by omega) (fun z => z))) (fun j => st_ne hM5 (fun z => ne_fam rfl rfl (by decide) z.1)) (fun j => st_ne hM5 (fun z => ne_fam rfl rfl (by decide) z.1)))
  have ppNP_M5 : NP M5 := (NP_of (NP_of p_NP (fun j => kk2.2.2 152 j (by omega) (fun z => z))) (fun j => st_ne hM5 (fun z => ne_fam rfl rfl (by decide) z.1)))
  refine w_call (s_X9_findKnown ppF12_M5 ppNP_M5 iM5) ?_
  intro v9 m9 pp9
  obtain ⟨im9, kk9, -⟩ := pp9
  try dsimp only
  replace im9 : I n m9 := im9
  replace kk9 : Keep n W_X9_findKnown M5 m9 := kk9
  have km9 : Keep n W_X9_prepare M m9 := kM5.tr kk9 (fun b j z => Or.elim z (fun z => (Or.inr (Or.inl z))) (fun z => (Or.inr (Or.inr z))))
  exact w_ret ⟨im9, km9, trivial⟩
def W_X9_isAsKnown (b j : Int) : Prop := False
theorem s_X9_isAsKnown {n : Nat} {l1 : Int} {M : Mem} (r_l1 : 0 ≤ l1 ∧ l1 ≤ 4095) (iM : I n M) : wp (mX9_isAsKnown 126 l1 M) (fun q => I n q.2 ∧ Keep n W_X9_isAsKnown M q.2 ∧ (0 ≤ q.1 ∧ q.1 ≤ 1) ∧ True) := by
  have hn : (169 : Int) ≤ (n : Int) := by have := iM.2.2.2.2.1; omega
  have kM : Keep n W_X9_isAsKnown M M := Keep.rf
  unfold mX9_isAsKnown
  refine w_gF (ji := 49) rfl (congrArg Prod.fst (kl_126 iM)) (fun a2 ha2 => ?_)
  have ra2 : (-2147483648) ≤ a2 ∧ a2 ≤ 2147483647 := ha2.tr (P := fun z => (-2147483648) ≤ z ∧ z ≤ 2147483647) (rd_Model_49 iM rfl)
  refine w_gF (ji := 50) rfl (congrArg Prod.fst (kl_126 iM)) (fun a7 ha7 => ?_)
  have ra7 : (-2147483648) ≤ a7 ∧ a7 ≤ 2147483647 := ha7.tr (P := fun z => (-2147483648) ≤ z ∧ z ≤ 2147483647) (rd_Model_50 iM rfl)
  have w1_ := iand_l (x := l1) (y := a2) (by omega) (by omega)
  refine w_if (fun c3_ => ?_) (fun c3_ => ?_)
  · skip
    exact w_ret ⟨iM, kM, (show 0 ≤ 1 ∧ 1 ≤ 1 from ⟨by omega, by omega⟩), trivial⟩
  · skip
    exact w_ret ⟨iM, kM, (show 0 ≤ 0 ∧ 0 ≤ 1 from ⟨by omega, by omega⟩), trivial⟩
def W_X9_layWorld (b j : Int) : Prop := b = 154
theorem s_X9_layWorld_34 {n : Nat} {Me : Mem} {k7 : Int → Int → Int → Int → Mem → Option (Int × Mem)} {fu7 : Nat} (hk7 : ∀ (l1 l2 l3 : Int) (M : Mem), ((-2147483648) ≤ l1 ∧ l1 ≤ 2147483647) → (0 ≤ l2 ∧ l2 ≤ 36) → (0 ≤ l3 ∧ l3 ≤ 36) → (NP M) → 37 - l3 < (fu7 : Int) → I n M → Keep n W_X9_layWorld Me M → wp (k7 126 l1 l2 l3 M) (fun q => I n q.2 ∧ Keep n W_X9_layWorld Me q.2 ∧ True)) {l1 l2 l3 s1 s2 : Int} {M : Mem} (r_l1 : (-2147483648) ≤ l1 ∧ l1 ≤ 2147483647) (r_l2 : 1 ≤ l2 ∧ l2 ≤ 36) (r_l3 : 0 ≤ l3 ∧ l3 ≤ 35) (r_s1 : 0 ≤ s1 ∧ s1 ≤ 35) (r_s2 : 0 ≤ s2 ∧ s2 ≤ 1) (p_NP : NP M) (hf7 : 37 - l3 < (fu7 : Int) + 1) (iM : I n M) (kM : Keep n W_X9_layWorld Me M) : wp (mX9_layWorld_34 k7 126 l1 l2 l3 154 s1 s2 M) (fun q => I n q.2 ∧ Keep n W_X9_layWorld Me q.2 ∧ True) := by
  have hn : (169 : Int) ≤ (n : Int) := by have := iM.2.2.2.2.1; omega
  unfold mX9_layWorld_34
  refine w_aSZ (kl_154 iM) (by omega) (by omega) (by omega) (fun M34 hM34 => ?_)
  replace hM34 : M34 = mS M 154 s1 s2 := hM34
  have iM34 : I n M34 := wr_Mis iM rfl ⟨by omega, by omega⟩ hM34
  have kM34 : Keep n W_X9_layWorld Me M34 := kM.st hM34 (Or.inl rfl)
  have w1_ := wI_id (x := (l3 + 1)) (by omega) (by omega)
  have ppNP_M34 : NP M34 := (NP_of p_NP (fun j => st_ne hM34 (fun z => ne_fam rfl rfl (by decide) z.1)))
  exact hk7 _ _ _ _ ⟨by omega, by omega⟩ ⟨by omega, by omega⟩ ⟨by omega, by omega⟩ ppNP_M34 (by omega) iM34 kM34
theorem sb_X9_layWorld_7 {n : Nat} {Me : Mem} {k7 : Int → Int → Int → Int → Mem → Option (Int × Mem)} {fu7 : Nat} (hk7 : ∀ (l1 l2 l3 : Int) (M : Mem), ((-2147483648) ≤ l1 ∧ l1 ≤ 2147483647) → (0 ≤ l2 ∧ l2 ≤ 36) → (0 ≤ l3 ∧ l3 ≤ 36) → (NP M) → 37 - l3 < (fu7 : Int) → I n M → Keep n W_X9_layWorld Me M → wp (k7 126 l1 l2 l3 M) (fun q => I n q.2 ∧ Keep n W_X9_layWorld Me q.2 ∧ True)) {l1 l2 l3 : Int} {M : Mem} (r_l1 : (-2147483648) ≤ l1 ∧ l1 ≤ 2147483647) (r_l2 : 0 ≤ l2 ∧ l2 ≤ 36) (r_l3 : 0 ≤ l3 ∧ l3 ≤ 36) (p_NP : NP M) (hf7 : 37 - l3 < (fu7 : Int) + 1) (iM : I n M) (kM : Keep n W_X9_layWorld Me M) : wp (bX9_layWorld_7 k7 126 l1 l2 l3 M) (fun q => I n q.2 ∧ Keep n W_X9_layWorld Me q.2 ∧ True) := by
  have hn : (169 : Int) ≤ (n : Int) := by have := iM.2.2.2.2.1; omega
  unfold bX9_layWorld_7
  refine w_if (fun c1_ => ?_) (fun c1_ => ?_)
  · skip
    exact w_ret ⟨iM, kM, trivial⟩
  · skip
    refine w_gFc (ji := 28) rfl (congrArg Prod.fst (kl_126 iM)) (show mG M 126 28 = 154 from rd_Model_28 iM (a := 126) rfl) ?_
    have w2_ := wI_id (x := (l2 - 1)) (by omega) (by omega)
    have w3_ := wI_id (x := ((wI (l2 - 1)) - l3)) (by omega) (by omega)
    have w4_ := ishr_in l1 (wI ((wI (l2 - 1)) - l3))
    have w5_ := iand_r (x := (ishr l1 (wI ((wI (l2 - 1)) - l3)))) (y := 1) (by omega) (by omega)
    refine w_if (fun c6_ => ?_) (fun c6_ => ?_)
    · skip
      exact s_X9_layWorld_34 hk7 ⟨by omega, by omega⟩ ⟨by omega, by omega⟩ ⟨by omega, by omega⟩ ⟨by omega, by omega⟩ ⟨by omega, by omega⟩ p_NP (by omega) iM kM
    · skip
      exact s_X9_layWorld_34 hk7 ⟨by omega, by omega⟩ ⟨by omega, by omega⟩ ⟨by omega, by omega⟩ ⟨by omega, by omega⟩ ⟨by omega, by omega⟩ p_NP (by omega) iM kM
theorem s_X9_layWorld_7 {n : Nat} {Me : Mem} : ∀ (fu : Nat) (l1 l2 l3 : Int) (M : Mem), ((-2147483648) ≤ l1 ∧ l1 ≤ 2147483647) → (0 ≤ l2 ∧ l2 ≤ 36) → (0 ≤ l3 ∧ l3 ≤ 36) → (NP M) → 37 - l3 < (fu : Int) → I n M → Keep n W_X9_layWorld Me M → wp (mX9_layWorld_7 fu 126 l1 l2 l3 M) (fun q => I n q.2 ∧ Keep n W_X9_layWorld Me q.2 ∧ True) := by
  intro fu
  induction fu with
  | zero =>
    intro l1 l2 l3 M r_l1 r_l2 r_l3 p_NP hf iM kM
    exfalso
    omega
  | succ fu ih =>
    intro l1 l2 l3 M r_l1 r_l2 r_l3 p_NP hf iM kM
    exact sb_X9_layWorld_7 ih r_l1 r_l2 r_l3 p_NP (by have e : ((fu + 1 : Nat) : Int) = (fu : Int) + 1 := rfl; rw [e] at hf; exact hf) iM kM
theorem s_X9_layWorld {n : Nat} {l1 : Int} {M : Mem} (r_l1 : (-2147483648) ≤ l1 ∧ l1 ≤ 2147483647) (p_NP : NP M) (iM : I n M) : wp (mX9_layWorld 126 l1 M) (fun q => I n q.2 ∧ Keep n W_X9_layWorld M q.2 ∧ True) := by
  have hn : (169 : Int) ≤ (n : Int) := by have := iM.2.2.2.2.1; omega
  have kM : Keep n W_X9_layWorld M M := Keep.rf
  unfold mX9_layWorld
  refine w_gK (congrArg Prod.fst (kl_126 iM)) ?_
  refine w_call (s_X9_manyFacts iM) ?_
  intro v1 m1 pp1
  obtain ⟨im1, kk1, e1_0, e1_1, -⟩ := pp1
  try dsimp only
  replace im1 : I n m1 := im1
  replace kk1 : Keep n W_X9_manyFacts M m1 := kk1
  have km1 : Keep n W_X9_layWorld M m1 := kM.tr kk1 (fun b j z => z.elim)
  replace e1_0 : 0 ≤ v1 ∧ v1 ≤ 36 := e1_0
  replace e1_1 : v1 = mG m1 153 (mG m1 134 0) := e1_1
  have ev1 := e1_1
  have ppNP_m1 : NP m1 := (NP_of p_NP (fun j => kk1.2.2 152 j (by omega) (fun z => z)))
  exact s_X9_layWorld_7 FU _ _ _ _ ⟨by omega, by omega⟩ ⟨by omega, by omega⟩ ⟨by omega, by omega⟩ ppNP_m1 (by show _ < (70000 : Int); omega) im1 km1
def W_X9_isWorld (b j : Int) : Prop := b = 154 ∨ (160 ≤ b ∧ b ≤ 161) ∨ (b = 126 ∧ j = 46)
theorem s_X9_isWorld_48 {n : Nat} {Me : Mem} {k17 : Int → Int → Mem → Option (Int × Mem)} {fu17 : Nat} (hk17 : ∀ (l2 : Int) (M : Mem), (0 ≤ l2 ∧ l2 ≤ 8) → (F12 M) → (NP M) → (WF M) → 9 - l2 < (fu17 : Int) → I n M → Keep n W_X9_isWorld Me M → wp (k17 126 l2 M) (fun q => I n q.2 ∧ Keep n W_X9_isWorld Me q.2 ∧ (0 ≤ q.1 ∧ q.1 ≤ 1) ∧ True)) {l2 : Int} {M : Mem} (r_l2 : 0 ≤ l2 ∧ l2 ≤ 7) (p_F12 : F12 M) (p_NP : NP M) (p_WF : WF M) (hf17 : 9 - l2 < (fu17 : Int) + 1) (iM : I n M) (kM : Keep n W_X9_isWorld Me M) : wp (mX9_isWorld_48 k17 126 l2 M) (fun q => I n q.2 ∧ Keep n W_X9_isWorld Me q.2 ∧ (0 ≤ q.1 ∧ q.1 ≤ 1) ∧ True) := by
  have hn : (169 : Int) ≤ (n : Int) := by have := iM.2.2.2.2.1; omega
  unfold mX9_isWorld_48
  have w1_ := wI_id (x := (l2 + 1)) (by omega) (by omega)
  exact hk17 _ _ ⟨by omega, by omega⟩ p_F12 p_NP p_WF (by omega) iM kM
theorem sb_X9_isWorld_17 {n : Nat} {Me : Mem} {k17 : Int → Int → Mem → Option (Int × Mem)} {fu17 : Nat} (hk17 : ∀ (l2 : Int) (M : Mem), (0 ≤ l2 ∧ l2 ≤ 8) → (F12 M) → (NP M) → (WF M) → 9 - l2 < (fu17 : Int) → I n M → Keep n W_X9_isWorld Me M → wp (k17 126 l2 M) (fun q => I n q.2 ∧ Keep n W_X9_isWorld Me q.2 ∧ (0 ≤ q.1 ∧ q.1 ≤ 1) ∧ True)) {l2 : Int} {M : Mem} (r_l2 : 0 ≤ l2 ∧ l2 ≤ 8) (p_F12 : F12 M) (p_NP : NP M) (p_WF : WF M) (hf17 : 9 - l2 < (fu17 : Int) + 1) (iM : I n M) (kM : Keep n W_X9_isWorld Me M) : wp (bX9_isWorld_17 k17 126 l2 M) (fun q => I n q.2 ∧ Keep n W_X9_isWorld Me q.2 ∧ (0 ≤ q.1 ∧ q.1 ≤ 1) ∧ True) := by
  have hn : (169 : Int) ≤ (n : Int) := by have := iM.2.2.2.2.1; omega
  unfold bX9_isWorld_17
  refine w_gFc (ji := 12) rfl (congrArg Prod.fst (kl_126 iM)) (show mG M 126 12 = 138 from rd_Model_12 iM (a := 126) rfl) ?_
  refine w_aG (kl_138 iM) (by decide) (by decide) (fun a23 ha23 => ?_)
  have ra23 : 0 ≤ a23 ∧ a23 ≤ 8 := ha23.tr (P := fun z => 0 ≤ z ∧ z ≤ 8) (rd_Mstories iM rfl)
  refine w_if (fun c1_ => ?_) (fun c1_ => ?_)
  · skip
    exact w_ret ⟨iM, kM, (show 0 ≤ 1 ∧ 1 ≤ 1 from ⟨by omega, by omega⟩), trivial⟩
  · skip
    refine w_gF (ji := 48) rfl (congrArg Prod.fst (kl_126 iM)) (fun a28 ha28 => ?_)
    have ra28 : (-2147483648) ≤ a28 ∧ a28 ≤ 2147483647 := ha28.tr (P := fun z => (-2147483648) ≤ z ∧ z ≤ 2147483647) (rd_Model_48 iM rfl)
    have w2_ := ishr_in a28 l2
    have w3_ := iand_r (x := (ishr a28 l2)) (y := 1) (by omega) (by omega)
    refine w_if (fun c4_ => ?_) (fun c4_ => ?_)
    · skip
      exact s_X9_isWorld_48 hk17 ⟨by omega, by omega⟩ p_F12 p_NP p_WF (by omega) iM kM
    · skip
      refine w_gK (congrArg Prod.fst (kl_126 iM)) ?_
      refine w_call (s_X9_means ⟨by omega, by omega⟩ p_NP p_WF iM) ?_
      intro v40 m40 pp40
      obtain ⟨im40, kk40, e40_0, -⟩ := pp40
      try dsimp only
      replace im40 : I n m40 := im40
      replace kk40 : Keep n W_X9_means M m40 := kk40
      have km40 : Keep n W_X9_isWorld Me m40 := kM.tr kk40 (fun b j z => Or.elim z (fun z => (Or.inr (Or.inl z))) (fun z => (Or.inr (Or.inr z))))
      replace e40_0 : 0 ≤ v40 ∧ v40 ≤ 1 := e40_0
      refine w_if (fun c5_ => ?_) (fun c5_ => ?_)
      · skip
        exact w_ret ⟨im40, km40, (show 0 ≤ 0 ∧ 0 ≤ 1 from ⟨by omega, by omega⟩), trivial⟩
      · skip
        have ppF12_m40 : F12 m40 := (F12_of p_F12 (fun j => kk40.2.2 153 j (by omega) (fun z => by unfold W_X9_means at z; (try unfold isWS at z); (try unfold isShape at z); (try unfold isTold at z); (try dsimp only at z); omega)) (fun j => kk40.2.2 134 j (by omega) (fun z => by unfold W_X9_means at z; (try unfold isWS at z); (try unfold isShape at z); (try unfold isTold at z); (try dsimp only at z); omega)))
        have ppNP_m40 : NP m40 := (NP_of p_NP (fun j => kk40.2.2 152 j (by omega) (fun z => by unfold W_X9_means at z; (try unfold isWS at z); (try unfold isShape at z); (try unfold isTold at z); (try dsimp only at z); omega)))
        have ppWF_m40 : WF m40 := (WF_of p_WF (fun j => kk40.2.2 141 j (by omega) (fun z => by unfold W_X9_means at z; (try unfold isWS at z); (try unfold isShape at z); (try unfold isTold at z); (try dsimp only at z); omega)) (fun j => kk40.2.2 142 j (by omega) (fun z => by unfold W_X9_means at z; (try unfold isWS at z); (try unfold isShape at z); (try unfold isTold at z); (try dsimp only at z); omega)) (fun j => kk40.2.2 143 j (by omega) (fun z => by unfold W_X9_means at z; (try unfold isWS at z); (try unfold isShape at z); (try unfold isTold at z); (try dsimp only at z); omega)) (fun j => kk40.2.2 144 j (by omega) (fun z => by unfold W_X9_means at z; (try unfold isWS at z); (try unfold isShape at z); (try unfold isTold at z); (try dsimp only at z); omega)) (fun j => kk40.2.2 138 j (by omega) (fun z => by unfold W_X9_means at z; (try unfold isWS at z); (try unfold isShape at z); (try unfold isTold at z); (try dsimp only at z); omega)))
        exact s_X9_isWorld_48 hk17 ⟨by omega, by omega⟩ ppF12_m40 ppNP_m40 ppWF_m40 (by omega) im40 km40
theorem s_X9_isWorld_17 {n : Nat} {Me : Mem} : ∀ (fu : Nat) (l2 : Int) (M : Mem), (0 ≤ l2 ∧ l2 ≤ 8) → (F12 M) → (NP M) → (WF M) → 9 - l2 < (fu : Int) → I n M → Keep n W_X9_isWorld Me M → wp (mX9_isWorld_17 fu 126 l2 M) (fun q => I n q.2 ∧ Keep n W_X9_isWorld Me q.2 ∧ (0 ≤ q.1 ∧ q.1 ≤ 1) ∧ True) := by
  intro fu
  induction fu with
  | zero =>
    intro l2 M r_l2 p_F12 p_NP p_WF hf iM kM
    exfalso
    omega
  | succ fu ih =>
    intro l2 M r_l2 p_F12 p_NP p_WF hf iM kM
    exact sb_X9_isWorld_17 ih r_l2 p_F12 p_NP p_WF (by have e : ((fu + 1 : Nat) : Int) = (fu : Int) + 1 := rfl; rw [e] at hf; exact hf) iM kM
theorem s_X9_isWorld {n : Nat} {l1 : Int} {M : Mem} (r_l1 : 0 ≤ l1 ∧ l1 ≤ 4095) (p_F12 : F12 M) (p_NP : NP M) (p_WF : WF M) (iM : I n M) : wp (mX9_isWorld 126 l1 M) (fun q => I n q.2 ∧ Keep n W_X9_isWorld M q.2 ∧ (0 ≤ q.1 ∧ q.1 ≤ 1) ∧ True) := by
  have hn : (169 : Int) ≤ (n : Int) := by have := iM.2.2.2.2.1; omega
  have kM : Keep n W_X9_isWorld M M := Keep.rf
  unfold mX9_isWorld
  refine w_gK (congrArg Prod.fst (kl_126 iM)) ?_
  refine w_call (s_X9_isAsKnown ⟨by omega, by omega⟩ iM) ?_
  intro v2 m2 pp2
  obtain ⟨im2, kk2, e2_0, -⟩ := pp2
  try dsimp only
  replace im2 : I n m2 := im2
  replace kk2 : Keep n W_X9_isAsKnown M m2 := kk2
  have km2 : Keep n W_X9_isWorld M m2 := kM.tr kk2 (fun b j z => z.elim)
  replace e2_0 : 0 ≤ v2 ∧ v2 ≤ 1 := e2_0
  refine w_if (fun c1_ => ?_) (fun c1_ => ?_)
  · skip
    exact w_ret ⟨im2, km2, (show 0 ≤ 0 ∧ 0 ≤ 1 from ⟨by omega, by omega⟩), trivial⟩
  · skip
    refine w_gK (congrArg Prod.fst (kl_126 im2)) ?_
    have ppNP_m2 : NP m2 := (NP_of p_NP (fun j => kk2.2.2 152 j (by omega) (fun z => z)))
    refine w_call (s_X9_layWorld ⟨by omega, by omega⟩ ppNP_m2 im2) ?_
    intro v12 m12 pp12
    obtain ⟨im12, kk12, -⟩ := pp12
    try dsimp only
    replace im12 : I n m12 := im12
    replace kk12 : Keep n W_X9_layWorld m2 m12 := kk12
    have km12 : Keep n W_X9_isWorld M m12 := km2.tr kk12 (fun b j z => by unfold W_X9_layWorld at z; exact (Or.inl z))
    have ppF12_m12 : F12 m12 := (F12_of (F12_of p_F12 (fun j => kk2.2.2 153 j (by omega) (fun z => z)) (fun j => kk2.2.2 134 j (by omega) (fun z => z))) (fun j => kk12.2.2 153 j (by omega) (fun z => by unfold W_X9_layWorld at z; (try unfold isWS at z); (try unfold isShape at z); (try unfold isTold at z); (try dsimp only at z); omega)) (fun j => kk12.2.2 134 j (by omega) (fun z => by unfold W_X9_layWorld at z; (try unfold isWS at z); (try unfold isShape at z); (try unfold isTold at z); (try dsimp only at z); omega)))
    have ppNP_m12 : NP m12 := (NP_of ppNP_m2 (fun j => kk12.2.2 152 j (by omega) (fun z => by unfold W_X9_layWorld at z; (try unfold isWS at z); (try unfold isShape at z); (try unfold isTold at z); (try dsimp only at z); omega)))
    have ppWF_m12 : WF m12 := (WF_of (WF_of p_WF (fun j => kk2.2.2 141 j (by omega) (fun z => z)) (fun j => kk2.2.2 142 j (by omega) (fun z => z)) (fun j => kk2.2.2 143 j (by omega) (fun z => z)) (fun j => kk2.2.2 144 j (by omega) (fun z => z)) (fun j => kk2.2.2 138 j (by omega) (fun z => z))) (fun j => kk12.2.2 141 j (by omega) (fun z => by unfold W_X9_layWorld at z; (try unfold isWS at z); (try unfold isShape at z); (try unfold isTold at z); (try dsimp only at z); omega)) (fun j => kk12.2.2 142 j (by omega) (fun z => by unfold W_X9_layWorld at z; (try unfold isWS at z); (try unfold isShape at z); (try unfold isTold at z); (try dsimp only at z); omega)) (fun j => kk12.2.2 143 j (by omega) (fun z => by unfold W_X9_layWorld at z; (try unfold isWS at z); (try unfold isShape at z); (try unfold isTold at z); (try dsimp only at z); omega)) (fun j => kk12.2.2 144 j (by omega) (fun z => by unfold W_X9_layWorld at z; (try unfold isWS at z); (try unfold isShape at z); (try unfold isTold at z); (try dsimp only at z); omega)) (fun j => kk12.2.2 138 j (by omega) (fun z => by unfold W_X9_layWorld at z; (try unfold isWS at z); (try unfold isShape at z); (try unfold isTold at z); (try dsimp only at z); omega)))
    exact s_X9_isWorld_17 FU _ _ ⟨by omega, by omega⟩ ppF12_m12 ppNP_m12 ppWF_m12 (by show _ < (70000 : Int); omega) im12 km12
def W_X9_worlds (b j : Int) : Prop := (152 ≤ b ∧ b ≤ 154) ∨ (160 ≤ b ∧ b ≤ 161) ∨ (b = 126 ∧ j = 0) ∨ (b = 126 ∧ j = 46) ∨ (b = 126 ∧ j = 48) ∨ (b = 126 ∧ j = 49) ∨ (b = 126 ∧ j = 50)
theorem s_X9_worlds_46 {n : Nat} {Me : Mem} {k22 : Int → Int → Int → Mem → Option (Int × Mem)} {fu22 : Nat} (hk22 : ∀ (l1 l2 : Int) (M : Mem), ((-2147483648) ≤ l1 ∧ l1 ≤ 2147483647) → (0 ≤ l2 ∧ l2 ≤ 4096) → (F12 M) → (NP M) → (SF M) → (WF M) → 4097 - l2 < (fu22 : Int) → I n M → Keep n W_X9_worlds Me M → wp (k22 126 l1 l2 M) (fun q => I n q.2 ∧ Keep n W_X9_worlds Me q.2 ∧ ((-2147483648) ≤ q.1 ∧ q.1 ≤ 2147483647) ∧ True)) {l2 s0 s1 : Int} {M : Mem} (r_l2 : 0 ≤ l2 ∧ l2 ≤ 4095) (r_s0 : (-2147483648) ≤ s0 ∧ s0 ≤ 2147483647) (r_s1 : 0 ≤ s1 ∧ s1 ≤ 1) (p_F12 : F12 M) (p_NP : NP M) (p_SF : SF M) (p_WF : WF M) (hf22 : 4097 - l2 < (fu22 : Int) + 1) (iM : I n M) (kM : Keep n W_X9_worlds Me M) : wp (mX9_worlds_46 k22 126 l2 s0 s1 M) (fun q => I n q.2 ∧ Keep n W_X9_worlds Me q.2 ∧ ((-2147483648) ≤ q.1 ∧ q.1 ≤ 2147483647) ∧ True) := by
  have hn : (169 : Int) ≤ (n : Int) := by have := iM.2.2.2.2.1; omega
  unfold mX9_worlds_46
  have w1_ := And.intro (wI_lo (s0 + s1)) (wI_hi (s0 + s1))
  have w2_ := wI_id (x := (l2 + 1)) (by omega) (by omega)
  exact hk22 _ _ _ ⟨by omega, by omega⟩ ⟨by omega, by omega⟩ p_F12 p_NP p_SF p_WF (by omega) iM kM
theorem sb_X9_worlds_22 {n : Nat} {Me : Mem} {k22 : Int → Int → Int → Mem → Option (Int × Mem)} {fu22 : Nat} (hk22 : ∀ (l1 l2 : Int) (M : Mem), ((-2147483648) ≤ l1 ∧ l1 ≤ 2147483647) → (0 ≤ l2 ∧ l2 ≤ 4096) → (F12 M) → (NP M) → (SF M) → (WF M) → 4097 - l2 < (fu22 : Int) → I n M → Keep n W_X9_worlds Me M → wp (k22 126 l1 l2 M) (fun q => I n q.2 ∧ Keep n W_X9_worlds Me q.2 ∧ ((-2147483648) ≤ q.1 ∧ q.1 ≤ 2147483647) ∧ True)) {l1 l2 : Int} {M : Mem} (r_l1 : (-2147483648) ≤ l1 ∧ l1 ≤ 2147483647) (r_l2 : 0 ≤ l2 ∧ l2 ≤ 4096) (p_F12 : F12 M) (p_NP : NP M) (p_SF : SF M) (p_WF : WF M) (hf22 : 4097 - l2 < (fu22 : Int) + 1) (iM : I n M) (kM : Keep n W_X9_worlds Me M) : wp (bX9_worlds_22 k22 126 l1 l2 M) (fun q => I n q.2 ∧ Keep n W_X9_worlds Me q.2 ∧ ((-2147483648) ≤ q.1 ∧ q.1 ≤ 2147483647) ∧ True) := by
  have hn : (169 : Int) ≤ (n : Int) := by have := iM.2.2.2.2.1; omega
  unfold bX9_worlds_22
  refine w_gK (congrArg Prod.fst (kl_126 iM)) ?_
  refine w_call (s_X9_manyFacts iM) ?_
  intro v25 m25 pp25
  obtain ⟨im25, kk25, e25_0, e25_1, -⟩ := pp25
  try dsimp only
  replace im25 : I n m25 := im25
  replace kk25 : Keep n W_X9_manyFacts M m25 := kk25
  have km25 : Keep n W_X9_worlds Me m25 := kM.tr kk25 (fun b j z => z.elim)
  replace e25_0 : 0 ≤ v25 ∧ v25 ≤ 36 := e25_0
  replace e25_1 : v25 = mG m25 153 (mG m25 134 0) := e25_1
  have ev25 := e25_1
  have ppF12_m25 : F12 m25 := (F12_of p_F12 (fun j => kk25.2.2 153 j (by omega) (fun z => z)) (fun j => kk25.2.2 134 j (by omega) (fun z => z)))
  have fv25 : v25 ≤ 12 := by rw [ev25]; exact ppF12_m25
  have w1_ := ishl1_b (k := v25) (B := 12) (by omega) (by omega) (by decide)
  refine w_if (fun c2_ => ?_) (fun c2_ => ?_)
  · skip
    exact w_ret ⟨im25, km25, (show (-2147483648) ≤ l1 ∧ l1 ≤ 2147483647 from ⟨by omega, by omega⟩), trivial⟩
  · skip
    refine w_gK (congrArg Prod.fst (kl_126 im25)) ?_
    have ppNP_m25 : NP m25 := (NP_of p_NP (fun j => kk25.2.2 152 j (by omega) (fun z => z)))
    have ppWF_m25 : WF m25 := (WF_of p_WF (fun j => kk25.2.2 141 j (by omega) (fun z => z)) (fun j => kk25.2.2 142 j (by omega) (fun z => z)) (fun j => kk25.2.2 143 j (by omega) (fun z => z)) (fun j => kk25.2.2 144 j (by omega) (fun z => z)) (fun j => kk25.2.2 138 j (by omega) (fun z => z)))
    refine w_call (s_X9_isWorld ⟨by omega, by omega⟩ ppF12_m25 ppNP_m25 ppWF_m25 im25) ?_
    intro v35 m35 pp35
    obtain ⟨im35, kk35, e35_0, -⟩ := pp35
    try dsimp only
    replace im35 : I n m35 := im35
    replace kk35 : Keep n W_X9_isWorld m25 m35 := kk35
    have km35 : Keep n W_X9_worlds Me m35 := km25.tr kk35 (fun b j z => Or.elim z (fun z => (Or.inl ⟨by omega, by omega⟩)) (fun z => Or.elim z (fun z => (Or.inr (Or.inl z))) (fun z => (Or.inr (Or.inr (Or.inr (Or.inl z)))))))
    replace e35_0 : 0 ≤ v35 ∧ v35 ≤ 1 := e35_0
    refine w_if (fun c3_ => ?_) (fun c3_ => ?_)
    · skip
      have ppF12_m35 : F12 m35 := (F12_of ppF12_m25 (fun j => kk35.2.2 153 j (by omega) (fun z => by unfold W_X9_isWorld at z; (try unfold isWS at z); (try unfold isShape at z); (try unfold isTold at z); (try dsimp only at z); omega)) (fun j => kk35.2.2 134 j (by omega) (fun z => by unfold W_X9_isWorld at z; (try unfold isWS at z); (try unfold isShape at z); (try unfold isTold at z); (try dsimp only at z); omega)))
      have ppNP_m35 : NP m35 := (NP_of ppNP_m25 (fun j => kk35.2.2 152 j (by omega) (fun z => by unfold W_X9_isWorld at z; (try unfold isWS at z); (try unfold isShape at z); (try unfold isTold at z); (try dsimp only at z); omega)))
      have ppSF_m35 : SF m35 := (SF_of (SF_of p_SF (fun j => kk25.2.2 153 j (by omega) (fun z => z)) (fun j => kk25.2.2 134 j (by omega) (fun z => z)) (fun j => kk25.2.2 133 j (by omega) (fun z => z)) (fun j => kk25.2.2 135 j (by omega) (fun z => z)) (fun j => kk25.2.2 136 j (by omega) (fun z => z)) (fun j => kk25.2.2 152 j (by omega) (fun z => z))) (fun j => kk35.2.2 153 j (by omega) (fun z => by unfold W_X9_isWorld at z; (try unfold isWS at z); (try unfold isShape at z); (try unfold isTold at z); (try dsimp only at z); omega)) (fun j => kk35.2.2 134 j (by omega) (fun z => by unfold W_X9_isWorld at z; (try unfold isWS at z); (try unfold isShape at z); (try unfold isTold at z); (try dsimp only at z); omega)) (fun j => kk35.2.2 133 j (by omega) (fun z => by unfold W_X9_isWorld at z; (try unfold isWS at z); (try unfold isShape at z); (try unfold isTold at z); (try dsimp only at z); omega)) (fun j => kk35.2.2 135 j (by omega) (fun z => by unfold W_X9_isWorld at z; (try unfold isWS at z); (try unfold isShape at z); (try unfold isTold at z); (try dsimp only at z); omega)) (fun j => kk35.2.2 136 j (by omega) (fun z => by unfold W_X9_isWorld at z; (try unfold isWS at z); (try unfold isShape at z); (try unfold isTold at z); (try dsimp only at z); omega)) (fun j => kk35.2.2 152 j (by omega) (fun z => by unfold W_X9_isWorld at z; (try unfold isWS at z); (try unfold isShape at z); (try unfold isTold at z); (try dsimp only at z); omega)))
      have ppWF_m35 : WF m35 := (WF_of ppWF_m25 (fun j => kk35.2.2 141 j (by omega) (fun z => by unfold W_X9_isWorld at z; (try unfold isWS at z); (try unfold isShape at z); (try unfold isTold at z); (try dsimp only at z); omega)) (fun j => kk35.2.2 142 j (by omega) (fun z => by unfold W_X9_isWorld at z; (try unfold isWS at z); (try unfold isShape at z); (try unfold isTold at z); (try dsimp only at z); omega)) (fun j => kk35.2.2 143 j (by omega) (fun z => by unfold W_X9_isWorld at z; (try unfold isWS at z); (try unfold isShape at z); (try unfold isTold at z); (try dsimp only at z); omega)) (fun j => kk35.2.2 144 j (by omega) (fun z => by unfold W_X9_isWorld at z; (try unfold isWS at z); (try unfold isShape at z); (try unfold isTold at z); (try dsimp only at z); omega)) (fun j => kk35.2.2 138 j (by omega) (fun z => by unfold W_X9_isWorld at z; (try unfold isWS at z); (try unfold isShape at z); (try unfold isTold at z); (try dsimp only at z); omega)))
      exact s_X9_worlds_46 hk22 ⟨by omega, by omega⟩ ⟨by omega, by omega⟩ ⟨by omega, by omega⟩ ppF12_m35 ppNP_m35 ppSF_m35 ppWF_m35 (by omega) im35 km35
    · skip
      have ppF12_m35 : F12 m35 := (F12_of ppF12_m25 (fun j => kk35.2.2 153 j (by omega) (fun z => by unfold W_X9_isWorld at z; (try unfold isWS at z); (try unfold isShape at z); (try unfold isTold at z); (try dsimp only at z); omega)) (fun j => kk35.2.2 134 j (by omega) (fun z => by unfold W_X9_isWorld at z; (try unfold isWS at z); (try unfold isShape at z); (try unfold isTold at z); (try dsimp only at z); omega)))
      have ppNP_m35 : NP m35 := (NP_of ppNP_m25 (fun j => kk35.2.2 152 j (by omega) (fun z => by unfold W_X9_isWorld at z; (try unfold isWS at z); (try unfold isShape at z); (try unfold isTold at z); (try dsimp only at z); omega)))
      have ppSF_m35 : SF m35 := (SF_of (SF_of p_SF (fun j => kk25.2.2 153 j (by omega) (fun z => z)) (fun j => kk25.2.2 134 j (by omega) (fun z => z)) (fun j => kk25.2.2 133 j (by omega) (fun z => z)) (fun j => kk25.2.2 135 j (by omega) (fun z => z)) (fun j => kk25.2.2 136 j (by omega) (fun z => z)) (fun j => kk25.2.2 152 j (by omega) (fun z => z))) (fun j => kk35.2.2 153 j (by omega) (fun z => by unfold W_X9_isWorld at z; (try unfold isWS at z); (try unfold isShape at z); (try unfold isTold at z); (try dsimp only at z); omega)) (fun j => kk35.2.2 134 j (by omega) (fun z => by unfold W_X9_isWorld at z; (try unfold isWS at z); (try unfold isShape at z); (try unfold isTold at z); (try dsimp only at z); omega)) (fun j => kk35.2.2 133 j (by omega) (fun z => by unfold W_X9_isWorld at z; (try unfold isWS at z); (try unfold isShape at z); (try unfold isTold at z); (try dsimp only at z); omega)) (fun j => kk35.2.2 135 j (by omega) (fun z => by unfold W_X9_isWorld at z; (try unfold isWS at z); (try unfold isShape at z); (try unfold isTold at z); (try dsimp only at z); omega)) (fun j => kk35.2.2 136 j (by omega) (fun z => by unfold W_X9_isWorld at z; (try unfold isWS at z); (try unfold isShape at z); (try unfold isTold at z); (try dsimp only at z); omega)) (fun j => kk35.2.2 152 j (by omega) (fun z => by unfold W_X9_isWorld at z; (try unfold isWS at z); (try unfold isShape at z); (try unfold isTold at z); (try dsimp only at z); omega)))
      have ppWF_m35 : WF m35 := (WF_of ppWF_m25 (fun j => kk35.2.2 141 j (by omega) (fun z => by unfold W_X9_isWorld at z; (try unfold isWS at z); (try unfold isShape at z); (try unfold isTold at z); (try dsimp only at z); omega)) (fun j => kk35.2.2 142 j (by omega) (fun z => by unfold W_X9_isWorld at z; (try unfold isWS at z); (try unfold isShape at z); (try unfold isTold at z); (try dsimp only at z); omega)) (fun j => kk35.2.2 143 j (by omega) (fun z => by unfold W_X9_isWorld at z; (try unfold isWS at z); (try unfold isShape at z); (try unfold isTold at z); (try dsimp only at z); omega)) (fun j => kk35.2.2 144 j (by omega) (fun z => by unfold W_X9_isWorld at z; (try unfold isWS at z); (try unfold isShape at z); (try unfold isTold at z); (try dsimp only at z); omega)) (fun j => kk35.2.2 138 j (by omega) (fun z => by unfold W_X9_isWorld at z; (try unfold isWS at z); (try unfold isShape at z); (try unfold isTold at z); (try dsimp only at z); omega)))
      exact s_X9_worlds_46 hk22 ⟨by omega, by omega⟩ ⟨by omega, by omega⟩ ⟨by omega, by omega⟩ ppF12_m35 ppNP_m35 ppSF_m35 ppWF_m35 (by omega) im35 km35
theorem s_X9_worlds_22 {n : Nat} {Me : Mem} : ∀ (fu : Nat) (l1 l2 : Int) (M : Mem), ((-2147483648) ≤ l1 ∧ l1 ≤ 2147483647) → (0 ≤ l2 ∧ l2 ≤ 4096) → (F12 M) → (NP M) → (SF M) → (WF M) → 4097 - l2 < (fu : Int) → I n M → Keep n W_X9_worlds Me M → wp (mX9_worlds_22 fu 126 l1 l2 M) (fun q => I n q.2 ∧ Keep n W_X9_worlds Me q.2 ∧ ((-2147483648) ≤ q.1 ∧ q.1 ≤ 2147483647) ∧ True) := by
  intro fu
  induction fu with
  | zero =>
    intro l1 l2 M r_l1 r_l2 p_F12 p_NP p_SF p_WF hf iM kM
    exfalso
    omega
  | succ fu ih =>
    intro l1 l2 M r_l1 r_l2 p_F12 p_NP p_SF p_WF hf iM kM
    exact sb_X9_worlds_22 ih r_l1 r_l2 p_F12 p_NP p_SF p_WF (by have e : ((fu + 1 : Nat) : Int) = (fu : Int) + 1 := rfl; rw [e] at hf; exact hf) iM kM
theorem s_X9_worlds {n : Nat} {M : Mem} (p_WF : WF M) (iM : I n M) : wp (mX9_worlds 126 M) (fun q => I n q.2 ∧ Keep n W_X9_worlds M q.2 ∧ ((-2147483648) ≤ q.1 ∧ q.1 ≤ 2147483647) ∧ True) := by
  have hn : (169 : Int) ≤ (n : Int) := by have := iM.2.2.2.2.1; omega
  have kM : Keep n W_X9_worlds M M := Keep.rf
  unfold mX9_worlds
  refine w_pF (ji := 0) rfl (congrArg Prod.fst (kl_126 iM)) (fun M2 hM2 => ?_)
  replace hM2 : M2 = mS M 126 0 0 := hM2
  have iM2 : I n M2 := wr_Model_0 iM rfl ⟨by omega, by omega⟩ hM2
  have kM2 : Keep n W_X9_worlds M M2 := kM.st hM2 (Or.inl (Or.inr (Or.inr (Or.inl ⟨rfl, rfl⟩))))
  refine w_gK (congrArg Prod.fst (kl_126 iM2)) ?_
  refine w_call (s_X9_canTell iM2) ?_
  intro v6 m6 pp6
  obtain ⟨im6, kk6, e6_0, e6_1, e6_2, e6_3, -⟩ := pp6
  try dsimp only
  replace im6 : I n m6 := im6
  replace kk6 : Keep n W_X9_canTell M2 m6 := kk6
  have km6 : Keep n W_X9_worlds M m6 := kM2.tr kk6 (fun b j z => by unfold W_X9_canTell at z; exact (Or.inl ⟨by omega, by omega⟩))
  replace e6_0 : 0 ≤ v6 ∧ v6 ≤ 1 := e6_0
  replace e6_1 : NP m6 := e6_1
  have gNP_m6 := e6_1
  replace e6_2 : SF m6 := e6_2
  have gSF_m6 := e6_2
  replace e6_3 : v6 = 1 → F12 m6 := e6_3
  have ev6 := e6_3
  refine w_if (fun c1_ => ?_) (fun c1_ => ?_)
  · skip
    exact w_ret ⟨im6, km6, (show (-2147483648) ≤ (-1) ∧ (-1) ≤ 2147483647 from ⟨by omega, by omega⟩), trivial⟩
  · skip
    have pF12_c1__m6 : F12 m6 := ev6 (by omega)
    refine w_gK (congrArg Prod.fst (kl_126 im6)) ?_
    refine w_call (s_X9_prepare pF12_c1__m6 gNP_m6 im6) ?_
    intro v15 m15 pp15
    obtain ⟨im15, kk15, -⟩ := pp15
    try dsimp only
    replace im15 : I n m15 := im15
    replace kk15 : Keep n W_X9_prepare m6 m15 := kk15
    have km15 : Keep n W_X9_worlds M m15 := km6.tr kk15 (fun b j z => Or.elim z (fun z => (Or.inr (Or.inr (Or.inr (Or.inr (Or.inl z)))))) (fun z => Or.elim z (fun z => (Or.inr (Or.inr (Or.inr (Or.inr (Or.inr (Or.inl z))))))) (fun z => (Or.inr (Or.inr (Or.inr (Or.inr (Or.inr (Or.inr z)))))))))
    have ppF12_m15 : F12 m15 := (F12_of pF12_c1__m6 (fun j => kk15.2.2 153 j (by omega) (fun z => by unfold W_X9_prepare at z; (try unfold isWS at z); (try unfold isShape at z); (try unfold isTold at z); (try dsimp only at z); omega)) (fun j => kk15.2.2 134 j (by omega) (fun z => by unfold W_X9_prepare at z; (try unfold isWS at z); (try unfold isShape at z); (try unfold isTold at z); (try dsimp only at z); omega)))
    have ppNP_m15 : NP m15 := (NP_of gNP_m6 (fun j => kk15.2.2 152 j (by omega) (fun z => by unfold W_X9_prepare at z; (try unfold isWS at z); (try unfold isShape at z); (try unfold isTold at z); (try dsimp only at z); omega)))
    have ppSF_m15 : SF m15 := (SF_of gSF_m6 (fun j => kk15.2.2 153 j (by omega) (fun z => by unfold W_X9_prepare at z; (try unfold isWS at z); (try unfold isShape at z); (try unfold isTold at z); (try dsimp only at z); omega)) (fun j => kk15.2.2 134 j (by omega) (fun z => by unfold W_X9_prepare at z; (try unfold isWS at z); (try unfold isShape at z); (try unfold isTold at z); (try dsimp only at z); omega)) (fun j => kk15.2.2 133 j (by omega) (fun z => by unfold W_X9_prepare at z; (try unfold isWS at z); (try unfold isShape at z); (try unfold isTold at z); (try dsimp only at z); omega)) (fun j => kk15.2.2 135 j (by omega) (fun z => by unfold W_X9_prepare at z; (try unfold isWS at z); (try unfold isShape at z); (try unfold isTold at z); (try dsimp only at z); omega)) (fun j => kk15.2.2 136 j (by omega) (fun z => by unfold W_X9_prepare at z; (try unfold isWS at z); (try unfold isShape at z); (try unfold isTold at z); (try dsimp only at z); omega)) (fun j => kk15.2.2 152 j (by omega) (fun z => by unfold W_X9_prepare at z; (try unfold isWS at z); (try unfold isShape at z); (try unfold isTold at z); (try dsimp only at z); omega)))
    have ppWF_m15 : WF m15 := (WF_of (WF_of (WF_of p_WF (fun j => st_ne hM2 (fun z => ne_fam rfl rfl (by decide) z.1)) (fun j => st_ne hM2 (fun z => ne_fam rfl rfl (by decide) z.1)) (fun j => st_ne hM2 (fun z => ne_fam rfl rfl (by decide) z.1)) (fun j => st_ne hM2 (fun z => ne_fam rfl rfl (by decide) z.1)) (fun j => st_ne hM2 (fun z => ne_fam rfl rfl (by decide) z.1))) (fun j => kk6.2.2 141 j (by omega) (fun z => by unfold W_X9_canTell at z; (try unfold isWS at z); (try unfold isShape at z); (try unfold isTold at z); (try dsimp only at z); omega)) (fun j => kk6.2.2 142 j (by omega) (fun z => by unfold W_X9_canTell at z; (try unfold isWS at z); (try unfold isShape at z); (try unfold isTold at z); (try dsimp only at z); omega)) (fun j => kk6.2.2 143 j (by omega) (fun z => by unfold W_X9_canTell at z; (try unfold isWS at z); (try unfold isShape at z); (try unfold isTold at z); (try dsimp only at z); omega)) (fun j => kk6.2.2 144 j (by omega) (fun z => by unfold W_X9_canTell at z; (try unfold isWS at z); (try unfold isShape at z); (try unfold isTold at z); (try dsimp only at z); omega)) (fun j => kk6.2.2 138 j (by omega) (fun z => by unfold W_X9_canTell at z; (try unfold isWS at z); (try unfold isShape at z); (try unfold isTold at z); (try dsimp only at z); omega))) (fun j => kk15.2.2 141 j (by omega) (fun z => by unfold W_X9_prepare at z; (try unfold isWS at z); (try unfold isShape at z); (try unfold isTold at z); (try dsimp only at z); omega)) (fun j => kk15.2.2 142 j (by omega) (fun z => by unfold W_X9_prepare at z; (try unfold isWS at z); (try unfold isShape at z); (try unfold isTold at z); (try dsimp only at z); omega)) (fun j => kk15.2.2 143 j (by omega) (fun z => by unfold W_X9_prepare at z; (try unfold isWS at z); (try unfold isShape at z); (try unfold isTold at z); (try dsimp only at z); omega)) (fun j => kk15.2.2 144 j (by omega) (fun z => by unfold W_X9_prepare at z; (try unfold isWS at z); (try unfold isShape at z); (try unfold isTold at z); (try dsimp only at z); omega)) (fun j => kk15.2.2 138 j (by omega) (fun z => by unfold W_X9_prepare at z; (try unfold isWS at z); (try unfold isShape at z); (try unfold isTold at z); (try dsimp only at z); omega)))
    exact s_X9_worlds_22 FU _ _ _ ⟨by omega, by omega⟩ ⟨by omega, by omega⟩ ppF12_m15 ppNP_m15 ppSF_m15 ppWF_m15 (by show _ < (70000 : Int); omega) im15 km15
def W_X9_leastImage (b j : Int) : Prop := b = 162
theorem s_X9_leastImage_40 {n : Nat} {Me : Mem} {k4 : Int → Int → Int → Mem → Option (Int × Mem)} {fu4 : Nat} (hk4 : ∀ (l1 l2 : Int) (M : Mem), ((-2147483648) ≤ l1 ∧ l1 ≤ 2147483647) → (0 ≤ l2 ∧ l2 ≤ 216) → (NP M) → 217 - l2 < (fu4 : Int) → I n M → Keep n W_X9_leastImage Me M → wp (k4 126 l1 l2 M) (fun q => I n q.2 ∧ Keep n W_X9_leastImage Me q.2 ∧ ((-2147483648) ≤ q.1 ∧ q.1 ≤ 2147483647) ∧ True)) {l1 l2 : Int} {M : Mem} (r_l1 : (-2147483648) ≤ l1 ∧ l1 ≤ 2147483647) (r_l2 : 0 ≤ l2 ∧ l2 ≤ 215) (p_NP : NP M) (hf4 : 217 - l2 < (fu4 : Int) + 1) (iM : I n M) (kM : Keep n W_X9_leastImage Me M) : wp (mX9_leastImage_40 k4 126 l1 l2 M) (fun q => I n q.2 ∧ Keep n W_X9_leastImage Me q.2 ∧ ((-2147483648) ≤ q.1 ∧ q.1 ≤ 2147483647) ∧ True) := by
  have hn : (169 : Int) ≤ (n : Int) := by have := iM.2.2.2.2.1; omega
  unfold mX9_leastImage_40
  have w1_ := wI_id (x := (l2 + 1)) (by omega) (by omega)
  exact hk4 _ _ _ ⟨by omega, by omega⟩ ⟨by omega, by omega⟩ p_NP (by omega) iM kM
theorem s_X9_leastImage_39 {n : Nat} {Me : Mem} {k4 : Int → Int → Int → Mem → Option (Int × Mem)} {fu4 : Nat} (hk4 : ∀ (l1 l2 : Int) (M : Mem), ((-2147483648) ≤ l1 ∧ l1 ≤ 2147483647) → (0 ≤ l2 ∧ l2 ≤ 216) → (NP M) → 217 - l2 < (fu4 : Int) → I n M → Keep n W_X9_leastImage Me M → wp (k4 126 l1 l2 M) (fun q => I n q.2 ∧ Keep n W_X9_leastImage Me q.2 ∧ ((-2147483648) ≤ q.1 ∧ q.1 ≤ 2147483647) ∧ True)) {l2 s0 : Int} {M : Mem} (r_l2 : 0 ≤ l2 ∧ l2 ≤ 215) (r_s0 : (-2147483648) ≤ s0 ∧ s0 ≤ 2147483647) (p_NP : NP M) (hf4 : 217 - l2 < (fu4 : Int) + 1) (iM : I n M) (kM : Keep n W_X9_leastImage Me M) : wp (mX9_leastImage_39 k4 126 l2 s0 M) (fun q => I n q.2 ∧ Keep n W_X9_leastImage Me q.2 ∧ ((-2147483648) ≤ q.1 ∧ q.1 ≤ 2147483647) ∧ True) := by
  have hn : (169 : Int) ≤ (n : Int) := by have := iM.2.2.2.2.1; omega
  unfold mX9_leastImage_39
  exact s_X9_leastImage_40 hk4 ⟨by omega, by omega⟩ ⟨by omega, by omega⟩ p_NP (by omega) iM kM
theorem s_X9_leastImage_34 {n : Nat} {Me : Mem} {k4 : Int → Int → Int → Mem → Option (Int × Mem)} {fu4 : Nat} (hk4 : ∀ (l1 l2 : Int) (M : Mem), ((-2147483648) ≤ l1 ∧ l1 ≤ 2147483647) → (0 ≤ l2 ∧ l2 ≤ 216) → (NP M) → 217 - l2 < (fu4 : Int) → I n M → Keep n W_X9_leastImage Me M → wp (k4 126 l1 l2 M) (fun q => I n q.2 ∧ Keep n W_X9_leastImage Me q.2 ∧ ((-2147483648) ≤ q.1 ∧ q.1 ≤ 2147483647) ∧ True)) {l2 l3 : Int} {M : Mem} (r_l2 : 0 ≤ l2 ∧ l2 ≤ 215) (r_l3 : (-2147483648) ≤ l3 ∧ l3 ≤ 2147483647) (p_NP : NP M) (hf4 : 217 - l2 < (fu4 : Int) + 1) (iM : I n M) (kM : Keep n W_X9_leastImage Me M) : wp (mX9_leastImage_34 k4 126 l2 l3 M) (fun q => I n q.2 ∧ Keep n W_X9_leastImage Me q.2 ∧ ((-2147483648) ≤ q.1 ∧ q.1 ≤ 2147483647) ∧ True) := by
  have hn : (169 : Int) ≤ (n : Int) := by have := iM.2.2.2.2.1; omega
  unfold mX9_leastImage_34
  exact s_X9_leastImage_39 hk4 ⟨by omega, by omega⟩ ⟨by omega, by omega⟩ p_NP (by omega) iM kM
theorem sb_X9_leastImage_4 {n : Nat} {Me : Mem} {k4 : Int → Int → Int → Mem → Option (Int × Mem)} {fu4 : Nat} (hk4 : ∀ (l1 l2 : Int) (M : Mem), ((-2147483648) ≤ l1 ∧ l1 ≤ 2147483647) → (0 ≤ l2 ∧ l2 ≤ 216) → (NP M) → 217 - l2 < (fu4 : Int) → I n M → Keep n W_X9_leastImage Me M → wp (k4 126 l1 l2 M) (fun q => I n q.2 ∧ Keep n W_X9_leastImage Me q.2 ∧ ((-2147483648) ≤ q.1 ∧ q.1 ≤ 2147483647) ∧ True)) {l1 l2 : Int} {M : Mem} (r_l1 : (-2147483648) ≤ l1 ∧ l1 ≤ 2147483647) (r_l2 : 0 ≤ l2 ∧ l2 ≤ 216) (p_NP : NP M) (hf4 : 217 - l2 < (fu4 : Int) + 1) (iM : I n M) (kM : Keep n W_X9_leastImage Me M) : wp (bX9_leastImage_4 k4 126 l1 l2 M) (fun q => I n q.2 ∧ Keep n W_X9_leastImage Me q.2 ∧ ((-2147483648) ≤ q.1 ∧ q.1 ≤ 2147483647) ∧ True) := by
  have hn : (169 : Int) ≤ (n : Int) := by have := iM.2.2.2.2.1; omega
  unfold bX9_leastImage_4
  refine w_if (fun c1_ => ?_) (fun c1_ => ?_)
  · skip
    exact w_ret ⟨iM, kM, (show (-2147483648) ≤ l1 ∧ l1 ≤ 2147483647 from ⟨by omega, by omega⟩), trivial⟩
  · skip
    refine w_gK (congrArg Prod.fst (kl_126 iM)) ?_
    refine w_call (s_X9_takeOrders ⟨by omega, by omega⟩ p_NP iM) ?_
    intro v13 m13 pp13
    obtain ⟨im13, kk13, e13_0, -⟩ := pp13
    try dsimp only
    replace im13 : I n m13 := im13
    replace kk13 : Keep n W_X9_takeOrders M m13 := kk13
    have km13 : Keep n W_X9_leastImage Me m13 := kM.tr kk13 (fun b j z => by unfold W_X9_takeOrders at z; exact z)
    replace e13_0 : 0 ≤ v13 ∧ v13 ≤ 1 := e13_0
    refine w_if (fun c2_ => ?_) (fun c2_ => ?_)
    · skip
      have ppNP_m13 : NP m13 := (NP_of p_NP (fun j => kk13.2.2 152 j (by omega) (fun z => by unfold W_X9_takeOrders at z; (try unfold isWS at z); (try unfold isShape at z); (try unfold isTold at z); (try dsimp only at z); omega)))
      exact s_X9_leastImage_40 hk4 ⟨by omega, by omega⟩ ⟨by omega, by omega⟩ ppNP_m13 (by omega) im13 km13
    · skip
      refine w_gK (congrArg Prod.fst (kl_126 im13)) ?_
      have ppNP_m13 : NP m13 := (NP_of p_NP (fun j => kk13.2.2 152 j (by omega) (fun z => by unfold W_X9_takeOrders at z; (try unfold isWS at z); (try unfold isShape at z); (try unfold isTold at z); (try dsimp only at z); omega)))
      refine w_call (s_X9_imageOf ppNP_m13 im13) ?_
      intro v20 m20 pp20
      obtain ⟨im20, kk20, e20_0, -⟩ := pp20
      try dsimp only
      replace im20 : I n m20 := im20
      replace kk20 : Keep n W_X9_imageOf m13 m20 := kk20
      have km20 : Keep n W_X9_leastImage Me m20 := km13.tr kk20 (fun b j z => z.elim)
      replace e20_0 : (-2147483648) ≤ v20 ∧ v20 ≤ 2147483647 := e20_0
      refine w_if (fun c3_ => ?_) (fun c3_ => ?_)
      · skip
        have ppNP_m20 : NP m20 := (NP_of ppNP_m13 (fun j => kk20.2.2 152 j (by omega) (fun z => z)))
        exact s_X9_leastImage_34 hk4 ⟨by omega, by omega⟩ ⟨by omega, by omega⟩ ppNP_m20 (by omega) im20 km20
      · skip
        refine w_if (fun c4_ => ?_) (fun c4_ => ?_)
        · skip
          have ppNP_m20 : NP m20 := (NP_of ppNP_m13 (fun j => kk20.2.2 152 j (by omega) (fun z => z)))
          exact s_X9_leastImage_39 hk4 ⟨by omega, by omega⟩ ⟨by omega, by omega⟩ ppNP_m20 (by omega) im20 km20
        · skip
          have ppNP_m20 : NP m20 := (NP_of ppNP_m13 (fun j => kk20.2.2 152 j (by omega) (fun z => z)))
          exact s_X9_leastImage_34 hk4 ⟨by omega, by omega⟩ ⟨by omega, by omega⟩ ppNP_m20 (by omega) im20 km20
theorem s_X9_leastImage_4 {n : Nat} {Me : Mem} : ∀ (fu : Nat) (l1 l2 : Int) (M : Mem), ((-2147483648) ≤ l1 ∧ l1 ≤ 2147483647) → (0 ≤ l2 ∧ l2 ≤ 216) → (NP M) → 217 - l2 < (fu : Int) → I n M → Keep n W_X9_leastImage Me M → wp (mX9_leastImage_4 fu 126 l1 l2 M) (fun q => I n q.2 ∧ Keep n W_X9_leastImage Me q.2 ∧ ((-2147483648) ≤ q.1 ∧ q.1 ≤ 2147483647) ∧ True) := by
  intro fu
  induction fu with
  | zero =>
    intro l1 l2 M r_l1 r_l2 p_NP hf iM kM
    exfalso
    omega
  | succ fu ih =>
    intro l1 l2 M r_l1 r_l2 p_NP hf iM kM
    exact sb_X9_leastImage_4 ih r_l1 r_l2 p_NP (by have e : ((fu + 1 : Nat) : Int) = (fu : Int) + 1 := rfl; rw [e] at hf; exact hf) iM kM
theorem s_X9_leastImage {n : Nat} {M : Mem} (p_NP : NP M) (iM : I n M) : wp (mX9_leastImage 126 M) (fun q => I n q.2 ∧ Keep n W_X9_leastImage M q.2 ∧ ((-2147483648) ≤ q.1 ∧ q.1 ≤ 2147483647) ∧ True) := by
  have hn : (169 : Int) ≤ (n : Int) := by have := iM.2.2.2.2.1; omega
  have kM : Keep n W_X9_leastImage M M := Keep.rf
  unfold mX9_leastImage
  exact s_X9_leastImage_4 FU _ _ _ ⟨by omega, by omega⟩ ⟨by omega, by omega⟩ p_NP (by show _ < (70000 : Int); omega) iM kM
def W_X9_isForm (b j : Int) : Prop := b = 154 ∨ (160 ≤ b ∧ b ≤ 162) ∨ (b = 126 ∧ j = 46)
theorem s_X9_isForm {n : Nat} {l1 : Int} {M : Mem} (r_l1 : 0 ≤ l1 ∧ l1 ≤ 4095) (p_F12 : F12 M) (p_NP : NP M) (p_WF : WF M) (iM : I n M) : wp (mX9_isForm 126 l1 M) (fun q => I n q.2 ∧ Keep n W_X9_isForm M q.2 ∧ (0 ≤ q.1 ∧ q.1 ≤ 1) ∧ True) := by
  have hn : (169 : Int) ≤ (n : Int) := by have := iM.2.2.2.2.1; omega
  have kM : Keep n W_X9_isForm M M := Keep.rf
  unfold mX9_isForm
  refine w_gK (congrArg Prod.fst (kl_126 iM)) ?_
  refine w_call (s_X9_isWorld ⟨by omega, by omega⟩ p_F12 p_NP p_WF iM) ?_
  intro v2 m2 pp2
  obtain ⟨im2, kk2, e2_0, -⟩ := pp2
  try dsimp only
  replace im2 : I n m2 := im2
  replace kk2 : Keep n W_X9_isWorld M m2 := kk2
  have km2 : Keep n W_X9_isForm M m2 := kM.tr kk2 (fun b j z => Or.elim z (fun z => (Or.inl z)) (fun z => Or.elim z (fun z => (Or.inr (Or.inl ⟨by omega, by omega⟩))) (fun z => (Or.inr (Or.inr z)))))
  replace e2_0 : 0 ≤ v2 ∧ v2 ≤ 1 := e2_0
  refine w_if (fun c1_ => ?_) (fun c1_ => ?_)
  · skip
    exact w_ret ⟨im2, km2, (show 0 ≤ 0 ∧ 0 ≤ 1 from ⟨by omega, by omega⟩), trivial⟩
  · skip
    refine w_gK (congrArg Prod.fst (kl_126 im2)) ?_
    have ppNP_m2 : NP m2 := (NP_of p_NP (fun j => kk2.2.2 152 j (by omega) (fun z => by unfold W_X9_isWorld at z; (try unfold isWS at z); (try unfold isShape at z); (try unfold isTold at z); (try dsimp only at z); omega)))
    refine w_call (s_X9_leastImage ppNP_m2 im2) ?_
    intro v9 m9 pp9
    obtain ⟨im9, kk9, e9_0, -⟩ := pp9
    try dsimp only
    replace im9 : I n m9 := im9
    replace kk9 : Keep n W_X9_leastImage m2 m9 := kk9
    have km9 : Keep n W_X9_isForm M m9 := km2.tr kk9 (fun b j z => by unfold W_X9_leastImage at z; exact (Or.inr (Or.inl ⟨by omega, by omega⟩)))
    replace e9_0 : (-2147483648) ≤ v9 ∧ v9 ≤ 2147483647 := e9_0
    refine w_if (fun c2_ => ?_) (fun c2_ => ?_)
    · skip
      exact w_ret ⟨im9, km9, (show 0 ≤ 1 ∧ 1 ≤ 1 from ⟨by omega, by omega⟩), trivial⟩
    · skip
      exact w_ret ⟨im9, km9, (show 0 ≤ 0 ∧ 0 ≤ 1 from ⟨by omega, by omega⟩), trivial⟩
def W_X9_forms (b j : Int) : Prop := (152 ≤ b ∧ b ≤ 154) ∨ (160 ≤ b ∧ b ≤ 162) ∨ (b = 126 ∧ j = 0) ∨ (b = 126 ∧ j = 46) ∨ (b = 126 ∧ j = 48) ∨ (b = 126 ∧ j = 49) ∨ (b = 126 ∧ j = 50)
theorem s_X9_forms_46 {n : Nat} {Me : Mem} {k22 : Int → Int → Int → Mem → Option (Int × Mem)} {fu22 : Nat} (hk22 : ∀ (l1 l2 : Int) (M : Mem), ((-2147483648) ≤ l1 ∧ l1 ≤ 2147483647) → (0 ≤ l2 ∧ l2 ≤ 4096) → (F12 M) → (NP M) → (SF M) → (WF M) → 4097 - l2 < (fu22 : Int) → I n M → Keep n W_X9_forms Me M → wp (k22 126 l1 l2 M) (fun q => I n q.2 ∧ Keep n W_X9_forms Me q.2 ∧ ((-2147483648) ≤ q.1 ∧ q.1 ≤ 2147483647) ∧ True)) {l2 s0 s1 : Int} {M : Mem} (r_l2 : 0 ≤ l2 ∧ l2 ≤ 4095) (r_s0 : (-2147483648) ≤ s0 ∧ s0 ≤ 2147483647) (r_s1 : 0 ≤ s1 ∧ s1 ≤ 1) (p_F12 : F12 M) (p_NP : NP M) (p_SF : SF M) (p_WF : WF M) (hf22 : 4097 - l2 < (fu22 : Int) + 1) (iM : I n M) (kM : Keep n W_X9_forms Me M) : wp (mX9_forms_46 k22 126 l2 s0 s1 M) (fun q => I n q.2 ∧ Keep n W_X9_forms Me q.2 ∧ ((-2147483648) ≤ q.1 ∧ q.1 ≤ 2147483647) ∧ True) := by
  have hn : (169 : Int) ≤ (n : Int) := by have := iM.2.2.2.2.1; omega
  unfold mX9_forms_46
  have w1_ := And.intro (wI_lo (s0 + s1)) (wI_hi (s0 + s1))
  have w2_ := wI_id (x := (l2 + 1)) (by omega) (by omega)
  exact hk22 _ _ _ ⟨by omega, by omega⟩ ⟨by omega, by omega⟩ p_F12 p_NP p_SF p_WF (by omega) iM kM
theorem sb_X9_forms_22 {n : Nat} {Me : Mem} {k22 : Int → Int → Int → Mem → Option (Int × Mem)} {fu22 : Nat} (hk22 : ∀ (l1 l2 : Int) (M : Mem), ((-2147483648) ≤ l1 ∧ l1 ≤ 2147483647) → (0 ≤ l2 ∧ l2 ≤ 4096) → (F12 M) → (NP M) → (SF M) → (WF M) → 4097 - l2 < (fu22 : Int) → I n M → Keep n W_X9_forms Me M → wp (k22 126 l1 l2 M) (fun q => I n q.2 ∧ Keep n W_X9_forms Me q.2 ∧ ((-2147483648) ≤ q.1 ∧ q.1 ≤ 2147483647) ∧ True)) {l1 l2 : Int} {M : Mem} (r_l1 : (-2147483648) ≤ l1 ∧ l1 ≤ 2147483647) (r_l2 : 0 ≤ l2 ∧ l2 ≤ 4096) (p_F12 : F12 M) (p_NP : NP M) (p_SF : SF M) (p_WF : WF M) (hf22 : 4097 - l2 < (fu22 : Int) + 1) (iM : I n M) (kM : Keep n W_X9_forms Me M) : wp (bX9_forms_22 k22 126 l1 l2 M) (fun q => I n q.2 ∧ Keep n W_X9_forms Me q.2 ∧ ((-2147483648) ≤ q.1 ∧ q.1 ≤ 2147483647) ∧ True) := by
  have hn : (169 : Int) ≤ (n : Int) := by have := iM.2.2.2.2.1; omega
  unfold bX9_forms_22
  refine w_gK (congrArg Prod.fst (kl_126 iM)) ?_
  refine w_call (s_X9_manyFacts iM) ?_
  intro v25 m25 pp25
  obtain ⟨im25, kk25, e25_0, e25_1, -⟩ := pp25
  try dsimp only
  replace im25 : I n m25 := im25
  replace kk25 : Keep n W_X9_manyFacts M m25 := kk25
  have km25 : Keep n W_X9_forms Me m25 := kM.tr kk25 (fun b j z => z.elim)
  replace e25_0 : 0 ≤ v25 ∧ v25 ≤ 36 := e25_0
  replace e25_1 : v25 = mG m25 153 (mG m25 134 0) := e25_1
  have ev25 := e25_1
  have ppF12_m25 : F12 m25 := (F12_of p_F12 (fun j => kk25.2.2 153 j (by omega) (fun z => z)) (fun j => kk25.2.2 134 j (by omega) (fun z => z)))
  have fv25 : v25 ≤ 12 := by rw [ev25]; exact ppF12_m25
  have w1_ := ishl1_b (k := v25) (B := 12) (by omega) (by omega) (by decide)
  refine w_if (fun c2_ => ?_) (fun c2_ => ?_)
  · skip
    exact w_ret ⟨im25, km25, (show (-2147483648) ≤ l1 ∧ l1 ≤ 2147483647 from ⟨by omega, by omega⟩), trivial⟩
  · skip
    refine w_gK (congrArg Prod.fst (kl_126 im25)) ?_
    have ppNP_m25 : NP m25 := (NP_of p_NP (fun j => kk25.2.2 152 j (by omega) (fun z => z)))
    have ppWF_m25 : WF m25 := (WF_of p_WF (fun j => kk25.2.2 141 j (by omega) (fun z => z)) (fun j => kk25.2.2 142 j (by omega) (fun z => z)) (fun j => kk25.2.2 143 j (by omega) (fun z => z)) (fun j => kk25.2.2 144 j (by omega) (fun z => z)) (fun j => kk25.2.2 138 j (by omega) (fun z => z)))
    refine w_call (s_X9_isForm ⟨by omega, by omega⟩ ppF12_m25 ppNP_m25 ppWF_m25 im25) ?_
    intro v35 m35 pp35
    obtain ⟨im35, kk35, e35_0, -⟩ := pp35
    try dsimp only
    replace im35 : I n m35 := im35
    replace kk35 : Keep n W_X9_isForm m25 m35 := kk35
    have km35 : Keep n W_X9_forms Me m35 := km25.tr kk35 (fun b j z => Or.elim z (fun z => (Or.inl ⟨by omega, by omega⟩)) (fun z => Or.elim z (fun z => (Or.inr (Or.inl z))) (fun z => (Or.inr (Or.inr (Or.inr (Or.inl z)))))))
    replace e35_0 : 0 ≤ v35 ∧ v35 ≤ 1 := e35_0
    refine w_if (fun c3_ => ?_) (fun c3_ => ?_)
    · skip
      have ppF12_m35 : F12 m35 := (F12_of ppF12_m25 (fun j => kk35.2.2 153 j (by omega) (fun z => by unfold W_X9_isForm at z; (try unfold isWS at z); (try unfold isShape at z); (try unfold isTold at z); (try dsimp only at z); omega)) (fun j => kk35.2.2 134 j (by omega) (fun z => by unfold W_X9_isForm at z; (try unfold isWS at z); (try unfold isShape at z); (try unfold isTold at z); (try dsimp only at z); omega)))
      have ppNP_m35 : NP m35 := (NP_of ppNP_m25 (fun j => kk35.2.2 152 j (by omega) (fun z => by unfold W_X9_isForm at z; (try unfold isWS at z); (try unfold isShape at z); (try unfold isTold at z); (try dsimp only at z); omega)))
      have ppSF_m35 : SF m35 := (SF_of (SF_of p_SF (fun j => kk25.2.2 153 j (by omega) (fun z => z)) (fun j => kk25.2.2 134 j (by omega) (fun z => z)) (fun j => kk25.2.2 133 j (by omega) (fun z => z)) (fun j => kk25.2.2 135 j (by omega) (fun z => z)) (fun j => kk25.2.2 136 j (by omega) (fun z => z)) (fun j => kk25.2.2 152 j (by omega) (fun z => z))) (fun j => kk35.2.2 153 j (by omega) (fun z => by unfold W_X9_isForm at z; (try unfold isWS at z); (try unfold isShape at z); (try unfold isTold at z); (try dsimp only at z); omega)) (fun j => kk35.2.2 134 j (by omega) (fun z => by unfold W_X9_isForm at z; (try unfold isWS at z); (try unfold isShape at z); (try unfold isTold at z); (try dsimp only at z); omega)) (fun j => kk35.2.2 133 j (by omega) (fun z => by unfold W_X9_isForm at z; (try unfold isWS at z); (try unfold isShape at z); (try unfold isTold at z); (try dsimp only at z); omega)) (fun j => kk35.2.2 135 j (by omega) (fun z => by unfold W_X9_isForm at z; (try unfold isWS at z); (try unfold isShape at z); (try unfold isTold at z); (try dsimp only at z); omega)) (fun j => kk35.2.2 136 j (by omega) (fun z => by unfold W_X9_isForm at z; (try unfold isWS at z); (try unfold isShape at z); (try unfold isTold at z); (try dsimp only at z); omega)) (fun j => kk35.2.2 152 j (by omega) (fun z => by unfold W_X9_isForm at z; (try unfold isWS at z); (try unfold isShape at z); (try unfold isTold at z); (try dsimp only at z); omega)))
      have ppWF_m35 : WF m35 := (WF_of ppWF_m25 (fun j => kk35.2.2 141 j (by omega) (fun z => by unfold W_X9_isForm at z; (try unfold isWS at z); (try unfold isShape at z); (try unfold isTold at z); (try dsimp only at z); omega)) (fun j => kk35.2.2 142 j (by omega) (fun z => by unfold W_X9_isForm at z; (try unfold isWS at z); (try unfold isShape at z); (try unfold isTold at z); (try dsimp only at z); omega)) (fun j => kk35.2.2 143 j (by omega) (fun z => by unfold W_X9_isForm at z; (try unfold isWS at z); (try unfold isShape at z); (try unfold isTold at z); (try dsimp only at z); omega)) (fun j => kk35.2.2 144 j (by omega) (fun z => by unfold W_X9_isForm at z; (try unfold isWS at z); (try unfold isShape at z); (try unfold isTold at z); (try dsimp only at z); omega)) (fun j => kk35.2.2 138 j (by omega) (fun z => by unfold W_X9_isForm at z; (try unfold isWS at z); (try unfold isShape at z); (try unfold isTold at z); (try dsimp only at z); omega)))
      exact s_X9_forms_46 hk22 ⟨by omega, by omega⟩ ⟨by omega, by omega⟩ ⟨by omega, by omega⟩ ppF12_m35 ppNP_m35 ppSF_m35 ppWF_m35 (by omega) im35 km35
    · skip
      have ppF12_m35 : F12 m35 := (F12_of ppF12_m25 (fun j => kk35.2.2 153 j (by omega) (fun z => by unfold W_X9_isForm at z; (try unfold isWS at z); (try unfold isShape at z); (try unfold isTold at z); (try dsimp only at z); omega)) (fun j => kk35.2.2 134 j (by omega) (fun z => by unfold W_X9_isForm at z; (try unfold isWS at z); (try unfold isShape at z); (try unfold isTold at z); (try dsimp only at z); omega)))
      have ppNP_m35 : NP m35 := (NP_of ppNP_m25 (fun j => kk35.2.2 152 j (by omega) (fun z => by unfold W_X9_isForm at z; (try unfold isWS at z); (try unfold isShape at z); (try unfold isTold at z); (try dsimp only at z); omega)))
      have ppSF_m35 : SF m35 := (SF_of (SF_of p_SF (fun j => kk25.2.2 153 j (by omega) (fun z => z)) (fun j => kk25.2.2 134 j (by omega) (fun z => z)) (fun j => kk25.2.2 133 j (by omega) (fun z => z)) (fun j => kk25.2.2 135 j (by omega) (fun z => z)) (fun j => kk25.2.2 136 j (by omega) (fun z => z)) (fun j => kk25.2.2 152 j (by omega) (fun z => z))) (fun j => kk35.2.2 153 j (by omega) (fun z => by unfold W_X9_isForm at z; (try unfold isWS at z); (try unfold isShape at z); (try unfold isTold at z); (try dsimp only at z); omega)) (fun j => kk35.2.2 134 j (by omega) (fun z => by unfold W_X9_isForm at z; (try unfold isWS at z); (try unfold isShape at z); (try unfold isTold at z); (try dsimp only at z); omega)) (fun j => kk35.2.2 133 j (by omega) (fun z => by unfold W_X9_isForm at z; (try unfold isWS at z); (try unfold isShape at z); (try unfold isTold at z); (try dsimp only at z); omega)) (fun j => kk35.2.2 135 j (by omega) (fun z => by unfold W_X9_isForm at z; (try unfold isWS at z); (try unfold isShape at z); (try unfold isTold at z); (try dsimp only at z); omega)) (fun j => kk35.2.2 136 j (by omega) (fun z => by unfold W_X9_isForm at z; (try unfold isWS at z); (try unfold isShape at z); (try unfold isTold at z); (try dsimp only at z); omega)) (fun j => kk35.2.2 152 j (by omega) (fun z => by unfold W_X9_isForm at z; (try unfold isWS at z); (try unfold isShape at z); (try unfold isTold at z); (try dsimp only at z); omega)))
      have ppWF_m35 : WF m35 := (WF_of ppWF_m25 (fun j => kk35.2.2 141 j (by omega) (fun z => by unfold W_X9_isForm at z; (try unfold isWS at z); (try unfold isShape at z); (try unfold isTold at z); (try dsimp only at z); omega)) (fun j => kk35.2.2 142 j (by omega) (fun z => by unfold W_X9_isForm at z; (try unfold isWS at z); (try unfold isShape at z); (try unfold isTold at z); (try dsimp only at z); omega)) (fun j => kk35.2.2 143 j (by omega) (fun z => by unfold W_X9_isForm at z; (try unfold isWS at z); (try unfold isShape at z); (try unfold isTold at z); (try dsimp only at z); omega)) (fun j => kk35.2.2 144 j (by omega) (fun z => by unfold W_X9_isForm at z; (try unfold isWS at z); (try unfold isShape at z); (try unfold isTold at z); (try dsimp only at z); omega)) (fun j => kk35.2.2 138 j (by omega) (fun z => by unfold W_X9_isForm at z; (try unfold isWS at z); (try unfold isShape at z); (try unfold isTold at z); (try dsimp only at z); omega)))
      exact s_X9_forms_46 hk22 ⟨by omega, by omega⟩ ⟨by omega, by omega⟩ ⟨by omega, by omega⟩ ppF12_m35 ppNP_m35 ppSF_m35 ppWF_m35 (by omega) im35 km35
theorem s_X9_forms_22 {n : Nat} {Me : Mem} : ∀ (fu : Nat) (l1 l2 : Int) (M : Mem), ((-2147483648) ≤ l1 ∧ l1 ≤ 2147483647) → (0 ≤ l2 ∧ l2 ≤ 4096) → (F12 M) → (NP M) → (SF M) → (WF M) → 4097 - l2 < (fu : Int) → I n M → Keep n W_X9_forms Me M → wp (mX9_forms_22 fu 126 l1 l2 M) (fun q => I n q.2 ∧ Keep n W_X9_forms Me q.2 ∧ ((-2147483648) ≤ q.1 ∧ q.1 ≤ 2147483647) ∧ True) := by
  intro fu
  induction fu with
  | zero =>
    intro l1 l2 M r_l1 r_l2 p_F12 p_NP p_SF p_WF hf iM kM
    exfalso
    omega
  | succ fu ih =>
    intro l1 l2 M r_l1 r_l2 p_F12 p_NP p_SF p_WF hf iM kM
    exact sb_X9_forms_22 ih r_l1 r_l2 p_F12 p_NP p_SF p_WF (by have e : ((fu + 1 : Nat) : Int) = (fu : Int) + 1 := rfl; rw [e] at hf; exact hf) iM kM
theorem s_X9_forms {n : Nat} {M : Mem} (p_WF : WF M) (iM : I n M) : wp (mX9_forms 126 M) (fun q => I n q.2 ∧ Keep n W_X9_forms M q.2 ∧ ((-2147483648) ≤ q.1 ∧ q.1 ≤ 2147483647) ∧ True) := by
  have hn : (169 : Int) ≤ (n : Int) := by have := iM.2.2.2.2.1; omega
  have kM : Keep n W_X9_forms M M := Keep.rf
  unfold mX9_forms
  refine w_pF (ji := 0) rfl (congrArg Prod.fst (kl_126 iM)) (fun M2 hM2 => ?_)
  replace hM2 : M2 = mS M 126 0 0 := hM2
  have iM2 : I n M2 := wr_Model_0 iM rfl ⟨by omega, by omega⟩ hM2
  have kM2 : Keep n W_X9_forms M M2 := kM.st hM2 (Or.inl (Or.inr (Or.inr (Or.inl ⟨rfl, rfl⟩))))
  refine w_gK (congrArg Prod.fst (kl_126 iM2)) ?_
  refine w_call (s_X9_canTell iM2) ?_
  intro v6 m6 pp6
  obtain ⟨im6, kk6, e6_0, e6_1, e6_2, e6_3, -⟩ := pp6
  try dsimp only
  replace im6 : I n m6 := im6
  replace kk6 : Keep n W_X9_canTell M2 m6 := kk6
  have km6 : Keep n W_X9_forms M m6 := kM2.tr kk6 (fun b j z => by unfold W_X9_canTell at z; exact (Or.inl ⟨by omega, by omega⟩))
  replace e6_0 : 0 ≤ v6 ∧ v6 ≤ 1 := e6_0
  replace e6_1 : NP m6 := e6_1
  have gNP_m6 := e6_1
  replace e6_2 : SF m6 := e6_2
  have gSF_m6 := e6_2
  replace e6_3 : v6 = 1 → F12 m6 := e6_3
  have ev6 := e6_3
  refine w_if (fun c1_ => ?_) (fun c1_ => ?_)
  · skip
    exact w_ret ⟨im6, km6, (show (-2147483648) ≤ (-1) ∧ (-1) ≤ 2147483647 from ⟨by omega, by omega⟩), trivial⟩
  · skip
    have pF12_c1__m6 : F12 m6 := ev6 (by omega)
    refine w_gK (congrArg Prod.fst (kl_126 im6)) ?_
    refine w_call (s_X9_prepare pF12_c1__m6 gNP_m6 im6) ?_
    intro v15 m15 pp15
    obtain ⟨im15, kk15, -⟩ := pp15
    try dsimp only
    replace im15 : I n m15 := im15
    replace kk15 : Keep n W_X9_prepare m6 m15 := kk15
    have km15 : Keep n W_X9_forms M m15 := km6.tr kk15 (fun b j z => Or.elim z (fun z => (Or.inr (Or.inr (Or.inr (Or.inr (Or.inl z)))))) (fun z => Or.elim z (fun z => (Or.inr (Or.inr (Or.inr (Or.inr (Or.inr (Or.inl z))))))) (fun z => (Or.inr (Or.inr (Or.inr (Or.inr (Or.inr (Or.inr z)))))))))
    have ppF12_m15 : F12 m15 := (F12_of pF12_c1__m6 (fun j => kk15.2.2 153 j (by omega) (fun z => by unfold W_X9_prepare at z; (try unfold isWS at z); (try unfold isShape at z); (try unfold isTold at z); (try dsimp only at z); omega)) (fun j => kk15.2.2 134 j (by omega) (fun z => by unfold W_X9_prepare at z; (try unfold isWS at z); (try unfold isShape at z); (try unfold isTold at z); (try dsimp only at z); omega)))
    have ppNP_m15 : NP m15 := (NP_of gNP_m6 (fun j => kk15.2.2 152 j (by omega) (fun z => by unfold W_X9_prepare at z; (try unfold isWS at z); (try unfold isShape at z); (try unfold isTold at z); (try dsimp only at z); omega)))
    have ppSF_m15 : SF m15 := (SF_of gSF_m6 (fun j => kk15.2.2 153 j (by omega) (fun z => by unfold W_X9_prepare at z; (try unfold isWS at z); (try unfold isShape at z); (try unfold isTold at z); (try dsimp only at z); omega)) (fun j => kk15.2.2 134 j (by omega) (fun z => by unfold W_X9_prepare at z; (try unfold isWS at z); (try unfold isShape at z); (try unfold isTold at z); (try dsimp only at z); omega)) (fun j => kk15.2.2 133 j (by omega) (fun z => by unfold W_X9_prepare at z; (try unfold isWS at z); (try unfold isShape at z); (try unfold isTold at z); (try dsimp only at z); omega)) (fun j => kk15.2.2 135 j (by omega) (fun z => by unfold W_X9_prepare at z; (try unfold isWS at z); (try unfold isShape at z); (try unfold isTold at z); (try dsimp only at z); omega)) (fun j => kk15.2.2 136 j (by omega) (fun z => by unfold W_X9_prepare at z; (try unfold isWS at z); (try unfold isShape at z); (try unfold isTold at z); (try dsimp only at z); omega)) (fun j => kk15.2.2 152 j (by omega) (fun z => by unfold W_X9_prepare at z; (try unfold isWS at z); (try unfold isShape at z); (try unfold isTold at z); (try dsimp only at z); omega)))
    have ppWF_m15 : WF m15 := (WF_of (WF_of (WF_of p_WF (fun j => st_ne hM2 (fun z => ne_fam rfl rfl (by decide) z.1)) (fun j => st_ne hM2 (fun z => ne_fam rfl rfl (by decide) z.1)) (fun j => st_ne hM2 (fun z => ne_fam rfl rfl (by decide) z.1)) (fun j => st_ne hM2 (fun z => ne_fam rfl rfl (by decide) z.1)) (fun j => st_ne hM2 (fun z => ne_fam rfl rfl (by decide) z.1))) (fun j => kk6.2.2 141 j (by omega) (fun z => by unfold W_X9_canTell at z; (try unfold isWS at z); (try unfold isShape at z); (try unfold isTold at z); (try dsimp only at z); omega)) (fun j => kk6.2.2 142 j (by omega) (fun z => by unfold W_X9_canTell at z; (try unfold isWS at z); (try unfold isShape at z); (try unfold isTold at z); (try dsimp only at z); omega)) (fun j => kk6.2.2 143 j (by omega) (fun z => by unfold W_X9_canTell at z; (try unfold isWS at z); (try unfold isShape at z); (try unfold isTold at z); (try dsimp only at z); omega)) (fun j => kk6.2.2 144 j (by omega) (fun z => by unfold W_X9_canTell at z; (try unfold isWS at z); (try unfold isShape at z); (try unfold isTold at z); (try dsimp only at z); omega)) (fun j => kk6.2.2 138 j (by omega) (fun z => by unfold W_X9_canTell at z; (try unfold isWS at z); (try unfold isShape at z); (try unfold isTold at z); (try dsimp only at z); omega))) (fun j => kk15.2.2 141 j (by omega) (fun z => by unfold W_X9_prepare at z; (try unfold isWS at z); (try unfold isShape at z); (try unfold isTold at z); (try dsimp only at z); omega)) (fun j => kk15.2.2 142 j (by omega) (fun z => by unfold W_X9_prepare at z; (try unfold isWS at z); (try unfold isShape at z); (try unfold isTold at z); (try dsimp only at z); omega)) (fun j => kk15.2.2 143 j (by omega) (fun z => by unfold W_X9_prepare at z; (try unfold isWS at z); (try unfold isShape at z); (try unfold isTold at z); (try dsimp only at z); omega)) (fun j => kk15.2.2 144 j (by omega) (fun z => by unfold W_X9_prepare at z; (try unfold isWS at z); (try unfold isShape at z); (try unfold isTold at z); (try dsimp only at z); omega)) (fun j => kk15.2.2 138 j (by omega) (fun z => by unfold W_X9_prepare at z; (try unfold isWS at z); (try unfold isShape at z); (try unfold isTold at z); (try dsimp only at z); omega)))
    exact s_X9_forms_22 FU _ _ _ ⟨by omega, by omega⟩ ⟨by omega, by omega⟩ ppF12_m15 ppNP_m15 ppSF_m15 ppWF_m15 (by show _ < (70000 : Int); omega) im15 km15
