def W_X3_isKind (b j : Int) : Prop := False
theorem s_X3_isKind {n : Nat} {l0 : Int} {M : Mem} (r_l0 : (-2147483648) ≤ l0 ∧ l0 ≤ 2147483647) (iM : I n M) : wp (mX3_isKind l0 M) (fun q => I n q.2 ∧ Keep n W_X3_isKind M q.2 ∧ (0 ≤ q.1 ∧ q.1 ≤ 1) ∧ (q.1 = 1 → 0 ≤ l0 ∧ l0 ≤ 2) ∧ True) := by
  have hn : (169 : Int) ≤ (n : Int) := by have := iM.2.2.2.2.1; omega
  have kM : Keep n W_X3_isKind M M := Keep.rf
  unfold mX3_isKind
  refine w_if (fun c1_ => ?_) (fun c1_ => ?_)
  · skip
    exact w_ret ⟨iM, kM, (show 0 ≤ 0 ∧ 0 ≤ 1 from ⟨by omega, by omega⟩), (show 0 = 1 → 0 ≤ l0 ∧ l0 ≤ 2 from fun z => by omega), trivial⟩
  · skip
    refine w_if (fun c2_ => ?_) (fun c2_ => ?_)
    · skip
      exact w_ret ⟨iM, kM, (show 0 ≤ 0 ∧ 0 ≤ 1 from ⟨by omega, by omega⟩), (show 0 = 1 → 0 ≤ l0 ∧ l0 ≤ 2 from fun z => by omega), trivial⟩
    · skip
      exact w_ret ⟨iM, kM, (show 0 ≤ 1 ∧ 1 ≤ 1 from ⟨by omega, by omega⟩), (show 1 = 1 → 0 ≤ l0 ∧ l0 ≤ 2 from fun z => by omega), trivial⟩
def W_X3_layOut (l0 : Int) (b j : Int) : Prop := b = (l0 + 4) ∨ b = (l0 + 5) ∨ b = (l0 + 6) ∨ (b = l0 ∧ j = 7)
theorem s_X3_layOut_69 {n : Nat} {Me : Mem} {l0 : Int} (h_l0 : isShape l0) {k7 : Int → Int → Mem → Option (Int × Mem)} {fu7 : Nat} (hk7 : ∀ (l1 : Int) (M : Mem), (0 ≤ l1 ∧ l1 ≤ 4) → (mG M l0 7 ≤ 9 * l1) → 5 - l1 < (fu7 : Int) → I n M → Keep n (W_X3_layOut l0) Me M → wp (k7 l0 l1 M) (fun q => I n q.2 ∧ Keep n (W_X3_layOut l0) Me q.2 ∧ True)) {l1 s1 s2 : Int} {M : Mem} (r_l1 : 0 ≤ l1 ∧ l1 ≤ 3) (r_s1 : 0 ≤ s1 ∧ s1 ≤ 3) (r_s2 : 1 ≤ s2 ∧ s2 ≤ 3) (y0 : mG M l0 7 ≤ 9 * l1) (hf7 : 5 - l1 < (fu7 : Int) + 1) (iM : I n M) (kM : Keep n (W_X3_layOut l0) Me M) : wp (mX3_layOut_69 k7 l0 l1 (l0 + 6) s1 s2 M) (fun q => I n q.2 ∧ Keep n (W_X3_layOut l0) Me q.2 ∧ True) := by
  have hn : (169 : Int) ≤ (n : Int) := by have := iM.2.2.2.2.1; omega
  have u_l0 := h_l0
  unfold isShape at u_l0
  obtain ⟨nh0, enh0⟩ : ∃ v, Is (mG M l0 7) v := ⟨_, rfl⟩
  have rnh0 : 0 ≤ nh0 ∧ nh0 ≤ 36 := by rw [← enh0.e]; exact rd_Shape_7 iM (f_Shape h_l0)
  (try rw [enh0.e] at y0); (try rw [enh0.e] at hf7)
  unfold mX3_layOut_69
  refine w_aS (k_Swidth iM h_l0) (by omega) (by omega) (fun M69 hM69 => ?_)
  replace hM69 : M69 = mS M (l0 + 6) s1 s2 := hM69
  have iM69 : I n M69 := wr_Swidth iM (f_Swidth h_l0) ⟨by omega, by omega⟩ hM69
  have kM69 : Keep n (W_X3_layOut l0) Me M69 := kM.st hM69 (Or.inl (Or.inr (Or.inr (Or.inl rfl))))
  refine w_gFc (ji := 7) rfl (congrArg Prod.fst (k_Shape iM69 h_l0)) (show mG M69 l0 7 = nh0 from ((st_ne hM69 (fun z => ne_fam (f_Shape h_l0) (f_Swidth h_l0) (by decide) z.1)).trans (show mG M l0 7 = nh0 from enh0))) ?_
  refine w_gFc (ji := 4) rfl (congrArg Prod.fst (k_Shape iM69 h_l0)) (show mG M69 l0 4 = (l0 + 5) from rd_Shape_4 iM69 (a := l0) (f_Shape h_l0)) ?_
  refine w_aG (k_Sheight iM69 h_l0) (by omega) (by omega) (fun a80 ha80 => ?_)
  have ra80 : 0 ≤ a80 ∧ a80 ≤ 3 := ha80.tr (P := fun z => 0 ≤ z ∧ z ≤ 3) (rd_Sheight iM69 (f_Sheight h_l0))
  refine w_gFc (ji := 5) rfl (congrArg Prod.fst (k_Shape iM69 h_l0)) (show mG M69 l0 5 = (l0 + 6) from rd_Shape_5 iM69 (a := l0) (f_Shape h_l0)) ?_
  refine w_aG (k_Swidth iM69 h_l0) (by omega) (by omega) (fun a86 ha86 => ?_)
  have ra86 : 0 ≤ a86 ∧ a86 ≤ 3 := ha86.tr (P := fun z => 0 ≤ z ∧ z ≤ 3) (rd_Swidth iM69 (f_Swidth h_l0))
  have w1_ := mul_b (x := a80) (y := a86) (a := 3) (b := 3) (by omega) (by omega) (by omega) (by omega)
  have w2_ := wI_id (x := (a80 * a86)) (by omega) (by omega)
  have w3_ := wI_id (x := (nh0 + (wI (a80 * a86)))) (by omega) (by omega)
  refine w_pF (ji := 7) rfl (congrArg Prod.fst (k_Shape iM69 h_l0)) (fun M89 hM89 => ?_)
  replace hM89 : M89 = mS M69 l0 7 (wI (nh0 + (wI (a80 * a86)))) := hM89
  have iM89 : I n M89 := wr_Shape_7 iM69 (f_Shape h_l0) ⟨by omega, by omega⟩ hM89
  have kM89 : Keep n (W_X3_layOut l0) Me M89 := kM69.st hM89 (Or.inl (Or.inr (Or.inr (Or.inr ⟨rfl, rfl⟩))))
  obtain ⟨svM89, esvM89⟩ : ∃ z, z = (wI (nh0 + (wI (a80 * a86)))) := ⟨_, rfl⟩
  have w4_ := wI_id (x := (l1 + 1)) (by omega) (by omega)
  exact hk7 _ _ ⟨by omega, by omega⟩ (by (try rw [(show mG M89 l0 7 = svM89 from (show mG M89 l0 7 = svM89 from ((st_eq hM89).trans esvM89.symm)))]); all_goals omega) (by omega) iM89 kM89
theorem sb_X3_layOut_7 {n : Nat} {Me : Mem} {l0 : Int} (h_l0 : isShape l0) {k7 : Int → Int → Mem → Option (Int × Mem)} {fu7 : Nat} (hk7 : ∀ (l1 : Int) (M : Mem), (0 ≤ l1 ∧ l1 ≤ 4) → (mG M l0 7 ≤ 9 * l1) → 5 - l1 < (fu7 : Int) → I n M → Keep n (W_X3_layOut l0) Me M → wp (k7 l0 l1 M) (fun q => I n q.2 ∧ Keep n (W_X3_layOut l0) Me q.2 ∧ True)) {l1 : Int} {M : Mem} (r_l1 : 0 ≤ l1 ∧ l1 ≤ 4) (y0 : mG M l0 7 ≤ 9 * l1) (hf7 : 5 - l1 < (fu7 : Int) + 1) (iM : I n M) (kM : Keep n (W_X3_layOut l0) Me M) : wp (bX3_layOut_7 k7 l0 l1 M) (fun q => I n q.2 ∧ Keep n (W_X3_layOut l0) Me q.2 ∧ True) := by
  have hn : (169 : Int) ≤ (n : Int) := by have := iM.2.2.2.2.1; omega
  have u_l0 := h_l0
  unfold isShape at u_l0
  obtain ⟨nh0, enh0⟩ : ∃ v, Is (mG M l0 7) v := ⟨_, rfl⟩
  have rnh0 : 0 ≤ nh0 ∧ nh0 ≤ 36 := by rw [← enh0.e]; exact rd_Shape_7 iM (f_Shape h_l0)
  (try rw [enh0.e] at y0); (try rw [enh0.e] at hf7)
  unfold bX3_layOut_7
  refine w_gF (ji := 6) rfl (congrArg Prod.fst (k_Shape iM h_l0)) (fun a9 ha9 => ?_)
  have ra9 : 0 ≤ a9 ∧ a9 ≤ 4 := ha9.tr (P := fun z => 0 ≤ z ∧ z ≤ 4) (rd_Shape_6 iM (f_Shape h_l0))
  refine w_if (fun c1_ => ?_) (fun c1_ => ?_)
  · skip
    exact w_ret ⟨iM, kM, trivial⟩
  · skip
    refine w_gFc (ji := 2) rfl (congrArg Prod.fst (k_Shape iM h_l0)) (show mG M l0 2 = (l0 + 3) from rd_Shape_2 iM (a := l0) (f_Shape h_l0)) ?_
    refine w_aG (k_Ssecond iM h_l0) (by omega) (by omega) (fun a20 ha20 => ?_)
    have ra20 : (-1) ≤ a20 ∧ a20 ≤ 2 := ha20.tr (P := fun z => (-1) ≤ z ∧ z ≤ 2) (rd_Ssecond iM (f_Ssecond h_l0))
    refine w_gFc (ji := 3) rfl (congrArg Prod.fst (k_Shape iM h_l0)) (show mG M l0 3 = (l0 + 4) from rd_Shape_3 iM (a := l0) (f_Shape h_l0)) ?_
    refine w_gFc (ji := 7) rfl (congrArg Prod.fst (k_Shape iM h_l0)) (show mG M l0 7 = nh0 from (show mG M l0 7 = nh0 from enh0)) ?_
    refine w_aS (k_Sstart iM h_l0) (by omega) (by omega) (fun M31 hM31 => ?_)
    replace hM31 : M31 = mS M (l0 + 4) l1 nh0 := hM31
    have iM31 : I n M31 := wr_Sstart iM (f_Sstart h_l0) ⟨by omega, by omega⟩ hM31
    have kM31 : Keep n (W_X3_layOut l0) Me M31 := kM.st hM31 (Or.inl (Or.inl rfl))
    refine w_gFc (ji := 4) rfl (congrArg Prod.fst (k_Shape iM31 h_l0)) (show mG M31 l0 4 = (l0 + 5) from rd_Shape_4 iM31 (a := l0) (f_Shape h_l0)) ?_
    refine w_gFc (ji := 0) rfl (congrArg Prod.fst (k_Shape iM31 h_l0)) (show mG M31 l0 0 = (l0 + 1) from rd_Shape_0 iM31 (a := l0) (f_Shape h_l0)) ?_
    refine w_gFc (ji := 1) rfl (congrArg Prod.fst (k_Shape iM31 h_l0)) (show mG M31 l0 1 = (l0 + 2) from rd_Shape_1 iM31 (a := l0) (f_Shape h_l0)) ?_
    refine w_aG (k_Sfirst iM31 h_l0) (by omega) (by omega) (fun a46 ha46 => ?_)
    have ra46 : 0 ≤ a46 ∧ a46 ≤ 2 := ha46.tr (P := fun z => 0 ≤ z ∧ z ≤ 2) (rd_Sfirst iM31 (f_Sfirst h_l0))
    refine w_aG (k_Ssizes iM31 h_l0) (by omega) (by omega) (fun a47 ha47 => ?_)
    have ra47 : 1 ≤ a47 ∧ a47 ≤ 3 := ha47.tr (P := fun z => 1 ≤ z ∧ z ≤ 3) (rd_Ssizes iM31 (f_Ssizes h_l0) (by omega) (by omega))
    refine w_aS (k_Sheight iM31 h_l0) (by omega) (by omega) (fun M48 hM48 => ?_)
    replace hM48 : M48 = mS M31 (l0 + 5) l1 a47 := hM48
    have iM48 : I n M48 := wr_Sheight iM31 (f_Sheight h_l0) ⟨by omega, by omega⟩ hM48
    have kM48 : Keep n (W_X3_layOut l0) Me M48 := kM31.st hM48 (Or.inl (Or.inr (Or.inl rfl)))
    refine w_gFc (ji := 5) rfl (congrArg Prod.fst (k_Shape iM48 h_l0)) (show mG M48 l0 5 = (l0 + 6) from rd_Shape_5 iM48 (a := l0) (f_Shape h_l0)) ?_
    refine w_if (fun c2_ => ?_) (fun c2_ => ?_)
    · skip
      exact s_X3_layOut_69 h_l0 hk7 ⟨by omega, by omega⟩ ⟨by omega, by omega⟩ ⟨by omega, by omega⟩ (by (try rw [(show mG M48 l0 7 = nh0 from ((st_ne hM48 (fun z => ne_fam (f_Shape h_l0) (f_Sheight h_l0) (by decide) z.1)).trans ((st_ne hM31 (fun z => ne_fam (f_Shape h_l0) (f_Sstart h_l0) (by decide) z.1)).trans (show mG M l0 7 = nh0 from enh0))))]); all_goals omega) (by omega) iM48 kM48
    · skip
      refine w_gFc (ji := 0) rfl (congrArg Prod.fst (k_Shape iM48 h_l0)) (show mG M48 l0 0 = (l0 + 1) from rd_Shape_0 iM48 (a := l0) (f_Shape h_l0)) ?_
      refine w_aG (k_Ssizes iM48 h_l0) (by omega) (by omega) (fun a68 ha68 => ?_)
      have ra68 : 1 ≤ a68 ∧ a68 ≤ 3 := ha68.tr (P := fun z => 1 ≤ z ∧ z ≤ 3) (rd_Ssizes iM48 (f_Ssizes h_l0) (by omega) (by omega))
      exact s_X3_layOut_69 h_l0 hk7 ⟨by omega, by omega⟩ ⟨by omega, by omega⟩ ⟨by omega, by omega⟩ (by (try rw [(show mG M48 l0 7 = nh0 from ((st_ne hM48 (fun z => ne_fam (f_Shape h_l0) (f_Sheight h_l0) (by decide) z.1)).trans ((st_ne hM31 (fun z => ne_fam (f_Shape h_l0) (f_Sstart h_l0) (by decide) z.1)).trans (show mG M l0 7 = nh0 from enh0))))]); all_goals omega) (by omega) iM48 kM48
theorem s_X3_layOut_7 {n : Nat} {Me : Mem} {l0 : Int} (h_l0 : isShape l0) : ∀ (fu : Nat) (l1 : Int) (M : Mem), (0 ≤ l1 ∧ l1 ≤ 4) → (mG M l0 7 ≤ 9 * l1) → 5 - l1 < (fu : Int) → I n M → Keep n (W_X3_layOut l0) Me M → wp (mX3_layOut_7 fu l0 l1 M) (fun q => I n q.2 ∧ Keep n (W_X3_layOut l0) Me q.2 ∧ True) := by
  intro fu
  induction fu with
  | zero =>
    intro l1 M r_l1 y0 hf iM kM
    exfalso
    omega
  | succ fu ih =>
    intro l1 M r_l1 y0 hf iM kM
    exact sb_X3_layOut_7 h_l0 ih r_l1 y0 (by have e : ((fu + 1 : Nat) : Int) = (fu : Int) + 1 := rfl; rw [e] at hf; exact hf) iM kM
theorem s_X3_layOut {n : Nat} {l0 : Int} {M : Mem} (h_l0 : isShape l0) (iM : I n M) : wp (mX3_layOut l0 M) (fun q => I n q.2 ∧ Keep n (W_X3_layOut l0) M q.2 ∧ True) := by
  have hn : (169 : Int) ≤ (n : Int) := by have := iM.2.2.2.2.1; omega
  have kM : Keep n (W_X3_layOut l0) M M := Keep.rf
  have u_l0 := h_l0
  unfold isShape at u_l0
  unfold mX3_layOut
  refine w_pF (ji := 7) rfl (congrArg Prod.fst (k_Shape iM h_l0)) (fun M2 hM2 => ?_)
  replace hM2 : M2 = mS M l0 7 0 := hM2
  have iM2 : I n M2 := wr_Shape_7 iM (f_Shape h_l0) ⟨by omega, by omega⟩ hM2
  have kM2 : Keep n (W_X3_layOut l0) M M2 := kM.st hM2 (Or.inl (Or.inr (Or.inr (Or.inr ⟨rfl, rfl⟩))))
  exact s_X3_layOut_7 h_l0 FU _ _ ⟨by omega, by omega⟩ (by (try rw [(show mG M2 l0 7 = 0 from (show mG M2 l0 7 = 0 from (st_eq hM2)))]); all_goals omega) (by show _ < (70000 : Int); omega) iM2 kM2
def W_X3_resize (l0 : Int) (b j : Int) : Prop := b = (l0 + 1) ∨ b = (l0 + 4) ∨ b = (l0 + 5) ∨ b = (l0 + 6) ∨ (b = l0 ∧ j = 7)
theorem s_X3_resize {n : Nat} {l0 l1 l2 : Int} {M : Mem} (h_l0 : isShape l0) (r_l1 : (-2147483648) ≤ l1 ∧ l1 ≤ 2147483647) (r_l2 : (-2147483648) ≤ l2 ∧ l2 ≤ 2147483647) (iM : I n M) : wp (mX3_resize l0 l1 l2 M) (fun q => I n q.2 ∧ Keep n (W_X3_resize l0) M q.2 ∧ (0 ≤ q.1 ∧ q.1 ≤ 1) ∧ True) := by
  have hn : (169 : Int) ≤ (n : Int) := by have := iM.2.2.2.2.1; omega
  have kM : Keep n (W_X3_resize l0) M M := Keep.rf
  have u_l0 := h_l0
  unfold isShape at u_l0
  unfold mX3_resize
  refine w_call (s_X3_isKind ⟨by omega, by omega⟩ iM) ?_
  intro v1 m1 pp1
  obtain ⟨im1, kk1, e1_0, e1_1, -⟩ := pp1
  try dsimp only
  replace im1 : I n m1 := im1
  replace kk1 : Keep n W_X3_isKind M m1 := kk1
  have km1 : Keep n (W_X3_resize l0) M m1 := kM.tr kk1 (fun b j z => z.elim)
  replace e1_0 : 0 ≤ v1 ∧ v1 ≤ 1 := e1_0
  replace e1_1 : v1 = 1 → 0 ≤ l1 ∧ l1 ≤ 2 := e1_1
  refine w_if (fun c1_ => ?_) (fun c1_ => ?_)
  · skip
    exact w_ret ⟨im1, km1, (show 0 ≤ 0 ∧ 0 ≤ 1 from ⟨by omega, by omega⟩), trivial⟩
  · skip
    refine w_if (fun c2_ => ?_) (fun c2_ => ?_)
    · skip
      exact w_ret ⟨im1, km1, (show 0 ≤ 0 ∧ 0 ≤ 1 from ⟨by omega, by omega⟩), trivial⟩
    · skip
      refine w_if (fun c3_ => ?_) (fun c3_ => ?_)
      · skip
        exact w_ret ⟨im1, km1, (show 0 ≤ 0 ∧ 0 ≤ 1 from ⟨by omega, by omega⟩), trivial⟩
      · skip
        refine w_gFc (ji := 0) rfl (congrArg Prod.fst (k_Shape im1 h_l0)) (show mG m1 l0 0 = (l0 + 1) from rd_Shape_0 im1 (a := l0) (f_Shape h_l0)) ?_
        refine w_aG (k_Ssizes im1 h_l0) (by omega) (by omega) (fun a22 ha22 => ?_)
        have ra22 : 1 ≤ a22 ∧ a22 ≤ 3 := ha22.tr (P := fun z => 1 ≤ z ∧ z ≤ 3) (rd_Ssizes im1 (f_Ssizes h_l0) (by omega) (by omega))
        refine w_if (fun c4_ => ?_) (fun c4_ => ?_)
        · skip
          exact w_ret ⟨im1, km1, (show 0 ≤ 0 ∧ 0 ≤ 1 from ⟨by omega, by omega⟩), trivial⟩
        · skip
          refine w_gFc (ji := 0) rfl (congrArg Prod.fst (k_Shape im1 h_l0)) (show mG m1 l0 0 = (l0 + 1) from rd_Shape_0 im1 (a := l0) (f_Shape h_l0)) ?_
          refine w_aS (k_Ssizes im1 h_l0) (by omega) (by omega) (fun M35 hM35 => ?_)
          replace hM35 : M35 = mS m1 (l0 + 1) l1 l2 := hM35
          have iM35 : I n M35 := wr_Ssizes im1 (f_Ssizes h_l0) ⟨by omega, by omega⟩ hM35
          have kM35 : Keep n (W_X3_resize l0) M M35 := km1.st hM35 (Or.inl (Or.inl rfl))
          refine w_gK (congrArg Prod.fst (k_Shape iM35 h_l0)) ?_
          refine w_call (s_X3_layOut h_l0 iM35) ?_
          intro v37 m37 pp37
          obtain ⟨im37, kk37, -⟩ := pp37
          try dsimp only
          replace im37 : I n m37 := im37
          replace kk37 : Keep n (W_X3_layOut l0) M35 m37 := kk37
          have km37 : Keep n (W_X3_resize l0) M m37 := kM35.tr kk37 (fun b j z => Or.elim z (fun z => (Or.inr (Or.inl z))) (fun z => Or.elim z (fun z => (Or.inr (Or.inr (Or.inl z)))) (fun z => Or.elim z (fun z => (Or.inr (Or.inr (Or.inr (Or.inl z))))) (fun z => (Or.inr (Or.inr (Or.inr (Or.inr z))))))))
          exact w_ret ⟨im37, km37, (show 0 ≤ 1 ∧ 1 ≤ 1 from ⟨by omega, by omega⟩), trivial⟩
def W_X6_clearWorlds (b j : Int) : Prop := b = 12 ∨ (b = 3 ∧ j = 1)
theorem sb_X6_clearWorlds_7 {n : Nat} {Me : Mem} {k7 : Int → Int → Mem → Option (Int × Mem)} {fu7 : Nat} (hk7 : ∀ (l1 : Int) (M : Mem), (0 ≤ l1 ∧ l1 ≤ 4) → 5 - l1 < (fu7 : Int) → I n M → Keep n W_X6_clearWorlds Me M → wp (k7 3 l1 M) (fun q => I n q.2 ∧ Keep n W_X6_clearWorlds Me q.2 ∧ True)) {l1 : Int} {M : Mem} (r_l1 : 0 ≤ l1 ∧ l1 ≤ 4) (hf7 : 5 - l1 < (fu7 : Int) + 1) (iM : I n M) (kM : Keep n W_X6_clearWorlds Me M) : wp (bX6_clearWorlds_7 k7 3 l1 M) (fun q => I n q.2 ∧ Keep n W_X6_clearWorlds Me q.2 ∧ True) := by
  have hn : (169 : Int) ≤ (n : Int) := by have := iM.2.2.2.2.1; omega
  unfold bX6_clearWorlds_7
  refine w_if (fun c1_ => ?_) (fun c1_ => ?_)
  · skip
    exact w_ret ⟨iM, kM, trivial⟩
  · skip
    refine w_gFc (ji := 3) rfl (congrArg Prod.fst (kl_3 iM)) (show mG M 3 3 = 12 from rd_Told_3 iM (a := 3) rfl) ?_
    refine w_aSZ (kl_12 iM) (by omega) (by omega) (by omega) (fun M18 hM18 => ?_)
    replace hM18 : M18 = mS M 12 l1 0 := hM18
    have iM18 : I n M18 := wr_TisKept iM rfl ⟨by omega, by omega⟩ hM18
    have kM18 : Keep n W_X6_clearWorlds Me M18 := kM.st hM18 (Or.inl (Or.inl rfl))
    have w2_ := wI_id (x := (l1 + 1)) (by omega) (by omega)
    exact hk7 _ _ ⟨by omega, by omega⟩ (by omega) iM18 kM18
theorem s_X6_clearWorlds_7 {n : Nat} {Me : Mem} : ∀ (fu : Nat) (l1 : Int) (M : Mem), (0 ≤ l1 ∧ l1 ≤ 4) → 5 - l1 < (fu : Int) → I n M → Keep n W_X6_clearWorlds Me M → wp (mX6_clearWorlds_7 fu 3 l1 M) (fun q => I n q.2 ∧ Keep n W_X6_clearWorlds Me q.2 ∧ True) := by
  intro fu
  induction fu with
  | zero =>
    intro l1 M r_l1 hf iM kM
    exfalso
    omega
  | succ fu ih =>
    intro l1 M r_l1 hf iM kM
    exact sb_X6_clearWorlds_7 ih r_l1 (by have e : ((fu + 1 : Nat) : Int) = (fu : Int) + 1 := rfl; rw [e] at hf; exact hf) iM kM
theorem s_X6_clearWorlds {n : Nat} {M : Mem} (iM : I n M) : wp (mX6_clearWorlds 3 M) (fun q => I n q.2 ∧ Keep n W_X6_clearWorlds M q.2 ∧ True) := by
  have hn : (169 : Int) ≤ (n : Int) := by have := iM.2.2.2.2.1; omega
  have kM : Keep n W_X6_clearWorlds M M := Keep.rf
  unfold mX6_clearWorlds
  refine w_pF (ji := 1) rfl (congrArg Prod.fst (kl_3 iM)) (fun M2 hM2 => ?_)
  replace hM2 : M2 = mS M 3 1 0 := hM2
  have iM2 : I n M2 := wr_Told_1 iM rfl hM2
  have kM2 : Keep n W_X6_clearWorlds M M2 := kM.st hM2 (Or.inl (Or.inr ⟨rfl, rfl⟩))
  exact s_X6_clearWorlds_7 FU _ _ ⟨by omega, by omega⟩ (by show _ < (70000 : Int); omega) iM2 kM2
def W_X1_forget (b j : Int) : Prop := (b = 24 ∧ j = 6) ∨ (b = 24 ∧ j = 7)
theorem s_X1_forget {n : Nat} {M : Mem} (iM : I n M) : wp (mX1_forget 24 M) (fun q => I n q.2 ∧ Keep n W_X1_forget M q.2 ∧ True) := by
  have hn : (169 : Int) ≤ (n : Int) := by have := iM.2.2.2.2.1; omega
  have kM : Keep n W_X1_forget M M := Keep.rf
  unfold mX1_forget
  refine w_pZ (ji := 6) rfl (congrArg Prod.fst (kl_24 iM)) (by omega) (fun M2 hM2 => ?_)
  replace hM2 : M2 = mS M 24 6 0 := hM2
  have iM2 : I n M2 := wr_Others_6 iM rfl ⟨by omega, by omega⟩ hM2
  have kM2 : Keep n W_X1_forget M M2 := kM.st hM2 (Or.inl (Or.inl ⟨rfl, rfl⟩))
  refine w_pZ (ji := 7) rfl (congrArg Prod.fst (kl_24 iM2)) (by omega) (fun M7 hM7 => ?_)
  replace hM7 : M7 = mS M2 24 7 0 := hM7
  have iM7 : I n M7 := wr_Others_7 iM2 rfl ⟨by omega, by omega⟩ hM7
  have kM7 : Keep n W_X1_forget M M7 := kM2.st hM7 (Or.inl (Or.inr ⟨rfl, rfl⟩))
  exact w_ret ⟨iM7, kM7, trivial⟩
def W_X4_forget (b j : Int) : Prop := (b = 2 ∧ j = 10) ∨ (b = 2 ∧ j = 4) ∨ (b = 24 ∧ j = 6) ∨ (b = 24 ∧ j = 7)
theorem s_X4_forget {n : Nat} {M : Mem} (iM : I n M) : wp (mX4_forget 2 M) (fun q => I n q.2 ∧ Keep n W_X4_forget M q.2 ∧ True) := by
  have hn : (169 : Int) ≤ (n : Int) := by have := iM.2.2.2.2.1; omega
  have kM : Keep n W_X4_forget M M := Keep.rf
  unfold mX4_forget
  refine w_pF (ji := 4) rfl (congrArg Prod.fst (kl_2 iM)) (fun M2 hM2 => ?_)
  replace hM2 : M2 = mS M 2 4 0 := hM2
  have iM2 : I n M2 := wr_Solver_4 iM rfl ⟨by omega, by omega⟩ hM2
  have kM2 : Keep n W_X4_forget M M2 := kM.st hM2 (Or.inl (Or.inr (Or.inl ⟨rfl, rfl⟩)))
  refine w_pF (ji := 10) rfl (congrArg Prod.fst (kl_2 iM2)) (fun M7 hM7 => ?_)
  replace hM7 : M7 = mS M2 2 10 (-1) := hM7
  have iM7 : I n M7 := wr_Solver_10 iM2 rfl ⟨by omega, by omega⟩ hM7
  have kM7 : Keep n W_X4_forget M M7 := kM2.st hM7 (Or.inl (Or.inl ⟨rfl, rfl⟩))
  refine w_gFc (ji := 2) rfl (congrArg Prod.fst (kl_2 iM7)) (show mG M7 2 2 = 24 from rd_Solver_2 iM7 (a := 2) rfl) ?_
  refine w_gK (congrArg Prod.fst (kl_24 iM7)) ?_
  refine w_call (s_X1_forget iM7) ?_
  intro v14 m14 pp14
  obtain ⟨im14, kk14, -⟩ := pp14
  try dsimp only
  replace im14 : I n m14 := im14
  replace kk14 : Keep n W_X1_forget M7 m14 := kk14
  have km14 : Keep n W_X4_forget M m14 := kM7.tr kk14 (fun b j z => Or.elim z (fun z => (Or.inr (Or.inr (Or.inl z)))) (fun z => (Or.inr (Or.inr (Or.inr z)))))
  exact w_ret ⟨im14, km14, trivial⟩
def W_X8_size (b j : Int) : Prop := b = 5 ∨ (8 ≤ b ∧ b ≤ 10) ∨ b = 12 ∨ (b = 2 ∧ j = 10) ∨ (b = 2 ∧ j = 4) ∨ (b = 24 ∧ j = 6) ∨ (b = 24 ∧ j = 7) ∨ (b = 3 ∧ j = 1) ∨ (b = 4 ∧ j = 7)
theorem s_X8_size {n : Nat} {l1 l2 : Int} {M : Mem} (r_l1 : (-2147483648) ≤ l1 ∧ l1 ≤ 2147483647) (r_l2 : (-2147483648) ≤ l2 ∧ l2 ≤ 2147483647) (iM : I n M) : wp (mX8_size 1 l1 l2 M) (fun q => I n q.2 ∧ Keep n W_X8_size M q.2 ∧ (0 ≤ q.1 ∧ q.1 ≤ 1) ∧ True) := by
  have hn : (169 : Int) ≤ (n : Int) := by have := iM.2.2.2.2.1; omega
  have kM : Keep n W_X8_size M M := Keep.rf
  unfold mX8_size
  refine w_gFc (ji := 1) rfl (congrArg Prod.fst (kl_1 iM)) (show mG M 1 1 = 3 from rd_VS_1 iM (a := 1) rfl) ?_
  refine w_gFc (ji := 0) rfl (congrArg Prod.fst (kl_3 iM)) (show mG M 3 0 = 4 from rd_Told_0 iM (a := 3) rfl) ?_
  refine w_gK (congrArg Prod.fst (kl_4 iM)) ?_
  refine w_call (s_X3_resize (by unfold isShape; omega) ⟨by omega, by omega⟩ ⟨by omega, by omega⟩ iM) ?_
  intro v9 m9 pp9
  obtain ⟨im9, kk9, e9_0, -⟩ := pp9
  try dsimp only
  replace im9 : I n m9 := im9
  replace kk9 : Keep n (W_X3_resize 4) M m9 := kk9
  have km9 : Keep n W_X8_size M m9 := kM.tr kk9 (fun b j z => Or.elim z (fun z => (Or.inl (by omega))) (fun z => Or.elim z (fun z => (Or.inr (Or.inl ⟨by omega, by omega⟩))) (fun z => Or.elim z (fun z => (Or.inr (Or.inl ⟨by omega, by omega⟩))) (fun z => Or.elim z (fun z => (Or.inr (Or.inl ⟨by omega, by omega⟩))) (fun z => (Or.inr (Or.inr (Or.inr (Or.inr (Or.inr (Or.inr (Or.inr (Or.inr ⟨by omega, z.2⟩)))))))))))))
  replace e9_0 : 0 ≤ v9 ∧ v9 ≤ 1 := e9_0
  refine w_if (fun c1_ => ?_) (fun c1_ => ?_)
  · skip
    exact w_ret ⟨im9, km9, (show 0 ≤ 0 ∧ 0 ≤ 1 from ⟨by omega, by omega⟩), trivial⟩
  · skip
    refine w_gFc (ji := 1) rfl (congrArg Prod.fst (kl_1 im9)) (show mG m9 1 1 = 3 from rd_VS_1 im9 (a := 1) rfl) ?_
    refine w_gK (congrArg Prod.fst (kl_3 im9)) ?_
    refine w_call (s_X6_clearWorlds im9) ?_
    intro v21 m21 pp21
    obtain ⟨im21, kk21, -⟩ := pp21
    try dsimp only
    replace im21 : I n m21 := im21
    replace kk21 : Keep n W_X6_clearWorlds m9 m21 := kk21
    have km21 : Keep n W_X8_size M m21 := km9.tr kk21 (fun b j z => Or.elim z (fun z => (Or.inr (Or.inr (Or.inl z)))) (fun z => (Or.inr (Or.inr (Or.inr (Or.inr (Or.inr (Or.inr (Or.inr (Or.inl z))))))))))
    refine w_gFc (ji := 0) rfl (congrArg Prod.fst (kl_1 im21)) (show mG m21 1 0 = 2 from rd_VS_0 im21 (a := 1) rfl) ?_
    refine w_gK (congrArg Prod.fst (kl_2 im21)) ?_
    refine w_call (s_X4_forget im21) ?_
    intro v28 m28 pp28
    obtain ⟨im28, kk28, -⟩ := pp28
    try dsimp only
    replace im28 : I n m28 := im28
    replace kk28 : Keep n W_X4_forget m21 m28 := kk28
    have km28 : Keep n W_X8_size M m28 := km21.tr kk28 (fun b j z => Or.elim z (fun z => (Or.inr (Or.inr (Or.inr (Or.inl z))))) (fun z => Or.elim z (fun z => (Or.inr (Or.inr (Or.inr (Or.inr (Or.inl z)))))) (fun z => Or.elim z (fun z => (Or.inr (Or.inr (Or.inr (Or.inr (Or.inr (Or.inl z))))))) (fun z => (Or.inr (Or.inr (Or.inr (Or.inr (Or.inr (Or.inr (Or.inl z)))))))))))
    exact w_ret ⟨im28, km28, (show 0 ≤ 1 ∧ 1 ≤ 1 from ⟨by omega, by omega⟩), trivial⟩
def W_X3_addRelation (l0 : Int) (b j : Int) : Prop := b = (l0 + 2) ∨ b = (l0 + 3) ∨ b = (l0 + 4) ∨ b = (l0 + 5) ∨ b = (l0 + 6) ∨ (b = l0 ∧ j = 6) ∨ (b = l0 ∧ j = 7)
theorem s_X3_addRelation_29 {n : Nat} {Me : Mem} {l0 : Int} (h_l0 : isShape l0) {l1 l2 : Int} {M : Mem} (r_l1 : 0 ≤ l1 ∧ l1 ≤ 2) (r_l2 : (-1) ≤ l2 ∧ l2 ≤ 2) (y0 : mG M l0 6 ≤ 3) (iM : I n M) (kM : Keep n (W_X3_addRelation l0) Me M) : wp (mX3_addRelation_29 l0 l1 l2 M) (fun q => I n q.2 ∧ Keep n (W_X3_addRelation l0) Me q.2 ∧ ((-1) ≤ q.1 ∧ q.1 ≤ 4) ∧ True) := by
  have hn : (169 : Int) ≤ (n : Int) := by have := iM.2.2.2.2.1; omega
  have u_l0 := h_l0
  unfold isShape at u_l0
  obtain ⟨nh0, enh0⟩ : ∃ v, Is (mG M l0 6) v := ⟨_, rfl⟩
  have rnh0 : 0 ≤ nh0 ∧ nh0 ≤ 4 := by rw [← enh0.e]; exact rd_Shape_6 iM (f_Shape h_l0)
  (try rw [enh0.e] at y0)
  unfold mX3_addRelation_29
  refine w_gFc (ji := 1) rfl (congrArg Prod.fst (k_Shape iM h_l0)) (show mG M l0 1 = (l0 + 2) from rd_Shape_1 iM (a := l0) (f_Shape h_l0)) ?_
  refine w_gFc (ji := 6) rfl (congrArg Prod.fst (k_Shape iM h_l0)) (show mG M l0 6 = nh0 from (show mG M l0 6 = nh0 from enh0)) ?_
  refine w_aS (k_Sfirst iM h_l0) (by omega) (by omega) (fun M38 hM38 => ?_)
  replace hM38 : M38 = mS M (l0 + 2) nh0 l1 := hM38
  have iM38 : I n M38 := wr_Sfirst iM (f_Sfirst h_l0) ⟨by omega, by omega⟩ hM38
  have kM38 : Keep n (W_X3_addRelation l0) Me M38 := kM.st hM38 (Or.inl (Or.inl rfl))
  refine w_gFc (ji := 2) rfl (congrArg Prod.fst (k_Shape iM38 h_l0)) (show mG M38 l0 2 = (l0 + 3) from rd_Shape_2 iM38 (a := l0) (f_Shape h_l0)) ?_
  refine w_gFc (ji := 6) rfl (congrArg Prod.fst (k_Shape iM38 h_l0)) (show mG M38 l0 6 = nh0 from ((st_ne hM38 (fun z => ne_fam (f_Shape h_l0) (f_Sfirst h_l0) (by decide) z.1)).trans (show mG M l0 6 = nh0 from enh0))) ?_
  refine w_aS (k_Ssecond iM38 h_l0) (by omega) (by omega) (fun M48 hM48 => ?_)
  replace hM48 : M48 = mS M38 (l0 + 3) nh0 l2 := hM48
  have iM48 : I n M48 := wr_Ssecond iM38 (f_Ssecond h_l0) ⟨by omega, by omega⟩ hM48
  have kM48 : Keep n (W_X3_addRelation l0) Me M48 := kM38.st hM48 (Or.inl (Or.inr (Or.inl rfl)))
  refine w_gFc (ji := 6) rfl (congrArg Prod.fst (k_Shape iM48 h_l0)) (show mG M48 l0 6 = nh0 from ((st_ne hM48 (fun z => ne_fam (f_Shape h_l0) (f_Ssecond h_l0) (by decide) z.1)).trans ((st_ne hM38 (fun z => ne_fam (f_Shape h_l0) (f_Sfirst h_l0) (by decide) z.1)).trans (show mG M l0 6 = nh0 from enh0)))) ?_
  have w1_ := wI_id (x := (nh0 + 1)) (by omega) (by omega)
  refine w_pF (ji := 6) rfl (congrArg Prod.fst (k_Shape iM48 h_l0)) (fun M56 hM56 => ?_)
  replace hM56 : M56 = mS M48 l0 6 (wI (nh0 + 1)) := hM56
  have iM56 : I n M56 := wr_Shape_6 iM48 (f_Shape h_l0) ⟨by omega, by omega⟩ hM56
  have kM56 : Keep n (W_X3_addRelation l0) Me M56 := kM48.st hM56 (Or.inl (Or.inr (Or.inr (Or.inr (Or.inr (Or.inr (Or.inl ⟨rfl, rfl⟩)))))))
  obtain ⟨svM56, esvM56⟩ : ∃ z, z = (wI (nh0 + 1)) := ⟨_, rfl⟩
  refine w_gK (congrArg Prod.fst (k_Shape iM56 h_l0)) ?_
  refine w_call (s_X3_layOut h_l0 iM56) ?_
  intro v60 m60 pp60
  obtain ⟨im60, kk60, -⟩ := pp60
  try dsimp only
  replace im60 : I n m60 := im60
  replace kk60 : Keep n (W_X3_layOut l0) M56 m60 := kk60
  have km60 : Keep n (W_X3_addRelation l0) Me m60 := kM56.tr kk60 (fun b j z => Or.elim z (fun z => (Or.inr (Or.inr (Or.inl z)))) (fun z => Or.elim z (fun z => (Or.inr (Or.inr (Or.inr (Or.inl z))))) (fun z => Or.elim z (fun z => (Or.inr (Or.inr (Or.inr (Or.inr (Or.inl z)))))) (fun z => (Or.inr (Or.inr (Or.inr (Or.inr (Or.inr (Or.inr z))))))))))
  refine w_gFc (ji := 6) rfl (congrArg Prod.fst (k_Shape im60 h_l0)) (show mG m60 l0 6 = svM56 from ((kk60.2.2 l0 6 (by omega) (fun z => by unfold W_X3_layOut at z; (try unfold isWS at z); (try unfold isShape at z); (try unfold isTold at z); (try dsimp only at z); omega)).trans (show mG M56 l0 6 = svM56 from ((st_eq hM56).trans esvM56.symm)))) ?_
  have w2_ := wI_id (x := (svM56 - 1)) (by omega) (by omega)
  exact w_ret ⟨im60, km60, (show (-1) ≤ (wI (svM56 - 1)) ∧ (wI (svM56 - 1)) ≤ 4 from ⟨by omega, by omega⟩), trivial⟩
theorem s_X3_addRelation {n : Nat} {l0 l1 l2 : Int} {M : Mem} (h_l0 : isShape l0) (r_l1 : (-2147483648) ≤ l1 ∧ l1 ≤ 2147483647) (r_l2 : (-2147483648) ≤ l2 ∧ l2 ≤ 2147483647) (iM : I n M) : wp (mX3_addRelation l0 l1 l2 M) (fun q => I n q.2 ∧ Keep n (W_X3_addRelation l0) M q.2 ∧ ((-1) ≤ q.1 ∧ q.1 ≤ 4) ∧ True) := by
  have hn : (169 : Int) ≤ (n : Int) := by have := iM.2.2.2.2.1; omega
  have kM : Keep n (W_X3_addRelation l0) M M := Keep.rf
  have u_l0 := h_l0
  unfold isShape at u_l0
  unfold mX3_addRelation
  refine w_gF (ji := 6) rfl (congrArg Prod.fst (k_Shape iM h_l0)) (fun a1 ha1 => ?_)
  have ra1 : 0 ≤ a1 ∧ a1 ≤ 4 := ha1.tr (P := fun z => 0 ≤ z ∧ z ≤ 4) (rd_Shape_6 iM (f_Shape h_l0))
  refine w_if (fun c1_ => ?_) (fun c1_ => ?_)
  · skip
    exact w_ret ⟨iM, kM, (show (-1) ≤ (-1) ∧ (-1) ≤ 4 from ⟨by omega, by omega⟩), trivial⟩
  · skip
    refine w_call (s_X3_isKind ⟨by omega, by omega⟩ iM) ?_
    intro v9 m9 pp9
    obtain ⟨im9, kk9, e9_0, e9_1, -⟩ := pp9
    try dsimp only
    replace im9 : I n m9 := im9
    replace kk9 : Keep n W_X3_isKind M m9 := kk9
    have km9 : Keep n (W_X3_addRelation l0) M m9 := kM.tr kk9 (fun b j z => z.elim)
    replace e9_0 : 0 ≤ v9 ∧ v9 ≤ 1 := e9_0
    replace e9_1 : v9 = 1 → 0 ≤ l1 ∧ l1 ≤ 2 := e9_1
    refine w_if (fun c2_ => ?_) (fun c2_ => ?_)
    · skip
      exact w_ret ⟨im9, km9, (show (-1) ≤ (-1) ∧ (-1) ≤ 4 from ⟨by omega, by omega⟩), trivial⟩
    · skip
      refine w_if (fun c3_ => ?_) (fun c3_ => ?_)
      · skip
        exact s_X3_addRelation_29 h_l0 ⟨by omega, by omega⟩ ⟨by omega, by omega⟩ (by (try rw [(show mG m9 l0 6 = a1 from ((kk9.2.2 l0 6 (by omega) (fun z => z)).trans (show mG M l0 6 = a1 from ha1)))]); all_goals omega) im9 km9
      · skip
        refine w_call (s_X3_isKind ⟨by omega, by omega⟩ im9) ?_
        intro v21 m21 pp21
        obtain ⟨im21, kk21, e21_0, e21_1, -⟩ := pp21
        try dsimp only
        replace im21 : I n m21 := im21
        replace kk21 : Keep n W_X3_isKind m9 m21 := kk21
        have km21 : Keep n (W_X3_addRelation l0) M m21 := km9.tr kk21 (fun b j z => z.elim)
        replace e21_0 : 0 ≤ v21 ∧ v21 ≤ 1 := e21_0
        replace e21_1 : v21 = 1 → 0 ≤ l2 ∧ l2 ≤ 2 := e21_1
        refine w_if (fun c4_ => ?_) (fun c4_ => ?_)
        · skip
          exact w_ret ⟨im21, km21, (show (-1) ≤ (-1) ∧ (-1) ≤ 4 from ⟨by omega, by omega⟩), trivial⟩
        · skip
          exact s_X3_addRelation_29 h_l0 ⟨by omega, by omega⟩ ⟨by omega, by omega⟩ (by (try rw [(show mG m21 l0 6 = a1 from ((kk21.2.2 l0 6 (by omega) (fun z => z)).trans ((kk9.2.2 l0 6 (by omega) (fun z => z)).trans (show mG M l0 6 = a1 from ha1))))]); all_goals omega) im21 km21
def W_X8_relation (b j : Int) : Prop := (6 ≤ b ∧ b ≤ 10) ∨ b = 12 ∨ (b = 2 ∧ j = 10) ∨ (b = 2 ∧ j = 4) ∨ (b = 24 ∧ j = 6) ∨ (b = 24 ∧ j = 7) ∨ (b = 3 ∧ j = 1) ∨ (b = 4 ∧ j = 6) ∨ (b = 4 ∧ j = 7)
theorem s_X8_relation_32 {n : Nat} {Me : Mem} {l3 : Int} {M : Mem} (r_l3 : (-1) ≤ l3 ∧ l3 ≤ 4) (iM : I n M) (kM : Keep n W_X8_relation Me M) : wp (mX8_relation_32 l3 M) (fun q => I n q.2 ∧ Keep n W_X8_relation Me q.2 ∧ ((-1) ≤ q.1 ∧ q.1 ≤ 4) ∧ True) := by
  have hn : (169 : Int) ≤ (n : Int) := by have := iM.2.2.2.2.1; omega
  unfold mX8_relation_32
  exact w_ret ⟨iM, kM, (show (-1) ≤ l3 ∧ l3 ≤ 4 from ⟨by omega, by omega⟩), trivial⟩
theorem s_X8_relation {n : Nat} {l1 l2 : Int} {M : Mem} (r_l1 : (-2147483648) ≤ l1 ∧ l1 ≤ 2147483647) (r_l2 : (-2147483648) ≤ l2 ∧ l2 ≤ 2147483647) (iM : I n M) : wp (mX8_relation 1 l1 l2 M) (fun q => I n q.2 ∧ Keep n W_X8_relation M q.2 ∧ ((-1) ≤ q.1 ∧ q.1 ≤ 4) ∧ True) := by
  have hn : (169 : Int) ≤ (n : Int) := by have := iM.2.2.2.2.1; omega
  have kM : Keep n W_X8_relation M M := Keep.rf
  unfold mX8_relation
  refine w_gFc (ji := 1) rfl (congrArg Prod.fst (kl_1 iM)) (show mG M 1 1 = 3 from rd_VS_1 iM (a := 1) rfl) ?_
  refine w_gFc (ji := 0) rfl (congrArg Prod.fst (kl_3 iM)) (show mG M 3 0 = 4 from rd_Told_0 iM (a := 3) rfl) ?_
  refine w_gK (congrArg Prod.fst (kl_4 iM)) ?_
  refine w_call (s_X3_addRelation (by unfold isShape; omega) ⟨by omega, by omega⟩ ⟨by omega, by omega⟩ iM) ?_
  intro v9 m9 pp9
  obtain ⟨im9, kk9, e9_0, -⟩ := pp9
  try dsimp only
  replace im9 : I n m9 := im9
  replace kk9 : Keep n (W_X3_addRelation 4) M m9 := kk9
  have km9 : Keep n W_X8_relation M m9 := kM.tr kk9 (fun b j z => Or.elim z (fun z => (Or.inl ⟨by omega, by omega⟩)) (fun z => Or.elim z (fun z => (Or.inl ⟨by omega, by omega⟩)) (fun z => Or.elim z (fun z => (Or.inl ⟨by omega, by omega⟩)) (fun z => Or.elim z (fun z => (Or.inl ⟨by omega, by omega⟩)) (fun z => Or.elim z (fun z => (Or.inl ⟨by omega, by omega⟩)) (fun z => Or.elim z (fun z => (Or.inr (Or.inr (Or.inr (Or.inr (Or.inr (Or.inr (Or.inr (Or.inl ⟨by omega, z.2⟩))))))))) (fun z => (Or.inr (Or.inr (Or.inr (Or.inr (Or.inr (Or.inr (Or.inr (Or.inr ⟨by omega, z.2⟩)))))))))))))))
  replace e9_0 : (-1) ≤ v9 ∧ v9 ≤ 4 := e9_0
  refine w_if (fun c1_ => ?_) (fun c1_ => ?_)
  · skip
    exact s_X8_relation_32 ⟨by omega, by omega⟩ im9 km9
  · skip
    refine w_gFc (ji := 1) rfl (congrArg Prod.fst (kl_1 im9)) (show mG m9 1 1 = 3 from rd_VS_1 im9 (a := 1) rfl) ?_
    refine w_gK (congrArg Prod.fst (kl_3 im9)) ?_
    refine w_call (s_X6_clearWorlds im9) ?_
    intro v22 m22 pp22
    obtain ⟨im22, kk22, -⟩ := pp22
    try dsimp only
    replace im22 : I n m22 := im22
    replace kk22 : Keep n W_X6_clearWorlds m9 m22 := kk22
    have km22 : Keep n W_X8_relation M m22 := km9.tr kk22 (fun b j z => Or.elim z (fun z => (Or.inr (Or.inl z))) (fun z => (Or.inr (Or.inr (Or.inr (Or.inr (Or.inr (Or.inr (Or.inl z)))))))))
    refine w_gFc (ji := 0) rfl (congrArg Prod.fst (kl_1 im22)) (show mG m22 1 0 = 2 from rd_VS_0 im22 (a := 1) rfl) ?_
    refine w_gK (congrArg Prod.fst (kl_2 im22)) ?_
    refine w_call (s_X4_forget im22) ?_
    intro v29 m29 pp29
    obtain ⟨im29, kk29, -⟩ := pp29
    try dsimp only
    replace im29 : I n m29 := im29
    replace kk29 : Keep n W_X4_forget m22 m29 := kk29
    have km29 : Keep n W_X8_relation M m29 := km22.tr kk29 (fun b j z => Or.elim z (fun z => (Or.inr (Or.inr (Or.inl z)))) (fun z => Or.elim z (fun z => (Or.inr (Or.inr (Or.inr (Or.inl z))))) (fun z => Or.elim z (fun z => (Or.inr (Or.inr (Or.inr (Or.inr (Or.inl z)))))) (fun z => (Or.inr (Or.inr (Or.inr (Or.inr (Or.inr (Or.inl z))))))))))
    exact s_X8_relation_32 ⟨by omega, by omega⟩ im29 km29
def W_X8_facts (b j : Int) : Prop := False
theorem s_X8_facts {n : Nat} {M : Mem} (iM : I n M) : wp (mX8_facts 1 M) (fun q => I n q.2 ∧ Keep n W_X8_facts M q.2 ∧ (0 ≤ q.1 ∧ q.1 ≤ 36) ∧ True) := by
  have hn : (169 : Int) ≤ (n : Int) := by have := iM.2.2.2.2.1; omega
  have kM : Keep n W_X8_facts M M := Keep.rf
  unfold mX8_facts
  refine w_gFc (ji := 1) rfl (congrArg Prod.fst (kl_1 iM)) (show mG M 1 1 = 3 from rd_VS_1 iM (a := 1) rfl) ?_
  refine w_gFc (ji := 0) rfl (congrArg Prod.fst (kl_3 iM)) (show mG M 3 0 = 4 from rd_Told_0 iM (a := 3) rfl) ?_
  refine w_gF (ji := 7) rfl (congrArg Prod.fst (kl_4 iM)) (fun a7 ha7 => ?_)
  have ra7 : 0 ≤ a7 ∧ a7 ≤ 36 := ha7.tr (P := fun z => 0 ≤ z ∧ z ≤ 36) (rd_Shape_7 iM rfl)
  exact w_ret ⟨iM, kM, (show 0 ≤ a7 ∧ a7 ≤ 36 from ⟨by omega, by omega⟩), trivial⟩
def W_X3_place (l0 : Int) (b j : Int) : Prop := False
theorem s_X3_place_29 {n : Nat} {Me : Mem} {l0 : Int} (h_l0 : isShape l0) {l1 l2 s0 : Int} {M : Mem} (r_l1 : 0 ≤ l1 ∧ l1 ≤ 3) (r_l2 : (-2147483648) ≤ l2 ∧ l2 ≤ 2147483647) (r_s0 : (-2147483648) ≤ s0 ∧ s0 ≤ 2147483647) (iM : I n M) (kM : Keep n (W_X3_place l0) Me M) : wp (mX3_place_29 l0 l1 l2 s0 M) (fun q => I n q.2 ∧ Keep n (W_X3_place l0) Me q.2 ∧ ((-1) ≤ q.1 ∧ q.1 ≤ 35) ∧ True) := by
  have hn : (169 : Int) ≤ (n : Int) := by have := iM.2.2.2.2.1; omega
  have u_l0 := h_l0
  unfold isShape at u_l0
  unfold mX3_place_29
  refine w_if (fun c1_ => ?_) (fun c1_ => ?_)
  · skip
    exact w_ret ⟨iM, kM, (show (-1) ≤ (-1) ∧ (-1) ≤ 35 from ⟨by omega, by omega⟩), trivial⟩
  · skip
    refine w_gFc (ji := 4) rfl (congrArg Prod.fst (k_Shape iM h_l0)) (show mG M l0 4 = (l0 + 5) from rd_Shape_4 iM (a := l0) (f_Shape h_l0)) ?_
    refine w_aG (k_Sheight iM h_l0) (by omega) (by omega) (fun a41 ha41 => ?_)
    have ra41 : 0 ≤ a41 ∧ a41 ≤ 3 := ha41.tr (P := fun z => 0 ≤ z ∧ z ≤ 3) (rd_Sheight iM (f_Sheight h_l0))
    refine w_if (fun c2_ => ?_) (fun c2_ => ?_)
    · skip
      exact w_ret ⟨iM, kM, (show (-1) ≤ (-1) ∧ (-1) ≤ 35 from ⟨by omega, by omega⟩), trivial⟩
    · skip
      refine w_if (fun c3_ => ?_) (fun c3_ => ?_)
      · skip
        exact w_ret ⟨iM, kM, (show (-1) ≤ (-1) ∧ (-1) ≤ 35 from ⟨by omega, by omega⟩), trivial⟩
      · skip
        refine w_gFc (ji := 5) rfl (congrArg Prod.fst (k_Shape iM h_l0)) (show mG M l0 5 = (l0 + 6) from rd_Shape_5 iM (a := l0) (f_Shape h_l0)) ?_
        refine w_aG (k_Swidth iM h_l0) (by omega) (by omega) (fun a57 ha57 => ?_)
        have ra57 : 0 ≤ a57 ∧ a57 ≤ 3 := ha57.tr (P := fun z => 0 ≤ z ∧ z ≤ 3) (rd_Swidth iM (f_Swidth h_l0))
        refine w_if (fun c4_ => ?_) (fun c4_ => ?_)
        · skip
          refine w_gFc (ji := 3) rfl (congrArg Prod.fst (k_Shape iM h_l0)) (show mG M l0 3 = (l0 + 4) from rd_Shape_3 iM (a := l0) (f_Shape h_l0)) ?_
          refine w_aG (k_Sstart iM h_l0) (by omega) (by omega) (fun a68 ha68 => ?_)
          have ra68 : 0 ≤ a68 ∧ a68 ≤ 9 * l1 := ha68.tr (P := fun z => 0 ≤ z ∧ z ≤ 9 * l1) (rd_Sstart iM (f_Sstart h_l0) (by omega) (by omega))
          refine w_gFc (ji := 5) rfl (congrArg Prod.fst (k_Shape iM h_l0)) (show mG M l0 5 = (l0 + 6) from rd_Shape_5 iM (a := l0) (f_Shape h_l0)) ?_
          refine w_aGc (k_Swidth iM h_l0) (by omega) (by omega) (show mG M (l0 + 6) l1 = a57 from (show mG M (l0 + 6) l1 = a57 from ha57)) ?_
          have w5_ := mul_b (x := l2) (y := a57) (a := 2) (b := 3) (by omega) (by omega) (by omega) (by omega)
          have w6_ := wI_id (x := (l2 * a57)) (by omega) (by omega)
          have w7_ := wI_id (x := (a68 + (wI (l2 * a57)))) (by omega) (by omega)
          have w8_ := wI_id (x := ((wI (a68 + (wI (l2 * a57)))) + s0)) (by omega) (by omega)
          exact w_ret ⟨iM, kM, (show (-1) ≤ (wI ((wI (a68 + (wI (l2 * a57)))) + s0)) ∧ (wI ((wI (a68 + (wI (l2 * a57)))) + s0)) ≤ 35 from ⟨by omega, by omega⟩), trivial⟩
        · skip
          exact w_ret ⟨iM, kM, (show (-1) ≤ (-1) ∧ (-1) ≤ 35 from ⟨by omega, by omega⟩), trivial⟩
theorem s_X3_place {n : Nat} {l0 l1 l2 l3 : Int} {M : Mem} (h_l0 : isShape l0) (r_l2 : (-2147483648) ≤ l2 ∧ l2 ≤ 2147483647) (r_l3 : (-2147483648) ≤ l3 ∧ l3 ≤ 2147483647) (iM : I n M) : wp (mX3_place l0 l1 l2 l3 M) (fun q => I n q.2 ∧ Keep n (W_X3_place l0) M q.2 ∧ ((-1) ≤ q.1 ∧ q.1 ≤ 35) ∧ True) := by
  have hn : (169 : Int) ≤ (n : Int) := by have := iM.2.2.2.2.1; omega
  have kM : Keep n (W_X3_place l0) M M := Keep.rf
  have u_l0 := h_l0
  unfold isShape at u_l0
  unfold mX3_place
  refine w_if (fun c1_ => ?_) (fun c1_ => ?_)
  · skip
    exact w_ret ⟨iM, kM, (show (-1) ≤ (-1) ∧ (-1) ≤ 35 from ⟨by omega, by omega⟩), trivial⟩
  · skip
    refine w_gF (ji := 6) rfl (congrArg Prod.fst (k_Shape iM h_l0)) (fun a6 ha6 => ?_)
    have ra6 : 0 ≤ a6 ∧ a6 ≤ 4 := ha6.tr (P := fun z => 0 ≤ z ∧ z ≤ 4) (rd_Shape_6 iM (f_Shape h_l0))
    refine w_if (fun c2_ => ?_) (fun c2_ => ?_)
    · skip
      refine w_gFc (ji := 2) rfl (congrArg Prod.fst (k_Shape iM h_l0)) (show mG M l0 2 = (l0 + 3) from rd_Shape_2 iM (a := l0) (f_Shape h_l0)) ?_
      refine w_aG (k_Ssecond iM h_l0) (by omega) (by omega) (fun a19 ha19 => ?_)
      have ra19 : (-1) ≤ a19 ∧ a19 ≤ 2 := ha19.tr (P := fun z => (-1) ≤ z ∧ z ≤ 2) (rd_Ssecond iM (f_Ssecond h_l0))
      refine w_if (fun c3_ => ?_) (fun c3_ => ?_)
      · skip
        exact s_X3_place_29 h_l0 ⟨by omega, by omega⟩ ⟨by omega, by omega⟩ ⟨by omega, by omega⟩ iM kM
      · skip
        exact s_X3_place_29 h_l0 ⟨by omega, by omega⟩ ⟨by omega, by omega⟩ ⟨by omega, by omega⟩ iM kM
    · skip
      exact w_ret ⟨iM, kM, (show (-1) ≤ (-1) ∧ (-1) ≤ 35 from ⟨by omega, by omega⟩), trivial⟩
def W_X3_bit (l0 : Int) (b j : Int) : Prop := False
theorem s_X3_bit {n : Nat} {l0 l1 : Int} {M : Mem} (h_l0 : isShape l0) (r_l1 : (-1) ≤ l1 ∧ l1 ≤ 35) (iM : I n M) : wp (mX3_bit l0 l1 M) (fun q => I n q.2 ∧ Keep n (W_X3_bit l0) M q.2 ∧ ((-36) ≤ q.1 ∧ q.1 ≤ 36) ∧ True) := by
  have hn : (169 : Int) ≤ (n : Int) := by have := iM.2.2.2.2.1; omega
  have kM : Keep n (W_X3_bit l0) M M := Keep.rf
  have u_l0 := h_l0
  unfold isShape at u_l0
  unfold mX3_bit
  refine w_gF (ji := 7) rfl (congrArg Prod.fst (k_Shape iM h_l0)) (fun a1 ha1 => ?_)
  have ra1 : 0 ≤ a1 ∧ a1 ≤ 36 := ha1.tr (P := fun z => 0 ≤ z ∧ z ≤ 36) (rd_Shape_7 iM (f_Shape h_l0))
  have w1_ := wI_id (x := (a1 - 1)) (by omega) (by omega)
  have w2_ := wI_id (x := ((wI (a1 - 1)) - l1)) (by omega) (by omega)
  exact w_ret ⟨iM, kM, (show (-36) ≤ (wI ((wI (a1 - 1)) - l1)) ∧ (wI ((wI (a1 - 1)) - l1)) ≤ 36 from ⟨by omega, by omega⟩), trivial⟩
def W_X6_isSo (b j : Int) : Prop := False
theorem s_X6_isSo {n : Nat} {l1 : Int} {M : Mem} (r_l1 : 0 ≤ l1 ∧ l1 ≤ 35) (iM : I n M) : wp (mX6_isSo 3 l1 M) (fun q => I n q.2 ∧ Keep n W_X6_isSo M q.2 ∧ (0 ≤ q.1 ∧ q.1 ≤ 1) ∧ True) := by
  have hn : (169 : Int) ≤ (n : Int) := by have := iM.2.2.2.2.1; omega
  have kM : Keep n W_X6_isSo M M := Keep.rf
  unfold mX6_isSo
  refine w_gF (ji := 1) rfl (congrArg Prod.fst (kl_3 iM)) (fun a1 ha1 => ?_)
  refine w_gFc (ji := 0) rfl (congrArg Prod.fst (kl_3 iM)) (show mG M 3 0 = 4 from rd_Told_0 iM (a := 3) rfl) ?_
  refine w_gK (congrArg Prod.fst (kl_4 iM)) ?_
  refine w_call (s_X3_bit (by unfold isShape; omega) ⟨by omega, by omega⟩ iM) ?_
  intro v9 m9 pp9
  obtain ⟨im9, kk9, e9_0, -⟩ := pp9
  try dsimp only
  replace im9 : I n m9 := im9
  replace kk9 : Keep n (W_X3_bit 4) M m9 := kk9
  have km9 : Keep n W_X6_isSo M m9 := kM.tr kk9 (fun b j z => z.elim)
  replace e9_0 : (-36) ≤ v9 ∧ v9 ≤ 36 := e9_0
  have w3_ := lcmp_0 ((land (lshr a1 v9) 1)) (0)
  refine w_if (fun c4_ => ?_) (fun c4_ => ?_)
  · skip
    exact w_ret ⟨im9, km9, (show 0 ≤ 0 ∧ 0 ≤ 1 from ⟨by omega, by omega⟩), trivial⟩
  · skip
    exact w_ret ⟨im9, km9, (show 0 ≤ 1 ∧ 1 ≤ 1 from ⟨by omega, by omega⟩), trivial⟩
def W_X8_tell (b j : Int) : Prop := (b = 3 ∧ j = 1)
theorem s_X8_tell {n : Nat} {l1 l2 l3 l4 : Int} {M : Mem} (r_l1 : (-2147483648) ≤ l1 ∧ l1 ≤ 2147483647) (r_l2 : (-2147483648) ≤ l2 ∧ l2 ≤ 2147483647) (r_l3 : (-2147483648) ≤ l3 ∧ l3 ≤ 2147483647) (r_l4 : 0 ≤ l4 ∧ l4 ≤ 1) (iM : I n M) : wp (mX8_tell 1 l1 l2 l3 l4 M) (fun q => I n q.2 ∧ Keep n W_X8_tell M q.2 ∧ (0 ≤ q.1 ∧ q.1 ≤ 1) ∧ True) := by
  have hn : (169 : Int) ≤ (n : Int) := by have := iM.2.2.2.2.1; omega
  have kM : Keep n W_X8_tell M M := Keep.rf
  unfold mX8_tell
  refine w_gFc (ji := 1) rfl (congrArg Prod.fst (kl_1 iM)) (show mG M 1 1 = 3 from rd_VS_1 iM (a := 1) rfl) ?_
  refine w_gFc (ji := 0) rfl (congrArg Prod.fst (kl_3 iM)) (show mG M 3 0 = 4 from rd_Told_0 iM (a := 3) rfl) ?_
  refine w_gK (congrArg Prod.fst (kl_4 iM)) ?_
  refine w_call (s_X3_place (by unfold isShape; omega) ⟨by omega, by omega⟩ ⟨by omega, by omega⟩ iM) ?_
  intro v10 m10 pp10
  obtain ⟨im10, kk10, e10_0, -⟩ := pp10
  try dsimp only
  replace im10 : I n m10 := im10
  replace kk10 : Keep n (W_X3_place 4) M m10 := kk10
  have km10 : Keep n W_X8_tell M m10 := kM.tr kk10 (fun b j z => z.elim)
  replace e10_0 : (-1) ≤ v10 ∧ v10 ≤ 35 := e10_0
  refine w_if (fun c1_ => ?_) (fun c1_ => ?_)
  · skip
    exact w_ret ⟨im10, km10, (show 0 ≤ 0 ∧ 0 ≤ 1 from ⟨by omega, by omega⟩), trivial⟩
  · skip
    refine w_gFc (ji := 1) rfl (congrArg Prod.fst (kl_1 im10)) (show mG m10 1 1 = 3 from rd_VS_1 im10 (a := 1) rfl) ?_
    refine w_gK (congrArg Prod.fst (kl_3 im10)) ?_
    refine w_call (s_X6_isSo ⟨by omega, by omega⟩ im10) ?_
    intro v27 m27 pp27
    obtain ⟨im27, kk27, e27_0, -⟩ := pp27
    try dsimp only
    replace im27 : I n m27 := im27
    replace kk27 : Keep n W_X6_isSo m10 m27 := kk27
    have km27 : Keep n W_X8_tell M m27 := km10.tr kk27 (fun b j z => z.elim)
    replace e27_0 : 0 ≤ v27 ∧ v27 ≤ 1 := e27_0
    refine w_if (fun c2_ => ?_) (fun c2_ => ?_)
    · skip
      exact w_ret ⟨im27, km27, (show 0 ≤ 0 ∧ 0 ≤ 1 from ⟨by omega, by omega⟩), trivial⟩
    · skip
      refine w_gFc (ji := 1) rfl (congrArg Prod.fst (kl_1 im27)) (show mG m27 1 1 = 3 from rd_VS_1 im27 (a := 1) rfl) ?_
      refine w_gF (ji := 1) rfl (congrArg Prod.fst (kl_3 im27)) (fun a42 ha42 => ?_)
      refine w_gFc (ji := 1) rfl (congrArg Prod.fst (kl_1 im27)) (show mG m27 1 1 = 3 from rd_VS_1 im27 (a := 1) rfl) ?_
      refine w_gFc (ji := 0) rfl (congrArg Prod.fst (kl_3 im27)) (show mG m27 3 0 = 4 from rd_Told_0 im27 (a := 3) rfl) ?_
      refine w_gK (congrArg Prod.fst (kl_4 im27)) ?_
      refine w_call (s_X3_bit (by unfold isShape; omega) ⟨by omega, by omega⟩ im27) ?_
      intro v55 m55 pp55
      obtain ⟨im55, kk55, e55_0, -⟩ := pp55
      try dsimp only
      replace im55 : I n m55 := im55
      replace kk55 : Keep n (W_X3_bit 4) m27 m55 := kk55
      have km55 : Keep n W_X8_tell M m55 := km27.tr kk55 (fun b j z => z.elim)
      replace e55_0 : (-36) ≤ v55 ∧ v55 ≤ 36 := e55_0
      refine w_pF (ji := 1) rfl (congrArg Prod.fst (kl_3 im55)) (fun M60 hM60 => ?_)
      replace hM60 : M60 = mS m55 3 1 (lxor a42 (lshl 1 v55)) := hM60
      have iM60 : I n M60 := wr_Told_1 im55 rfl hM60
      have kM60 : Keep n W_X8_tell M M60 := km55.st hM60 (Or.inl ⟨rfl, rfl⟩)
      obtain ⟨svM60, esvM60⟩ : ∃ z, z = (lxor a42 (lshl 1 v55)) := ⟨_, rfl⟩
      exact w_ret ⟨iM60, kM60, (show 0 ≤ 1 ∧ 1 ≤ 1 from ⟨by omega, by omega⟩), trivial⟩
def W_X8_fact (b j : Int) : Prop := False
theorem s_X8_fact {n : Nat} {l1 l2 l3 : Int} {M : Mem} (r_l1 : (-2147483648) ≤ l1 ∧ l1 ≤ 2147483647) (r_l2 : (-2147483648) ≤ l2 ∧ l2 ≤ 2147483647) (r_l3 : (-2147483648) ≤ l3 ∧ l3 ≤ 2147483647) (iM : I n M) : wp (mX8_fact 1 l1 l2 l3 M) (fun q => I n q.2 ∧ Keep n W_X8_fact M q.2 ∧ ((-1) ≤ q.1 ∧ q.1 ≤ 1) ∧ True) := by
  have hn : (169 : Int) ≤ (n : Int) := by have := iM.2.2.2.2.1; omega
  have kM : Keep n W_X8_fact M M := Keep.rf
  unfold mX8_fact
  refine w_gFc (ji := 1) rfl (congrArg Prod.fst (kl_1 iM)) (show mG M 1 1 = 3 from rd_VS_1 iM (a := 1) rfl) ?_
  refine w_gFc (ji := 0) rfl (congrArg Prod.fst (kl_3 iM)) (show mG M 3 0 = 4 from rd_Told_0 iM (a := 3) rfl) ?_
  refine w_gK (congrArg Prod.fst (kl_4 iM)) ?_
  refine w_call (s_X3_place (by unfold isShape; omega) ⟨by omega, by omega⟩ ⟨by omega, by omega⟩ iM) ?_
  intro v10 m10 pp10
  obtain ⟨im10, kk10, e10_0, -⟩ := pp10
  try dsimp only
  replace im10 : I n m10 := im10
  replace kk10 : Keep n (W_X3_place 4) M m10 := kk10
  have km10 : Keep n W_X8_fact M m10 := kM.tr kk10 (fun b j z => z.elim)
  replace e10_0 : (-1) ≤ v10 ∧ v10 ≤ 35 := e10_0
  refine w_if (fun c1_ => ?_) (fun c1_ => ?_)
  · skip
    exact w_ret ⟨im10, km10, (show (-1) ≤ (-1) ∧ (-1) ≤ 1 from ⟨by omega, by omega⟩), trivial⟩
  · skip
    refine w_gFc (ji := 1) rfl (congrArg Prod.fst (kl_1 im10)) (show mG m10 1 1 = 3 from rd_VS_1 im10 (a := 1) rfl) ?_
    refine w_gK (congrArg Prod.fst (kl_3 im10)) ?_
    refine w_call (s_X6_isSo ⟨by omega, by omega⟩ im10) ?_
    intro v29 m29 pp29
    obtain ⟨im29, kk29, e29_0, -⟩ := pp29
    try dsimp only
    replace im29 : I n m29 := im29
    replace kk29 : Keep n W_X6_isSo m10 m29 := kk29
    have km29 : Keep n W_X8_fact M m29 := km10.tr kk29 (fun b j z => z.elim)
    replace e29_0 : 0 ≤ v29 ∧ v29 ≤ 1 := e29_0
    refine w_if (fun c2_ => ?_) (fun c2_ => ?_)
    · skip
      exact w_ret ⟨im29, km29, (show (-1) ≤ 0 ∧ 0 ≤ 1 from ⟨by omega, by omega⟩), trivial⟩
    · skip
      exact w_ret ⟨im29, km29, (show (-1) ≤ 1 ∧ 1 ≤ 1 from ⟨by omega, by omega⟩), trivial⟩
def W_X3_isOfTwo (l0 : Int) (b j : Int) : Prop := False
theorem s_X3_isOfTwo {n : Nat} {l0 l1 : Int} {M : Mem} (h_l0 : isShape l0) (r_l1 : (-2147483648) ≤ l1 ∧ l1 ≤ 2147483647) (iM : I n M) : wp (mX3_isOfTwo l0 l1 M) (fun q => I n q.2 ∧ Keep n (W_X3_isOfTwo l0) M q.2 ∧ (0 ≤ q.1 ∧ q.1 ≤ 1) ∧ (q.1 = 1 → 0 ≤ l1 ∧ l1 ≤ 3) ∧ True) := by
  have hn : (169 : Int) ≤ (n : Int) := by have := iM.2.2.2.2.1; omega
  have kM : Keep n (W_X3_isOfTwo l0) M M := Keep.rf
  have u_l0 := h_l0
  unfold isShape at u_l0
  unfold mX3_isOfTwo
  refine w_if (fun c1_ => ?_) (fun c1_ => ?_)
  · skip
    exact w_ret ⟨iM, kM, (show 0 ≤ 0 ∧ 0 ≤ 1 from ⟨by omega, by omega⟩), (show 0 = 1 → 0 ≤ l1 ∧ l1 ≤ 3 from fun z => by omega), trivial⟩
  · skip
    refine w_gF (ji := 6) rfl (congrArg Prod.fst (k_Shape iM h_l0)) (fun a6 ha6 => ?_)
    have ra6 : 0 ≤ a6 ∧ a6 ≤ 4 := ha6.tr (P := fun z => 0 ≤ z ∧ z ≤ 4) (rd_Shape_6 iM (f_Shape h_l0))
    refine w_if (fun c2_ => ?_) (fun c2_ => ?_)
    · skip
      exact w_ret ⟨iM, kM, (show 0 ≤ 0 ∧ 0 ≤ 1 from ⟨by omega, by omega⟩), (show 0 = 1 → 0 ≤ l1 ∧ l1 ≤ 3 from fun z => by omega), trivial⟩
    · skip
      refine w_gFc (ji := 2) rfl (congrArg Prod.fst (k_Shape iM h_l0)) (show mG M l0 2 = (l0 + 3) from rd_Shape_2 iM (a := l0) (f_Shape h_l0)) ?_
      refine w_aG (k_Ssecond iM h_l0) (by omega) (by omega) (fun a17 ha17 => ?_)
      have ra17 : (-1) ≤ a17 ∧ a17 ≤ 2 := ha17.tr (P := fun z => (-1) ≤ z ∧ z ≤ 2) (rd_Ssecond iM (f_Ssecond h_l0))
      refine w_if (fun c3_ => ?_) (fun c3_ => ?_)
      · skip
        exact w_ret ⟨iM, kM, (show 0 ≤ 0 ∧ 0 ≤ 1 from ⟨by omega, by omega⟩), (show 0 = 1 → 0 ≤ l1 ∧ l1 ≤ 3 from fun z => by omega), trivial⟩
      · skip
        exact w_ret ⟨iM, kM, (show 0 ≤ 1 ∧ 1 ≤ 1 from ⟨by omega, by omega⟩), (show 1 = 1 → 0 ≤ l1 ∧ l1 ≤ 3 from fun z => by omega), trivial⟩
def W_X3_hasRelation (l0 : Int) (b j : Int) : Prop := False
theorem s_X3_hasRelation {n : Nat} {l0 l1 : Int} {M : Mem} (h_l0 : isShape l0) (r_l1 : (-2147483648) ≤ l1 ∧ l1 ≤ 2147483647) (iM : I n M) : wp (mX3_hasRelation l0 l1 M) (fun q => I n q.2 ∧ Keep n (W_X3_hasRelation l0) M q.2 ∧ (0 ≤ q.1 ∧ q.1 ≤ 1) ∧ (q.1 = 1 → 0 ≤ l1 ∧ l1 ≤ 3) ∧ True) := by
  have hn : (169 : Int) ≤ (n : Int) := by have := iM.2.2.2.2.1; omega
  have kM : Keep n (W_X3_hasRelation l0) M M := Keep.rf
  have u_l0 := h_l0
  unfold isShape at u_l0
  unfold mX3_hasRelation
  refine w_if (fun c1_ => ?_) (fun c1_ => ?_)
  · skip
    exact w_ret ⟨iM, kM, (show 0 ≤ 0 ∧ 0 ≤ 1 from ⟨by omega, by omega⟩), (show 0 = 1 → 0 ≤ l1 ∧ l1 ≤ 3 from fun z => by omega), trivial⟩
  · skip
    refine w_gF (ji := 6) rfl (congrArg Prod.fst (k_Shape iM h_l0)) (fun a6 ha6 => ?_)
    have ra6 : 0 ≤ a6 ∧ a6 ≤ 4 := ha6.tr (P := fun z => 0 ≤ z ∧ z ≤ 4) (rd_Shape_6 iM (f_Shape h_l0))
    refine w_if (fun c2_ => ?_) (fun c2_ => ?_)
    · skip
      exact w_ret ⟨iM, kM, (show 0 ≤ 0 ∧ 0 ≤ 1 from ⟨by omega, by omega⟩), (show 0 = 1 → 0 ≤ l1 ∧ l1 ≤ 3 from fun z => by omega), trivial⟩
    · skip
      exact w_ret ⟨iM, kM, (show 0 ≤ 1 ∧ 1 ≤ 1 from ⟨by omega, by omega⟩), (show 1 = 1 → 0 ≤ l1 ∧ l1 ≤ 3 from fun z => by omega), trivial⟩
def W_X6_addKnown (b j : Int) : Prop := (17 ≤ b ∧ b ≤ 19) ∨ (b = 3 ∧ j = 18)
theorem s_X6_addKnown_16 {n : Nat} {Me : Mem} {l1 l2 l4 s0 : Int} {M : Mem} (r_l1 : (-2147483648) ≤ l1 ∧ l1 ≤ 2147483647) (r_l2 : (-2147483648) ≤ l2 ∧ l2 ≤ 2147483647) (r_l4 : 0 ≤ l4 ∧ l4 ≤ 1) (r_s0 : (-2147483648) ≤ s0 ∧ s0 ≤ 2147483647) (iM : I n M) (kM : Keep n W_X6_addKnown Me M) : wp (mX6_addKnown_16 3 l1 l2 l4 s0 M) (fun q => I n q.2 ∧ Keep n W_X6_addKnown Me q.2 ∧ (0 ≤ q.1 ∧ q.1 ≤ 1) ∧ True) := by
  have hn : (169 : Int) ≤ (n : Int) := by have := iM.2.2.2.2.1; omega
  unfold mX6_addKnown_16
  refine w_gF (ji := 18) rfl (congrArg Prod.fst (kl_3 iM)) (fun a19 ha19 => ?_)
  have ra19 : 0 ≤ a19 ∧ a19 ≤ 40 := ha19.tr (P := fun z => 0 ≤ z ∧ z ≤ 40) (rd_Told_18 iM rfl)
  refine w_if (fun c1_ => ?_) (fun c1_ => ?_)
  · skip
    exact w_ret ⟨iM, kM, (show 0 ≤ 0 ∧ 0 ≤ 1 from ⟨by omega, by omega⟩), trivial⟩
  · skip
    refine w_gFc (ji := 0) rfl (congrArg Prod.fst (kl_3 iM)) (show mG M 3 0 = 4 from rd_Told_0 iM (a := 3) rfl) ?_
    refine w_gK (congrArg Prod.fst (kl_4 iM)) ?_
    refine w_call (s_X3_hasRelation (by unfold isShape; omega) ⟨by omega, by omega⟩ iM) ?_
    intro v32 m32 pp32
    obtain ⟨im32, kk32, e32_0, e32_1, -⟩ := pp32
    try dsimp only
    replace im32 : I n m32 := im32
    replace kk32 : Keep n (W_X3_hasRelation 4) M m32 := kk32
    have km32 : Keep n W_X6_addKnown Me m32 := kM.tr kk32 (fun b j z => z.elim)
    replace e32_0 : 0 ≤ v32 ∧ v32 ≤ 1 := e32_0
    replace e32_1 : v32 = 1 → 0 ≤ l1 ∧ l1 ≤ 3 := e32_1
    refine w_if (fun c2_ => ?_) (fun c2_ => ?_)
    · skip
      exact w_ret ⟨im32, km32, (show 0 ≤ 0 ∧ 0 ≤ 1 from ⟨by omega, by omega⟩), trivial⟩
    · skip
      refine w_if (fun c3_ => ?_) (fun c3_ => ?_)
      · skip
        exact w_ret ⟨im32, km32, (show 0 ≤ 0 ∧ 0 ≤ 1 from ⟨by omega, by omega⟩), trivial⟩
      · skip
        refine w_if (fun c4_ => ?_) (fun c4_ => ?_)
        · skip
          exact w_ret ⟨im32, km32, (show 0 ≤ 0 ∧ 0 ≤ 1 from ⟨by omega, by omega⟩), trivial⟩
        · skip
          refine w_if (fun c5_ => ?_) (fun c5_ => ?_)
          · skip
            exact w_ret ⟨im32, km32, (show 0 ≤ 0 ∧ 0 ≤ 1 from ⟨by omega, by omega⟩), trivial⟩
          · skip
            refine w_if (fun c6_ => ?_) (fun c6_ => ?_)
            · skip
              refine w_gFc (ji := 15) rfl (congrArg Prod.fst (kl_3 im32)) (show mG m32 3 15 = 17 from rd_Told_15 im32 (a := 3) rfl) ?_
              refine w_gFc (ji := 18) rfl (congrArg Prod.fst (kl_3 im32)) (show mG m32 3 18 = a19 from ((kk32.2.2 3 18 (by omega) (fun z => z)).trans (show mG M 3 18 = a19 from ha19))) ?_
              have w7_ := wI_id (x := (l1 * 3)) (by omega) (by omega)
              have w8_ := wI_id (x := ((wI (l1 * 3)) + l2)) (by omega) (by omega)
              have w9_ := wI_id (x := ((wI ((wI (l1 * 3)) + l2)) * 3)) (by omega) (by omega)
              have w10_ := wI_id (x := ((wI ((wI ((wI (l1 * 3)) + l2)) * 3)) + s0)) (by omega) (by omega)
              refine w_aS (kl_17 im32) (by omega) (by omega) (fun M78 hM78 => ?_)
              replace hM78 : M78 = mS m32 17 a19 (wI ((wI ((wI ((wI (l1 * 3)) + l2)) * 3)) + s0)) := hM78
              have iM78 : I n M78 := wr_TknownFact im32 rfl ⟨by omega, by omega⟩ hM78
              have kM78 : Keep n W_X6_addKnown Me M78 := km32.st hM78 (Or.inl (Or.inl ⟨by decide, by decide⟩))
              obtain ⟨svM78, esvM78⟩ : ∃ z, z = (wI ((wI ((wI ((wI (l1 * 3)) + l2)) * 3)) + s0)) := ⟨_, rfl⟩
              refine w_gFc (ji := 16) rfl (congrArg Prod.fst (kl_3 iM78)) (show mG M78 3 16 = 18 from rd_Told_16 iM78 (a := 3) rfl) ?_
              refine w_gFc (ji := 18) rfl (congrArg Prod.fst (kl_3 iM78)) (show mG M78 3 18 = a19 from ((st_ne hM78 (fun z => ne_fam rfl rfl (by decide) z.1)).trans ((kk32.2.2 3 18 (by omega) (fun z => z)).trans (show mG M 3 18 = a19 from ha19)))) ?_
              refine w_aSZ (kl_18 iM78) (by omega) (by omega) (by omega) (fun M89 hM89 => ?_)
              replace hM89 : M89 = mS M78 18 a19 l4 := hM89
              have iM89 : I n M89 := wr_TknownSo iM78 rfl ⟨by omega, by omega⟩ hM89
              have kM89 : Keep n W_X6_addKnown Me M89 := kM78.st hM89 (Or.inl (Or.inl ⟨by decide, by decide⟩))
              refine w_gFc (ji := 17) rfl (congrArg Prod.fst (kl_3 iM89)) (show mG M89 3 17 = 19 from rd_Told_17 iM89 (a := 3) rfl) ?_
              refine w_gFc (ji := 18) rfl (congrArg Prod.fst (kl_3 iM89)) (show mG M89 3 18 = a19 from ((st_ne hM89 (fun z => ne_fam rfl rfl (by decide) z.1)).trans ((st_ne hM78 (fun z => ne_fam rfl rfl (by decide) z.1)).trans ((kk32.2.2 3 18 (by omega) (fun z => z)).trans (show mG M 3 18 = a19 from ha19))))) ?_
              refine w_gF (ji := 13) rfl (congrArg Prod.fst (kl_3 iM89)) (fun a99 ha99 => ?_)
              have ra99 : 0 ≤ a99 ∧ a99 ≤ 999 := ha99.tr (P := fun z => 0 ≤ z ∧ z ≤ 999) (rd_Told_13 iM89 rfl)
              refine w_aS (kl_19 iM89) (by omega) (by omega) (fun M102 hM102 => ?_)
              replace hM102 : M102 = mS M89 19 a19 a99 := hM102
              have iM102 : I n M102 := wr_TknownOn iM89 rfl ⟨by omega, by omega⟩ hM102
              have kM102 : Keep n W_X6_addKnown Me M102 := kM89.st hM102 (Or.inl (Or.inl ⟨by decide, by decide⟩))
              refine w_gFc (ji := 18) rfl (congrArg Prod.fst (kl_3 iM102)) (show mG M102 3 18 = a19 from ((st_ne hM102 (fun z => ne_fam rfl rfl (by decide) z.1)).trans ((st_ne hM89 (fun z => ne_fam rfl rfl (by decide) z.1)).trans ((st_ne hM78 (fun z => ne_fam rfl rfl (by decide) z.1)).trans ((kk32.2.2 3 18 (by omega) (fun z => z)).trans (show mG M 3 18 = a19 from ha19)))))) ?_
              have w11_ := wI_id (x := (a19 + 1)) (by omega) (by omega)
              refine w_pF (ji := 18) rfl (congrArg Prod.fst (kl_3 iM102)) (fun M110 hM110 => ?_)
              replace hM110 : M110 = mS M102 3 18 (wI (a19 + 1)) := hM110
              have iM110 : I n M110 := wr_Told_18 iM102 rfl ⟨by omega, by omega⟩ hM110
              have kM110 : Keep n W_X6_addKnown Me M110 := kM102.st hM110 (Or.inl (Or.inr ⟨rfl, rfl⟩))
              obtain ⟨svM110, esvM110⟩ : ∃ z, z = (wI (a19 + 1)) := ⟨_, rfl⟩
              exact w_ret ⟨iM110, kM110, (show 0 ≤ 1 ∧ 1 ≤ 1 from ⟨by omega, by omega⟩), trivial⟩
            · skip
              exact w_ret ⟨im32, km32, (show 0 ≤ 0 ∧ 0 ≤ 1 from ⟨by omega, by omega⟩), trivial⟩
theorem s_X6_addKnown {n : Nat} {l1 l2 l3 l4 : Int} {M : Mem} (r_l1 : (-2147483648) ≤ l1 ∧ l1 ≤ 2147483647) (r_l2 : (-2147483648) ≤ l2 ∧ l2 ≤ 2147483647) (r_l3 : (-2147483648) ≤ l3 ∧ l3 ≤ 2147483647) (r_l4 : 0 ≤ l4 ∧ l4 ≤ 1) (iM : I n M) : wp (mX6_addKnown 3 l1 l2 l3 l4 M) (fun q => I n q.2 ∧ Keep n W_X6_addKnown M q.2 ∧ (0 ≤ q.1 ∧ q.1 ≤ 1) ∧ True) := by
  have hn : (169 : Int) ≤ (n : Int) := by have := iM.2.2.2.2.1; omega
  have kM : Keep n W_X6_addKnown M M := Keep.rf
  unfold mX6_addKnown
  refine w_gFc (ji := 0) rfl (congrArg Prod.fst (kl_3 iM)) (show mG M 3 0 = 4 from rd_Told_0 iM (a := 3) rfl) ?_
  refine w_gK (congrArg Prod.fst (kl_4 iM)) ?_
  refine w_call (s_X3_isOfTwo (by unfold isShape; omega) ⟨by omega, by omega⟩ iM) ?_
  intro v5 m5 pp5
  obtain ⟨im5, kk5, e5_0, e5_1, -⟩ := pp5
  try dsimp only
  replace im5 : I n m5 := im5
  replace kk5 : Keep n (W_X3_isOfTwo 4) M m5 := kk5
  have km5 : Keep n W_X6_addKnown M m5 := kM.tr kk5 (fun b j z => z.elim)
  replace e5_0 : 0 ≤ v5 ∧ v5 ≤ 1 := e5_0
  replace e5_1 : v5 = 1 → 0 ≤ l1 ∧ l1 ≤ 3 := e5_1
  refine w_if (fun c1_ => ?_) (fun c1_ => ?_)
  · skip
    exact s_X6_addKnown_16 ⟨by omega, by omega⟩ ⟨by omega, by omega⟩ ⟨by omega, by omega⟩ ⟨by omega, by omega⟩ im5 km5
  · skip
    exact s_X6_addKnown_16 ⟨by omega, by omega⟩ ⟨by omega, by omega⟩ ⟨by omega, by omega⟩ ⟨by omega, by omega⟩ im5 km5
def W_X8_known (b j : Int) : Prop := (17 ≤ b ∧ b ≤ 19) ∨ (b = 3 ∧ j = 18)
theorem s_X8_known {n : Nat} {l1 l2 l3 l4 : Int} {M : Mem} (r_l1 : (-2147483648) ≤ l1 ∧ l1 ≤ 2147483647) (r_l2 : (-2147483648) ≤ l2 ∧ l2 ≤ 2147483647) (r_l3 : (-2147483648) ≤ l3 ∧ l3 ≤ 2147483647) (r_l4 : 0 ≤ l4 ∧ l4 ≤ 1) (iM : I n M) : wp (mX8_known 1 l1 l2 l3 l4 M) (fun q => I n q.2 ∧ Keep n W_X8_known M q.2 ∧ (0 ≤ q.1 ∧ q.1 ≤ 1) ∧ True) := by
  have hn : (169 : Int) ≤ (n : Int) := by have := iM.2.2.2.2.1; omega
  have kM : Keep n W_X8_known M M := Keep.rf
  unfold mX8_known
  refine w_gFc (ji := 1) rfl (congrArg Prod.fst (kl_1 iM)) (show mG M 1 1 = 3 from rd_VS_1 iM (a := 1) rfl) ?_
  refine w_gK (congrArg Prod.fst (kl_3 iM)) ?_
  refine w_call (s_X6_addKnown ⟨by omega, by omega⟩ ⟨by omega, by omega⟩ ⟨by omega, by omega⟩ ⟨by omega, by omega⟩ iM) ?_
  intro v9 m9 pp9
  obtain ⟨im9, kk9, e9_0, -⟩ := pp9
  try dsimp only
  replace im9 : I n m9 := im9
  replace kk9 : Keep n W_X6_addKnown M m9 := kk9
  have km9 : Keep n W_X8_known M m9 := kM.tr kk9 (fun b j z => Or.elim z (fun z => (Or.inl z)) (fun z => (Or.inr z)))
  replace e9_0 : 0 ≤ v9 ∧ v9 ≤ 1 := e9_0
  refine w_zR (by omega) (fun z hz => ?_)
  exact w_ret ⟨im9, km9, (show 0 ≤ z ∧ z ≤ 1 from ⟨by omega, by omega⟩), trivial⟩
def W_X8_keep (b j : Int) : Prop := (11 ≤ b ∧ b ≤ 12)
theorem s_X8_keep {n : Nat} {l1 : Int} {M : Mem} (r_l1 : (-2147483648) ≤ l1 ∧ l1 ≤ 2147483647) (iM : I n M) : wp (mX8_keep 1 l1 M) (fun q => I n q.2 ∧ Keep n W_X8_keep M q.2 ∧ (0 ≤ q.1 ∧ q.1 ≤ 1) ∧ True) := by
  have hn : (169 : Int) ≤ (n : Int) := by have := iM.2.2.2.2.1; omega
  have kM : Keep n W_X8_keep M M := Keep.rf
  unfold mX8_keep
  refine w_if (fun c1_ => ?_) (fun c1_ => ?_)
  · skip
    exact w_ret ⟨iM, kM, (show 0 ≤ 0 ∧ 0 ≤ 1 from ⟨by omega, by omega⟩), trivial⟩
  · skip
    refine w_if (fun c2_ => ?_) (fun c2_ => ?_)
    · skip
      refine w_gFc (ji := 1) rfl (congrArg Prod.fst (kl_1 iM)) (show mG M 1 1 = 3 from rd_VS_1 iM (a := 1) rfl) ?_
      refine w_gFc (ji := 2) rfl (congrArg Prod.fst (kl_3 iM)) (show mG M 3 2 = 11 from rd_Told_2 iM (a := 3) rfl) ?_
      refine w_gFc (ji := 1) rfl (congrArg Prod.fst (kl_1 iM)) (show mG M 1 1 = 3 from rd_VS_1 iM (a := 1) rfl) ?_
      refine w_gF (ji := 1) rfl (congrArg Prod.fst (kl_3 iM)) (fun a23 ha23 => ?_)
      refine w_aS (kl_11 iM) (by omega) (by omega) (fun M26 hM26 => ?_)
      replace hM26 : M26 = mS M 11 l1 a23 := hM26
      have iM26 : I n M26 := wr_Tkept iM rfl hM26
      have kM26 : Keep n W_X8_keep M M26 := kM.st hM26 (Or.inl ⟨by decide, by decide⟩)
      refine w_gFc (ji := 1) rfl (congrArg Prod.fst (kl_1 iM26)) (show mG M26 1 1 = 3 from rd_VS_1 iM26 (a := 1) rfl) ?_
      refine w_gFc (ji := 3) rfl (congrArg Prod.fst (kl_3 iM26)) (show mG M26 3 3 = 12 from rd_Told_3 iM26 (a := 3) rfl) ?_
      refine w_aSZ (kl_12 iM26) (by omega) (by omega) (by omega) (fun M36 hM36 => ?_)
      replace hM36 : M36 = mS M26 12 l1 1 := hM36
      have iM36 : I n M36 := wr_TisKept iM26 rfl ⟨by omega, by omega⟩ hM36
      have kM36 : Keep n W_X8_keep M M36 := kM26.st hM36 (Or.inl ⟨by decide, by decide⟩)
      exact w_ret ⟨iM36, kM36, (show 0 ≤ 1 ∧ 1 ≤ 1 from ⟨by omega, by omega⟩), trivial⟩
    · skip
      exact w_ret ⟨iM, kM, (show 0 ≤ 0 ∧ 0 ≤ 1 from ⟨by omega, by omega⟩), trivial⟩
def W_X4_canTell (b j : Int) : Prop := False
theorem s_X4_canTell {n : Nat} {M : Mem} (iM : I n M) : wp (mX4_canTell 2 M) (fun q => I n q.2 ∧ Keep n W_X4_canTell M q.2 ∧ (0 ≤ q.1 ∧ q.1 ≤ 1) ∧ True) := by
  have hn : (169 : Int) ≤ (n : Int) := by have := iM.2.2.2.2.1; omega
  have kM : Keep n W_X4_canTell M M := Keep.rf
  unfold mX4_canTell
  refine w_gFc (ji := 0) rfl (congrArg Prod.fst (kl_2 iM)) (show mG M 2 0 = 3 from rd_Solver_0 iM (a := 2) rfl) ?_
  refine w_gFc (ji := 0) rfl (congrArg Prod.fst (kl_3 iM)) (show mG M 3 0 = 4 from rd_Told_0 iM (a := 3) rfl) ?_
  refine w_gF (ji := 7) rfl (congrArg Prod.fst (kl_4 iM)) (fun a7 ha7 => ?_)
  have ra7 : 0 ≤ a7 ∧ a7 ≤ 36 := ha7.tr (P := fun z => 0 ≤ z ∧ z ≤ 36) (rd_Shape_7 iM rfl)
  refine w_if (fun c1_ => ?_) (fun c1_ => ?_)
  · skip
    exact w_ret ⟨iM, kM, (show 0 ≤ 0 ∧ 0 ≤ 1 from ⟨by omega, by omega⟩), trivial⟩
  · skip
    exact w_ret ⟨iM, kM, (show 0 ≤ 1 ∧ 1 ≤ 1 from ⟨by omega, by omega⟩), trivial⟩
def W_X1_ordersOf (l0 : Int) (b j : Int) : Prop := False
theorem s_X1_ordersOf_30 {n : Nat} {Me : Mem} {l0 : Int} (h_l0 : isShape l0) {l1 : Int} {M : Mem} (r_l1 : 0 ≤ l1 ∧ l1 ≤ 2) (iM : I n M) (kM : Keep n (W_X1_ordersOf l0) Me M) : wp (mX1_ordersOf_30 l0 l1 M) (fun q => I n q.2 ∧ Keep n (W_X1_ordersOf l0) Me q.2 ∧ (1 ≤ q.1 ∧ q.1 ≤ 6) ∧ True) := by
  have hn : (169 : Int) ≤ (n : Int) := by have := iM.2.2.2.2.1; omega
  have u_l0 := h_l0
  unfold isShape at u_l0
  unfold mX1_ordersOf_30
  refine w_gFc (ji := 0) rfl (congrArg Prod.fst (k_Shape iM h_l0)) (show mG M l0 0 = (l0 + 1) from rd_Shape_0 iM (a := l0) (f_Shape h_l0)) ?_
  refine w_aG (k_Ssizes iM h_l0) (by omega) (by omega) (fun a38 ha38 => ?_)
  have ra38 : 1 ≤ a38 ∧ a38 ≤ 3 := ha38.tr (P := fun z => 1 ≤ z ∧ z ≤ 3) (rd_Ssizes iM (f_Ssizes h_l0) (by omega) (by omega))
  refine w_tG (by omega) (by show _ < (4 : Int); omega) (fun a39 ha39 => ?_)
  have ra39 : 1 ≤ a39 ∧ a39 ≤ 6 := by rw [ha39]; exact ordN_r _ (by omega)
  exact w_ret ⟨iM, kM, (show 1 ≤ a39 ∧ a39 ≤ 6 from ⟨by omega, by omega⟩), trivial⟩
theorem sb_X1_ordersOf_2 {n : Nat} {Me : Mem} {l0 : Int} (h_l0 : isShape l0) {k2 : Int → Int → Int → Mem → Option (Int × Mem)} {fu2 : Nat} (hk2 : ∀ (l1 l2 : Int) (M : Mem), (0 ≤ l1 ∧ l1 ≤ 2) → (0 ≤ l2 ∧ l2 ≤ 4) → 5 - l2 < (fu2 : Int) → I n M → Keep n (W_X1_ordersOf l0) Me M → wp (k2 l0 l1 l2 M) (fun q => I n q.2 ∧ Keep n (W_X1_ordersOf l0) Me q.2 ∧ (1 ≤ q.1 ∧ q.1 ≤ 6) ∧ True)) {l1 l2 : Int} {M : Mem} (r_l1 : 0 ≤ l1 ∧ l1 ≤ 2) (r_l2 : 0 ≤ l2 ∧ l2 ≤ 4) (hf2 : 5 - l2 < (fu2 : Int) + 1) (iM : I n M) (kM : Keep n (W_X1_ordersOf l0) Me M) : wp (bX1_ordersOf_2 k2 l0 l1 l2 M) (fun q => I n q.2 ∧ Keep n (W_X1_ordersOf l0) Me q.2 ∧ (1 ≤ q.1 ∧ q.1 ≤ 6) ∧ True) := by
  have hn : (169 : Int) ≤ (n : Int) := by have := iM.2.2.2.2.1; omega
  have u_l0 := h_l0
  unfold isShape at u_l0
  unfold bX1_ordersOf_2
  refine w_gF (ji := 6) rfl (congrArg Prod.fst (k_Shape iM h_l0)) (fun a4 ha4 => ?_)
  have ra4 : 0 ≤ a4 ∧ a4 ≤ 4 := ha4.tr (P := fun z => 0 ≤ z ∧ z ≤ 4) (rd_Shape_6 iM (f_Shape h_l0))
  refine w_if (fun c1_ => ?_) (fun c1_ => ?_)
  · skip
    exact w_ret ⟨iM, kM, (show 1 ≤ 1 ∧ 1 ≤ 6 from ⟨by omega, by omega⟩), trivial⟩
  · skip
    refine w_gFc (ji := 1) rfl (congrArg Prod.fst (k_Shape iM h_l0)) (show mG M l0 1 = (l0 + 2) from rd_Shape_1 iM (a := l0) (f_Shape h_l0)) ?_
    refine w_aG (k_Sfirst iM h_l0) (by omega) (by omega) (fun a15 ha15 => ?_)
    have ra15 : 0 ≤ a15 ∧ a15 ≤ 2 := ha15.tr (P := fun z => 0 ≤ z ∧ z ≤ 2) (rd_Sfirst iM (f_Sfirst h_l0))
    refine w_if (fun c2_ => ?_) (fun c2_ => ?_)
    · skip
      exact s_X1_ordersOf_30 h_l0 ⟨by omega, by omega⟩ iM kM
    · skip
      refine w_gFc (ji := 2) rfl (congrArg Prod.fst (k_Shape iM h_l0)) (show mG M l0 2 = (l0 + 3) from rd_Shape_2 iM (a := l0) (f_Shape h_l0)) ?_
      refine w_aG (k_Ssecond iM h_l0) (by omega) (by omega) (fun a25 ha25 => ?_)
      have ra25 : (-1) ≤ a25 ∧ a25 ≤ 2 := ha25.tr (P := fun z => (-1) ≤ z ∧ z ≤ 2) (rd_Ssecond iM (f_Ssecond h_l0))
      refine w_if (fun c3_ => ?_) (fun c3_ => ?_)
      · skip
        exact s_X1_ordersOf_30 h_l0 ⟨by omega, by omega⟩ iM kM
      · skip
        have w4_ := wI_id (x := (l2 + 1)) (by omega) (by omega)
        exact hk2 _ _ _ ⟨by omega, by omega⟩ ⟨by omega, by omega⟩ (by omega) iM kM
theorem s_X1_ordersOf_2 {n : Nat} {Me : Mem} {l0 : Int} (h_l0 : isShape l0) : ∀ (fu : Nat) (l1 l2 : Int) (M : Mem), (0 ≤ l1 ∧ l1 ≤ 2) → (0 ≤ l2 ∧ l2 ≤ 4) → 5 - l2 < (fu : Int) → I n M → Keep n (W_X1_ordersOf l0) Me M → wp (mX1_ordersOf_2 fu l0 l1 l2 M) (fun q => I n q.2 ∧ Keep n (W_X1_ordersOf l0) Me q.2 ∧ (1 ≤ q.1 ∧ q.1 ≤ 6) ∧ True) := by
  intro fu
  induction fu with
  | zero =>
    intro l1 l2 M r_l1 r_l2 hf iM kM
    exfalso
    omega
  | succ fu ih =>
    intro l1 l2 M r_l1 r_l2 hf iM kM
    exact sb_X1_ordersOf_2 h_l0 ih r_l1 r_l2 (by have e : ((fu + 1 : Nat) : Int) = (fu : Int) + 1 := rfl; rw [e] at hf; exact hf) iM kM
theorem s_X1_ordersOf {n : Nat} {l0 l1 : Int} {M : Mem} (h_l0 : isShape l0) (r_l1 : 0 ≤ l1 ∧ l1 ≤ 2) (iM : I n M) : wp (mX1_ordersOf l0 l1 M) (fun q => I n q.2 ∧ Keep n (W_X1_ordersOf l0) M q.2 ∧ (1 ≤ q.1 ∧ q.1 ≤ 6) ∧ True) := by
  have hn : (169 : Int) ≤ (n : Int) := by have := iM.2.2.2.2.1; omega
  have kM : Keep n (W_X1_ordersOf l0) M M := Keep.rf
  have u_l0 := h_l0
  unfold isShape at u_l0
  unfold mX1_ordersOf
  exact s_X1_ordersOf_2 h_l0 FU _ _ _ ⟨by omega, by omega⟩ ⟨by omega, by omega⟩ (by show _ < (70000 : Int); omega) iM kM
def W_X1_ordered (b j : Int) : Prop := False
theorem s_X1_ordered_31 {n : Nat} {Me : Mem} {l2 : Int} {M : Mem} (r_l2 : 0 ≤ l2 ∧ l2 ≤ 2) (iM : I n M) (kM : Keep n W_X1_ordered Me M) : wp (mX1_ordered_31 l2 M) (fun q => I n q.2 ∧ Keep n W_X1_ordered Me q.2 ∧ (0 ≤ q.1 ∧ q.1 ≤ 2) ∧ True) := by
  have hn : (169 : Int) ≤ (n : Int) := by have := iM.2.2.2.2.1; omega
  unfold mX1_ordered_31
  exact w_ret ⟨iM, kM, (show 0 ≤ l2 ∧ l2 ≤ 2 from ⟨by omega, by omega⟩), trivial⟩
theorem s_X1_ordered {n : Nat} {l1 l2 : Int} {M : Mem} (r_l1 : 0 ≤ l1 ∧ l1 ≤ 2) (r_l2 : 0 ≤ l2 ∧ l2 ≤ 2) (iM : I n M) : wp (mX1_ordered 24 l1 l2 M) (fun q => I n q.2 ∧ Keep n W_X1_ordered M q.2 ∧ (0 ≤ q.1 ∧ q.1 ≤ 2) ∧ True) := by
  have hn : (169 : Int) ≤ (n : Int) := by have := iM.2.2.2.2.1; omega
  have kM : Keep n W_X1_ordered M M := Keep.rf
  unfold mX1_ordered
  refine w_gFc (ji := 0) rfl (congrArg Prod.fst (kl_24 iM)) (show mG M 24 0 = 25 from rd_Others_0 iM (a := 24) rfl) ?_
  refine w_aG (kl_25 iM) (by omega) (by omega) (fun a5 ha5 => ?_)
  have ra5 : 0 ≤ a5 ∧ a5 ≤ 6 := ha5.tr (P := fun z => 0 ≤ z ∧ z ≤ 6) (rd_Oorder iM rfl)
  have w1_ := wI_id (x := (a5 * 3)) (by omega) (by omega)
  have w2_ := wI_id (x := ((wI (a5 * 3)) + l2)) (by omega) (by omega)
  refine w_some (fun b10 hb10 => ?_)
  replace hb10 : b10 = (wI ((wI (a5 * 3)) + l2)) := hb10
  refine w_if (fun c3_ => ?_) (fun c3_ => ?_)
  · exfalso; omega
  · skip
    refine w_if (fun c4_ => ?_) (fun c4_ => ?_)
    · skip
      exact s_X1_ordered_31 ⟨by omega, by omega⟩ iM kM
    · skip
      refine w_tG (by omega) (by show _ < (18 : Int); omega) (fun a27 ha27 => ?_)
      have ra27 : 0 ≤ a27 ∧ a27 ≤ 2 := by rw [ha27]; exact ordL_r _
      exact w_ret ⟨iM, kM, (show 0 ≤ a27 ∧ a27 ≤ 2 from ⟨by omega, by omega⟩), trivial⟩
def W_X1_addWay (l1 : Int) (b j : Int) : Prop := b = 26 ∨ (b = 24 ∧ j = 4)
theorem s_X1_addWay_137 {n : Nat} {Me : Mem} {l1 : Int} (h_l1 : isShape l1) {k4 : Int → Int → Int → Int → Mem → Option (Int × Mem)} {fu4 : Nat} (hk4 : ∀ (l2 l3 : Int) (M : Mem), (0 ≤ l2 ∧ l2 ≤ 36) → (0 ≤ l3 ∧ l3 ≤ 4) → (0 ≤ l2 ∧ l2 ≤ 9 * l3) → 5 - l3 < (fu4 : Int) → I n M → Keep n (W_X1_addWay l1) Me M → wp (k4 24 l1 l2 l3 M) (fun q => I n q.2 ∧ Keep n (W_X1_addWay l1) Me q.2 ∧ True)) {k23 : Int → Int → Int → Int → Int → Int → Mem → Option (Int × Mem)} {fu23 : Nat} (hk23 : ∀ (l2 l3 l4 l5 : Int) (M : Mem), (0 ≤ l2 ∧ l2 ≤ 36) → (0 ≤ l3 ∧ l3 ≤ 3) → ((-1) ≤ l4 ∧ l4 ≤ 2) → (0 ≤ l5 ∧ l5 ≤ 3) → (0 ≤ l2 ∧ l2 ≤ 9 * l3 + 3 * l5) → 5 - l3 < (fu4 : Int) + 1 → 4 - l5 < (fu23 : Int) → I n M → Keep n (W_X1_addWay l1) Me M → wp (k23 24 l1 l2 l3 l4 l5 M) (fun q => I n q.2 ∧ Keep n (W_X1_addWay l1) Me q.2 ∧ True)) {k58 : Int → Int → Int → Int → Int → Int → Int → Int → Mem → Option (Int × Mem)} {fu58 : Nat} (hk58 : ∀ (l2 l3 l4 l5 l6 l7 : Int) (M : Mem), (0 ≤ l2 ∧ l2 ≤ 36) → (0 ≤ l3 ∧ l3 ≤ 3) → ((-1) ≤ l4 ∧ l4 ≤ 2) → (0 ≤ l5 ∧ l5 ≤ 2) → (0 ≤ l6 ∧ l6 ≤ 6) → (0 ≤ l7 ∧ l7 ≤ 3) → (0 ≤ l2 ∧ l2 ≤ 9 * l3 + 3 * l5 + l7) → 5 - l3 < (fu4 : Int) + 1 → 4 - l5 < (fu23 : Int) + 1 → 37 - l2 < (fu58 : Int) → I n M → Keep n (W_X1_addWay l1) Me M → wp (k58 24 l1 l2 l3 l4 l5 l6 l7 M) (fun q => I n q.2 ∧ Keep n (W_X1_addWay l1) Me q.2 ∧ True)) {l2 l3 l4 l5 l6 l7 : Int} {M : Mem} (r_l2 : 0 ≤ l2 ∧ l2 ≤ 36) (r_l3 : 0 ≤ l3 ∧ l3 ≤ 3) (r_l4 : (-1) ≤ l4 ∧ l4 ≤ 2) (r_l5 : 0 ≤ l5 ∧ l5 ≤ 2) (r_l6 : 0 ≤ l6 ∧ l6 ≤ 6) (r_l7 : 0 ≤ l7 ∧ l7 ≤ 2) (z0 : 0 ≤ l2 ∧ l2 ≤ 9 * l3 + 3 * l5 + l7) (hf4 : 5 - l3 < (fu4 : Int) + 1) (hf23 : 4 - l5 < (fu23 : Int) + 1) (hf58 : 37 - l2 < (fu58 : Int) + 1) (iM : I n M) (kM : Keep n (W_X1_addWay l1) Me M) : wp (mX1_addWay_137 k4 k23 k58 24 l1 l2 l3 l4 l5 l6 l7 M) (fun q => I n q.2 ∧ Keep n (W_X1_addWay l1) Me q.2 ∧ True) := by
  have hn : (169 : Int) ≤ (n : Int) := by have := iM.2.2.2.2.1; omega
  have u_l1 := h_l1
  unfold isShape at u_l1
  unfold mX1_addWay_137
  have w1_ := wI_id (x := (l2 + 1)) (by omega) (by omega)
  have w2_ := wI_id (x := (l7 + 1)) (by omega) (by omega)
  exact hk58 _ _ _ _ _ _ _ ⟨by omega, by omega⟩ ⟨by omega, by omega⟩ ⟨by omega, by omega⟩ ⟨by omega, by omega⟩ ⟨by omega, by omega⟩ ⟨by omega, by omega⟩ (by all_goals omega) (by omega) (by omega) (by omega) iM kM
theorem s_X1_addWay_96 {n : Nat} {Me : Mem} {l1 : Int} (h_l1 : isShape l1) {k4 : Int → Int → Int → Int → Mem → Option (Int × Mem)} {fu4 : Nat} (hk4 : ∀ (l2 l3 : Int) (M : Mem), (0 ≤ l2 ∧ l2 ≤ 36) → (0 ≤ l3 ∧ l3 ≤ 4) → (0 ≤ l2 ∧ l2 ≤ 9 * l3) → 5 - l3 < (fu4 : Int) → I n M → Keep n (W_X1_addWay l1) Me M → wp (k4 24 l1 l2 l3 M) (fun q => I n q.2 ∧ Keep n (W_X1_addWay l1) Me q.2 ∧ True)) {k23 : Int → Int → Int → Int → Int → Int → Mem → Option (Int × Mem)} {fu23 : Nat} (hk23 : ∀ (l2 l3 l4 l5 : Int) (M : Mem), (0 ≤ l2 ∧ l2 ≤ 36) → (0 ≤ l3 ∧ l3 ≤ 3) → ((-1) ≤ l4 ∧ l4 ≤ 2) → (0 ≤ l5 ∧ l5 ≤ 3) → (0 ≤ l2 ∧ l2 ≤ 9 * l3 + 3 * l5) → 5 - l3 < (fu4 : Int) + 1 → 4 - l5 < (fu23 : Int) → I n M → Keep n (W_X1_addWay l1) Me M → wp (k23 24 l1 l2 l3 l4 l5 M) (fun q => I n q.2 ∧ Keep n (W_X1_addWay l1) Me q.2 ∧ True)) {k58 : Int → Int → Int → Int → Int → Int → Int → Int → Mem → Option (Int × Mem)} {fu58 : Nat} (hk58 : ∀ (l2 l3 l4 l5 l6 l7 : Int) (M : Mem), (0 ≤ l2 ∧ l2 ≤ 36) → (0 ≤ l3 ∧ l3 ≤ 3) → ((-1) ≤ l4 ∧ l4 ≤ 2) → (0 ≤ l5 ∧ l5 ≤ 2) → (0 ≤ l6 ∧ l6 ≤ 6) → (0 ≤ l7 ∧ l7 ≤ 3) → (0 ≤ l2 ∧ l2 ≤ 9 * l3 + 3 * l5 + l7) → 5 - l3 < (fu4 : Int) + 1 → 4 - l5 < (fu23 : Int) + 1 → 37 - l2 < (fu58 : Int) → I n M → Keep n (W_X1_addWay l1) Me M → wp (k58 24 l1 l2 l3 l4 l5 l6 l7 M) (fun q => I n q.2 ∧ Keep n (W_X1_addWay l1) Me q.2 ∧ True)) {l2 l3 l4 l5 l6 l7 s0 s1 : Int} {M : Mem} (r_l2 : 0 ≤ l2 ∧ l2 ≤ 36) (r_l3 : 0 ≤ l3 ∧ l3 ≤ 3) (r_l4 : (-1) ≤ l4 ∧ l4 ≤ 2) (r_l5 : 0 ≤ l5 ∧ l5 ≤ 2) (r_l6 : 0 ≤ l6 ∧ l6 ≤ 6) (r_l7 : 0 ≤ l7 ∧ l7 ≤ 2) (r_s0 : 0 ≤ s0 ∧ s0 ≤ 33) (r_s1 : 0 ≤ s1 ∧ s1 ≤ 2) (z0 : 0 ≤ l2 ∧ l2 ≤ 9 * l3 + 3 * l5 + l7) (hf4 : 5 - l3 < (fu4 : Int) + 1) (hf23 : 4 - l5 < (fu23 : Int) + 1) (hf58 : 37 - l2 < (fu58 : Int) + 1) (iM : I n M) (kM : Keep n (W_X1_addWay l1) Me M) : wp (mX1_addWay_96 k4 k23 k58 24 l1 l2 l3 l4 l5 l6 l7 s0 s1 M) (fun q => I n q.2 ∧ Keep n (W_X1_addWay l1) Me q.2 ∧ True) := by
  have hn : (169 : Int) ≤ (n : Int) := by have := iM.2.2.2.2.1; omega
  have u_l1 := h_l1
  unfold isShape at u_l1
  unfold mX1_addWay_96
  refine w_gF (ji := 4) rfl (congrArg Prod.fst (kl_24 iM)) (fun a100 ha100 => ?_)
  have ra100 : 0 ≤ a100 ∧ a100 ≤ 216 := ha100.tr (P := fun z => 0 ≤ z ∧ z ≤ 216) (rd_Others_4 iM rfl)
  refine w_if (fun c1_ => ?_) (fun c1_ => ?_)
  · skip
    exact s_X1_addWay_137 h_l1 hk4 hk23 hk58 ⟨by omega, by omega⟩ ⟨by omega, by omega⟩ ⟨by omega, by omega⟩ ⟨by omega, by omega⟩ ⟨by omega, by omega⟩ ⟨by omega, by omega⟩ (by all_goals omega) (by omega) (by omega) (by omega) iM kM
  · skip
    refine w_if (fun c2_ => ?_) (fun c2_ => ?_)
    · skip
      exact s_X1_addWay_137 h_l1 hk4 hk23 hk58 ⟨by omega, by omega⟩ ⟨by omega, by omega⟩ ⟨by omega, by omega⟩ ⟨by omega, by omega⟩ ⟨by omega, by omega⟩ ⟨by omega, by omega⟩ (by all_goals omega) (by omega) (by omega) (by omega) iM kM
    · skip
      refine w_gFc (ji := 1) rfl (congrArg Prod.fst (kl_24 iM)) (show mG M 24 1 = 26 from rd_Others_1 iM (a := 24) rfl) ?_
      refine w_gFc (ji := 4) rfl (congrArg Prod.fst (kl_24 iM)) (show mG M 24 4 = a100 from (show mG M 24 4 = a100 from ha100)) ?_
      refine w_gK (congrArg Prod.fst (k_Shape iM h_l1)) ?_
      have w3_ := wI_id (x := (s0 + s1)) (by omega) (by omega)
      refine w_call (s_X3_bit h_l1 ⟨by omega, by omega⟩ iM) ?_
      intro v132 m132 pp132
      obtain ⟨im132, kk132, e132_0, -⟩ := pp132
      try dsimp only
      replace im132 : I n m132 := im132
      replace kk132 : Keep n (W_X3_bit l1) M m132 := kk132
      have km132 : Keep n (W_X1_addWay l1) Me m132 := kM.tr kk132 (fun b j z => z.elim)
      replace e132_0 : (-36) ≤ v132 ∧ v132 ≤ 36 := e132_0
      have w4_ := wI_id (x := (a100 * 12)) (by omega) (by omega)
      have w5_ := wI_id (x := ((wI (a100 * 12)) + l2)) (by omega) (by omega)
      have w6_ := ishl_in 1 v132
      refine w_aS (kl_26 im132) (by omega) (by omega) (fun M136 hM136 => ?_)
      replace hM136 : M136 = mS m132 26 (wI ((wI (a100 * 12)) + l2)) (ishl 1 v132) := hM136
      have iM136 : I n M136 := wr_Omoved im132 rfl ⟨by omega, by omega⟩ hM136
      have kM136 : Keep n (W_X1_addWay l1) Me M136 := km132.st hM136 (Or.inl (Or.inl rfl))
      obtain ⟨svM136, esvM136⟩ : ∃ z, z = (ishl 1 v132) := ⟨_, rfl⟩
      exact s_X1_addWay_137 h_l1 hk4 hk23 hk58 ⟨by omega, by omega⟩ ⟨by omega, by omega⟩ ⟨by omega, by omega⟩ ⟨by omega, by omega⟩ ⟨by omega, by omega⟩ ⟨by omega, by omega⟩ (by all_goals omega) (by omega) (by omega) (by omega) iM136 kM136
theorem sb_X1_addWay_58 {n : Nat} {Me : Mem} {l1 : Int} (h_l1 : isShape l1) {k4 : Int → Int → Int → Int → Mem → Option (Int × Mem)} {fu4 : Nat} (hk4 : ∀ (l2 l3 : Int) (M : Mem), (0 ≤ l2 ∧ l2 ≤ 36) → (0 ≤ l3 ∧ l3 ≤ 4) → (0 ≤ l2 ∧ l2 ≤ 9 * l3) → 5 - l3 < (fu4 : Int) → I n M → Keep n (W_X1_addWay l1) Me M → wp (k4 24 l1 l2 l3 M) (fun q => I n q.2 ∧ Keep n (W_X1_addWay l1) Me q.2 ∧ True)) {k23 : Int → Int → Int → Int → Int → Int → Mem → Option (Int × Mem)} {fu23 : Nat} (hk23 : ∀ (l2 l3 l4 l5 : Int) (M : Mem), (0 ≤ l2 ∧ l2 ≤ 36) → (0 ≤ l3 ∧ l3 ≤ 3) → ((-1) ≤ l4 ∧ l4 ≤ 2) → (0 ≤ l5 ∧ l5 ≤ 3) → (0 ≤ l2 ∧ l2 ≤ 9 * l3 + 3 * l5) → 5 - l3 < (fu4 : Int) + 1 → 4 - l5 < (fu23 : Int) → I n M → Keep n (W_X1_addWay l1) Me M → wp (k23 24 l1 l2 l3 l4 l5 M) (fun q => I n q.2 ∧ Keep n (W_X1_addWay l1) Me q.2 ∧ True)) {k58 : Int → Int → Int → Int → Int → Int → Int → Int → Mem → Option (Int × Mem)} {fu58 : Nat} (hk58 : ∀ (l2 l3 l4 l5 l6 l7 : Int) (M : Mem), (0 ≤ l2 ∧ l2 ≤ 36) → (0 ≤ l3 ∧ l3 ≤ 3) → ((-1) ≤ l4 ∧ l4 ≤ 2) → (0 ≤ l5 ∧ l5 ≤ 2) → (0 ≤ l6 ∧ l6 ≤ 6) → (0 ≤ l7 ∧ l7 ≤ 3) → (0 ≤ l2 ∧ l2 ≤ 9 * l3 + 3 * l5 + l7) → 5 - l3 < (fu4 : Int) + 1 → 4 - l5 < (fu23 : Int) + 1 → 37 - l2 < (fu58 : Int) → I n M → Keep n (W_X1_addWay l1) Me M → wp (k58 24 l1 l2 l3 l4 l5 l6 l7 M) (fun q => I n q.2 ∧ Keep n (W_X1_addWay l1) Me q.2 ∧ True)) {l2 l3 l4 l5 l6 l7 : Int} {M : Mem} (r_l2 : 0 ≤ l2 ∧ l2 ≤ 36) (r_l3 : 0 ≤ l3 ∧ l3 ≤ 3) (r_l4 : (-1) ≤ l4 ∧ l4 ≤ 2) (r_l5 : 0 ≤ l5 ∧ l5 ≤ 2) (r_l6 : 0 ≤ l6 ∧ l6 ≤ 6) (r_l7 : 0 ≤ l7 ∧ l7 ≤ 3) (z0 : 0 ≤ l2 ∧ l2 ≤ 9 * l3 + 3 * l5 + l7) (hf4 : 5 - l3 < (fu4 : Int) + 1) (hf23 : 4 - l5 < (fu23 : Int) + 1) (hf58 : 37 - l2 < (fu58 : Int) + 1) (iM : I n M) (kM : Keep n (W_X1_addWay l1) Me M) : wp (bX1_addWay_58 k4 k23 k58 24 l1 l2 l3 l4 l5 l6 l7 M) (fun q => I n q.2 ∧ Keep n (W_X1_addWay l1) Me q.2 ∧ True) := by
  have hn : (169 : Int) ≤ (n : Int) := by have := iM.2.2.2.2.1; omega
  have u_l1 := h_l1
  unfold isShape at u_l1
  unfold bX1_addWay_58
  refine w_gFc (ji := 5) rfl (congrArg Prod.fst (k_Shape iM h_l1)) (show mG M l1 5 = (l1 + 6) from rd_Shape_5 iM (a := l1) (f_Shape h_l1)) ?_
  refine w_aG (k_Swidth iM h_l1) (by omega) (by omega) (fun a65 ha65 => ?_)
  have ra65 : 0 ≤ a65 ∧ a65 ≤ 3 := ha65.tr (P := fun z => 0 ≤ z ∧ z ≤ 3) (rd_Swidth iM (f_Swidth h_l1))
  refine w_if (fun c1_ => ?_) (fun c1_ => ?_)
  · skip
    have w2_ := wI_id (x := (l5 + 1)) (by omega) (by omega)
    exact hk23 _ _ _ _ _ ⟨by omega, by omega⟩ ⟨by omega, by omega⟩ ⟨by omega, by omega⟩ ⟨by omega, by omega⟩ (by all_goals omega) (by omega) (by omega) iM kM
  · skip
    refine w_gFc (ji := 3) rfl (congrArg Prod.fst (k_Shape iM h_l1)) (show mG M l1 3 = (l1 + 4) from rd_Shape_3 iM (a := l1) (f_Shape h_l1)) ?_
    refine w_aG (k_Sstart iM h_l1) (by omega) (by omega) (fun a74 ha74 => ?_)
    have ra74 : 0 ≤ a74 ∧ a74 ≤ 9 * l3 := ha74.tr (P := fun z => 0 ≤ z ∧ z ≤ 9 * l3) (rd_Sstart iM (f_Sstart h_l1) (by omega) (by omega))
    refine w_if (fun c3_ => ?_) (fun c3_ => ?_)
    · skip
      have w4_ := wI_id (x := (a74 + l6)) (by omega) (by omega)
      exact s_X1_addWay_96 h_l1 hk4 hk23 hk58 ⟨by omega, by omega⟩ ⟨by omega, by omega⟩ ⟨by omega, by omega⟩ ⟨by omega, by omega⟩ ⟨by omega, by omega⟩ ⟨by omega, by omega⟩ ⟨by omega, by omega⟩ ⟨by omega, by omega⟩ (by all_goals omega) (by omega) (by omega) (by omega) iM kM
    · skip
      refine w_gK (congrArg Prod.fst (kl_24 iM)) ?_
      refine w_call (s_X1_ordered ⟨by omega, by omega⟩ ⟨by omega, by omega⟩ iM) ?_
      intro v93 m93 pp93
      obtain ⟨im93, kk93, e93_0, -⟩ := pp93
      try dsimp only
      replace im93 : I n m93 := im93
      replace kk93 : Keep n W_X1_ordered M m93 := kk93
      have km93 : Keep n (W_X1_addWay l1) Me m93 := kM.tr kk93 (fun b j z => z.elim)
      replace e93_0 : 0 ≤ v93 ∧ v93 ≤ 2 := e93_0
      have w5_ := wI_id (x := (a74 + l6)) (by omega) (by omega)
      exact s_X1_addWay_96 h_l1 hk4 hk23 hk58 ⟨by omega, by omega⟩ ⟨by omega, by omega⟩ ⟨by omega, by omega⟩ ⟨by omega, by omega⟩ ⟨by omega, by omega⟩ ⟨by omega, by omega⟩ ⟨by omega, by omega⟩ ⟨by omega, by omega⟩ (by all_goals omega) (by omega) (by omega) (by omega) im93 km93
theorem s_X1_addWay_58 {n : Nat} {Me : Mem} {l1 : Int} (h_l1 : isShape l1) {k4 : Int → Int → Int → Int → Mem → Option (Int × Mem)} {fu4 : Nat} (hk4 : ∀ (l2 l3 : Int) (M : Mem), (0 ≤ l2 ∧ l2 ≤ 36) → (0 ≤ l3 ∧ l3 ≤ 4) → (0 ≤ l2 ∧ l2 ≤ 9 * l3) → 5 - l3 < (fu4 : Int) → I n M → Keep n (W_X1_addWay l1) Me M → wp (k4 24 l1 l2 l3 M) (fun q => I n q.2 ∧ Keep n (W_X1_addWay l1) Me q.2 ∧ True)) {k23 : Int → Int → Int → Int → Int → Int → Mem → Option (Int × Mem)} {fu23 : Nat} (hk23 : ∀ (l2 l3 l4 l5 : Int) (M : Mem), (0 ≤ l2 ∧ l2 ≤ 36) → (0 ≤ l3 ∧ l3 ≤ 3) → ((-1) ≤ l4 ∧ l4 ≤ 2) → (0 ≤ l5 ∧ l5 ≤ 3) → (0 ≤ l2 ∧ l2 ≤ 9 * l3 + 3 * l5) → 5 - l3 < (fu4 : Int) + 1 → 4 - l5 < (fu23 : Int) → I n M → Keep n (W_X1_addWay l1) Me M → wp (k23 24 l1 l2 l3 l4 l5 M) (fun q => I n q.2 ∧ Keep n (W_X1_addWay l1) Me q.2 ∧ True)) : ∀ (fu : Nat) (l2 l3 l4 l5 l6 l7 : Int) (M : Mem), (0 ≤ l2 ∧ l2 ≤ 36) → (0 ≤ l3 ∧ l3 ≤ 3) → ((-1) ≤ l4 ∧ l4 ≤ 2) → (0 ≤ l5 ∧ l5 ≤ 2) → (0 ≤ l6 ∧ l6 ≤ 6) → (0 ≤ l7 ∧ l7 ≤ 3) → (0 ≤ l2 ∧ l2 ≤ 9 * l3 + 3 * l5 + l7) → 5 - l3 < (fu4 : Int) + 1 → 4 - l5 < (fu23 : Int) + 1 → 37 - l2 < (fu : Int) → I n M → Keep n (W_X1_addWay l1) Me M → wp (mX1_addWay_58 k4 k23 fu 24 l1 l2 l3 l4 l5 l6 l7 M) (fun q => I n q.2 ∧ Keep n (W_X1_addWay l1) Me q.2 ∧ True) := by
  intro fu
  induction fu with
  | zero =>
    intro l2 l3 l4 l5 l6 l7 M r_l2 r_l3 r_l4 r_l5 r_l6 r_l7 z0 hf4 hf23 hf iM kM
    exfalso
    omega
  | succ fu ih =>
    intro l2 l3 l4 l5 l6 l7 M r_l2 r_l3 r_l4 r_l5 r_l6 r_l7 z0 hf4 hf23 hf iM kM
    exact sb_X1_addWay_58 h_l1 hk4 hk23 ih r_l2 r_l3 r_l4 r_l5 r_l6 r_l7 z0 hf4 hf23 (by have e : ((fu + 1 : Nat) : Int) = (fu : Int) + 1 := rfl; rw [e] at hf; exact hf) iM kM
theorem sb_X1_addWay_23 {n : Nat} {Me : Mem} {l1 : Int} (h_l1 : isShape l1) {k4 : Int → Int → Int → Int → Mem → Option (Int × Mem)} {fu4 : Nat} (hk4 : ∀ (l2 l3 : Int) (M : Mem), (0 ≤ l2 ∧ l2 ≤ 36) → (0 ≤ l3 ∧ l3 ≤ 4) → (0 ≤ l2 ∧ l2 ≤ 9 * l3) → 5 - l3 < (fu4 : Int) → I n M → Keep n (W_X1_addWay l1) Me M → wp (k4 24 l1 l2 l3 M) (fun q => I n q.2 ∧ Keep n (W_X1_addWay l1) Me q.2 ∧ True)) {k23 : Int → Int → Int → Int → Int → Int → Mem → Option (Int × Mem)} {fu23 : Nat} (hk23 : ∀ (l2 l3 l4 l5 : Int) (M : Mem), (0 ≤ l2 ∧ l2 ≤ 36) → (0 ≤ l3 ∧ l3 ≤ 3) → ((-1) ≤ l4 ∧ l4 ≤ 2) → (0 ≤ l5 ∧ l5 ≤ 3) → (0 ≤ l2 ∧ l2 ≤ 9 * l3 + 3 * l5) → 5 - l3 < (fu4 : Int) + 1 → 4 - l5 < (fu23 : Int) → I n M → Keep n (W_X1_addWay l1) Me M → wp (k23 24 l1 l2 l3 l4 l5 M) (fun q => I n q.2 ∧ Keep n (W_X1_addWay l1) Me q.2 ∧ True)) {l2 l3 l4 l5 : Int} {M : Mem} (r_l2 : 0 ≤ l2 ∧ l2 ≤ 36) (r_l3 : 0 ≤ l3 ∧ l3 ≤ 3) (r_l4 : (-1) ≤ l4 ∧ l4 ≤ 2) (r_l5 : 0 ≤ l5 ∧ l5 ≤ 3) (z0 : 0 ≤ l2 ∧ l2 ≤ 9 * l3 + 3 * l5) (hf4 : 5 - l3 < (fu4 : Int) + 1) (hf23 : 4 - l5 < (fu23 : Int) + 1) (iM : I n M) (kM : Keep n (W_X1_addWay l1) Me M) : wp (bX1_addWay_23 k4 k23 24 l1 l2 l3 l4 l5 M) (fun q => I n q.2 ∧ Keep n (W_X1_addWay l1) Me q.2 ∧ True) := by
  have hn : (169 : Int) ≤ (n : Int) := by have := iM.2.2.2.2.1; omega
  have u_l1 := h_l1
  unfold isShape at u_l1
  unfold bX1_addWay_23
  refine w_gFc (ji := 4) rfl (congrArg Prod.fst (k_Shape iM h_l1)) (show mG M l1 4 = (l1 + 5) from rd_Shape_4 iM (a := l1) (f_Shape h_l1)) ?_
  refine w_aG (k_Sheight iM h_l1) (by omega) (by omega) (fun a30 ha30 => ?_)
  have ra30 : 0 ≤ a30 ∧ a30 ≤ 3 := ha30.tr (P := fun z => 0 ≤ z ∧ z ≤ 3) (rd_Sheight iM (f_Sheight h_l1))
  refine w_if (fun c1_ => ?_) (fun c1_ => ?_)
  · skip
    have w2_ := wI_id (x := (l3 + 1)) (by omega) (by omega)
    exact hk4 _ _ _ ⟨by omega, by omega⟩ ⟨by omega, by omega⟩ (by all_goals omega) (by omega) iM kM
  · skip
    refine w_gFc (ji := 1) rfl (congrArg Prod.fst (k_Shape iM h_l1)) (show mG M l1 1 = (l1 + 2) from rd_Shape_1 iM (a := l1) (f_Shape h_l1)) ?_
    refine w_aG (k_Sfirst iM h_l1) (by omega) (by omega) (fun a40 ha40 => ?_)
    have ra40 : 0 ≤ a40 ∧ a40 ≤ 2 := ha40.tr (P := fun z => 0 ≤ z ∧ z ≤ 2) (rd_Sfirst iM (f_Sfirst h_l1))
    refine w_gK (congrArg Prod.fst (kl_24 iM)) ?_
    refine w_call (s_X1_ordered ⟨by omega, by omega⟩ ⟨by omega, by omega⟩ iM) ?_
    intro v43 m43 pp43
    obtain ⟨im43, kk43, e43_0, -⟩ := pp43
    try dsimp only
    replace im43 : I n m43 := im43
    replace kk43 : Keep n W_X1_ordered M m43 := kk43
    have km43 : Keep n (W_X1_addWay l1) Me m43 := kM.tr kk43 (fun b j z => z.elim)
    replace e43_0 : 0 ≤ v43 ∧ v43 ≤ 2 := e43_0
    refine w_gFc (ji := 5) rfl (congrArg Prod.fst (k_Shape im43 h_l1)) (show mG m43 l1 5 = (l1 + 6) from rd_Shape_5 im43 (a := l1) (f_Shape h_l1)) ?_
    refine w_aG (k_Swidth im43 h_l1) (by omega) (by omega) (fun a51 ha51 => ?_)
    have ra51 : 0 ≤ a51 ∧ a51 ≤ 3 := ha51.tr (P := fun z => 0 ≤ z ∧ z ≤ 3) (rd_Swidth im43 (f_Swidth h_l1))
    have w3_ := mul_b (x := v43) (y := a51) (a := 2) (b := 3) (by omega) (by omega) (by omega) (by omega)
    have w4_ := wI_id (x := (v43 * a51)) (by omega) (by omega)
    exact s_X1_addWay_58 h_l1 hk4 hk23 FU _ _ _ _ _ _ _ ⟨by omega, by omega⟩ ⟨by omega, by omega⟩ ⟨by omega, by omega⟩ ⟨by omega, by omega⟩ ⟨by omega, by omega⟩ ⟨by omega, by omega⟩ (by all_goals omega) (by omega) (by omega) (by show _ < (70000 : Int); omega) im43 km43
theorem s_X1_addWay_23 {n : Nat} {Me : Mem} {l1 : Int} (h_l1 : isShape l1) {k4 : Int → Int → Int → Int → Mem → Option (Int × Mem)} {fu4 : Nat} (hk4 : ∀ (l2 l3 : Int) (M : Mem), (0 ≤ l2 ∧ l2 ≤ 36) → (0 ≤ l3 ∧ l3 ≤ 4) → (0 ≤ l2 ∧ l2 ≤ 9 * l3) → 5 - l3 < (fu4 : Int) → I n M → Keep n (W_X1_addWay l1) Me M → wp (k4 24 l1 l2 l3 M) (fun q => I n q.2 ∧ Keep n (W_X1_addWay l1) Me q.2 ∧ True)) : ∀ (fu : Nat) (l2 l3 l4 l5 : Int) (M : Mem), (0 ≤ l2 ∧ l2 ≤ 36) → (0 ≤ l3 ∧ l3 ≤ 3) → ((-1) ≤ l4 ∧ l4 ≤ 2) → (0 ≤ l5 ∧ l5 ≤ 3) → (0 ≤ l2 ∧ l2 ≤ 9 * l3 + 3 * l5) → 5 - l3 < (fu4 : Int) + 1 → 4 - l5 < (fu : Int) → I n M → Keep n (W_X1_addWay l1) Me M → wp (mX1_addWay_23 k4 fu 24 l1 l2 l3 l4 l5 M) (fun q => I n q.2 ∧ Keep n (W_X1_addWay l1) Me q.2 ∧ True) := by
  intro fu
  induction fu with
  | zero =>
    intro l2 l3 l4 l5 M r_l2 r_l3 r_l4 r_l5 z0 hf4 hf iM kM
    exfalso
    omega
  | succ fu ih =>
    intro l2 l3 l4 l5 M r_l2 r_l3 r_l4 r_l5 z0 hf4 hf iM kM
    exact sb_X1_addWay_23 h_l1 hk4 ih r_l2 r_l3 r_l4 r_l5 z0 hf4 (by have e : ((fu + 1 : Nat) : Int) = (fu : Int) + 1 := rfl; rw [e] at hf; exact hf) iM kM
theorem sb_X1_addWay_4 {n : Nat} {Me : Mem} {l1 : Int} (h_l1 : isShape l1) {k4 : Int → Int → Int → Int → Mem → Option (Int × Mem)} {fu4 : Nat} (hk4 : ∀ (l2 l3 : Int) (M : Mem), (0 ≤ l2 ∧ l2 ≤ 36) → (0 ≤ l3 ∧ l3 ≤ 4) → (0 ≤ l2 ∧ l2 ≤ 9 * l3) → 5 - l3 < (fu4 : Int) → I n M → Keep n (W_X1_addWay l1) Me M → wp (k4 24 l1 l2 l3 M) (fun q => I n q.2 ∧ Keep n (W_X1_addWay l1) Me q.2 ∧ True)) {l2 l3 : Int} {M : Mem} (r_l2 : 0 ≤ l2 ∧ l2 ≤ 36) (r_l3 : 0 ≤ l3 ∧ l3 ≤ 4) (z0 : 0 ≤ l2 ∧ l2 ≤ 9 * l3) (hf4 : 5 - l3 < (fu4 : Int) + 1) (iM : I n M) (kM : Keep n (W_X1_addWay l1) Me M) : wp (bX1_addWay_4 k4 24 l1 l2 l3 M) (fun q => I n q.2 ∧ Keep n (W_X1_addWay l1) Me q.2 ∧ True) := by
  have hn : (169 : Int) ≤ (n : Int) := by have := iM.2.2.2.2.1; omega
  have u_l1 := h_l1
  unfold isShape at u_l1
  unfold bX1_addWay_4
  refine w_gF (ji := 6) rfl (congrArg Prod.fst (k_Shape iM h_l1)) (fun a6 ha6 => ?_)
  have ra6 : 0 ≤ a6 ∧ a6 ≤ 4 := ha6.tr (P := fun z => 0 ≤ z ∧ z ≤ 4) (rd_Shape_6 iM (f_Shape h_l1))
  refine w_if (fun c1_ => ?_) (fun c1_ => ?_)
  · skip
    refine w_gF (ji := 4) rfl (congrArg Prod.fst (kl_24 iM)) (fun a160 ha160 => ?_)
    have ra160 : 0 ≤ a160 ∧ a160 ≤ 216 := ha160.tr (P := fun z => 0 ≤ z ∧ z ≤ 216) (rd_Others_4 iM rfl)
    have w2_ := wI_id (x := (a160 + 1)) (by omega) (by omega)
    obtain ⟨w3_e, w3_⟩ : ∃ z, (if 216 < (wI (a160 + 1)) then 216 else (wI (a160 + 1))) = z := ⟨_, rfl⟩
    have w3_x : (216 < (wI (a160 + 1)) ∧ w3_e = 216) ∨ (¬ 216 < (wI (a160 + 1)) ∧ w3_e = (wI (a160 + 1))) := by rw [← w3_]; split <;> omega
    have w3_y : (if 216 < (wI (a160 + 1)) then 216 else (wI (a160 + 1))) = w3_e := w3_
    refine w_pF (ji := 4) rfl (congrArg Prod.fst (kl_24 iM)) (fun M171 hM171 => ?_)
    replace hM171 : M171 = mS M 24 4 (if 216 < (wI (a160 + 1)) then 216 else (wI (a160 + 1))) := hM171
    have iM171 : I n M171 := wr_Others_4 iM rfl ⟨by omega, by omega⟩ hM171
    have kM171 : Keep n (W_X1_addWay l1) Me M171 := kM.st hM171 (Or.inl (Or.inr ⟨rfl, rfl⟩))
    obtain ⟨svM171, esvM171⟩ : ∃ z, z = (if 216 < (wI (a160 + 1)) then 216 else (wI (a160 + 1))) := ⟨_, rfl⟩
    exact w_ret ⟨iM171, kM171, trivial⟩
  · skip
    refine w_gFc (ji := 2) rfl (congrArg Prod.fst (k_Shape iM h_l1)) (show mG M l1 2 = (l1 + 3) from rd_Shape_2 iM (a := l1) (f_Shape h_l1)) ?_
    refine w_aG (k_Ssecond iM h_l1) (by omega) (by omega) (fun a17 ha17 => ?_)
    have ra17 : (-1) ≤ a17 ∧ a17 ≤ 2 := ha17.tr (P := fun z => (-1) ≤ z ∧ z ≤ 2) (rd_Ssecond iM (f_Ssecond h_l1))
    exact s_X1_addWay_23 h_l1 hk4 FU _ _ _ _ _ ⟨by omega, by omega⟩ ⟨by omega, by omega⟩ ⟨by omega, by omega⟩ ⟨by omega, by omega⟩ (by all_goals omega) (by omega) (by show _ < (70000 : Int); omega) iM kM
theorem s_X1_addWay_4 {n : Nat} {Me : Mem} {l1 : Int} (h_l1 : isShape l1) : ∀ (fu : Nat) (l2 l3 : Int) (M : Mem), (0 ≤ l2 ∧ l2 ≤ 36) → (0 ≤ l3 ∧ l3 ≤ 4) → (0 ≤ l2 ∧ l2 ≤ 9 * l3) → 5 - l3 < (fu : Int) → I n M → Keep n (W_X1_addWay l1) Me M → wp (mX1_addWay_4 fu 24 l1 l2 l3 M) (fun q => I n q.2 ∧ Keep n (W_X1_addWay l1) Me q.2 ∧ True) := by
  intro fu
  induction fu with
  | zero =>
    intro l2 l3 M r_l2 r_l3 z0 hf iM kM
    exfalso
    omega
  | succ fu ih =>
    intro l2 l3 M r_l2 r_l3 z0 hf iM kM
    exact sb_X1_addWay_4 h_l1 ih r_l2 r_l3 z0 (by have e : ((fu + 1 : Nat) : Int) = (fu : Int) + 1 := rfl; rw [e] at hf; exact hf) iM kM
theorem s_X1_addWay {n : Nat} {l1 : Int} {M : Mem} (h_l1 : isShape l1) (iM : I n M) : wp (mX1_addWay 24 l1 M) (fun q => I n q.2 ∧ Keep n (W_X1_addWay l1) M q.2 ∧ True) := by
  have hn : (169 : Int) ≤ (n : Int) := by have := iM.2.2.2.2.1; omega
  have kM : Keep n (W_X1_addWay l1) M M := Keep.rf
  have u_l1 := h_l1
  unfold isShape at u_l1
  unfold mX1_addWay
  exact s_X1_addWay_4 h_l1 FU _ _ _ ⟨by omega, by omega⟩ ⟨by omega, by omega⟩ (by all_goals omega) (by show _ < (70000 : Int); omega) iM kM
