def W_X1_layOut (l1 : Int) (b j : Int) : Prop := (25 ≤ b ∧ b ≤ 26) ∨ (b = 24 ∧ j = 4) ∨ (b = 24 ∧ j = 5) ∨ (b = 24 ∧ j = 6)
theorem sb_X1_layOut_95 {n : Nat} {Me : Mem} {l1 : Int} (h_l1 : isShape l1) {k61 : Int → Int → Int → Int → Int → Mem → Option (Int × Mem)} {fu61 : Nat} (hk61 : ∀ (l2 l3 l4 : Int) (M : Mem), (1 ≤ l2 ∧ l2 ≤ 6) → (1 ≤ l3 ∧ l3 ≤ 6) → (1 ≤ l4 ∧ l4 ≤ 6) → (mG M 25 0 ≤ 6) → 7 - mG M 25 0 < (fu61 : Int) → I n M → Keep n (W_X1_layOut l1) Me M → wp (k61 24 l1 l2 l3 l4 M) (fun q => I n q.2 ∧ Keep n (W_X1_layOut l1) Me q.2 ∧ True)) {k78 : Int → Int → Int → Int → Int → Mem → Option (Int × Mem)} {fu78 : Nat} (hk78 : ∀ (l2 l3 l4 : Int) (M : Mem), (1 ≤ l2 ∧ l2 ≤ 6) → (1 ≤ l3 ∧ l3 ≤ 6) → (1 ≤ l4 ∧ l4 ≤ 6) → (mG M 25 0 ≤ 5) → (mG M 25 1 ≤ 6) → 7 - mG M 25 0 < (fu61 : Int) + 1 → 7 - mG M 25 1 < (fu78 : Int) → I n M → Keep n (W_X1_layOut l1) Me M → wp (k78 24 l1 l2 l3 l4 M) (fun q => I n q.2 ∧ Keep n (W_X1_layOut l1) Me q.2 ∧ True)) {k95 : Int → Int → Int → Int → Int → Mem → Option (Int × Mem)} {fu95 : Nat} (hk95 : ∀ (l2 l3 l4 : Int) (M : Mem), (1 ≤ l2 ∧ l2 ≤ 6) → (1 ≤ l3 ∧ l3 ≤ 6) → (1 ≤ l4 ∧ l4 ≤ 6) → (mG M 25 0 ≤ 5) → (mG M 25 1 ≤ 5) → (mG M 25 2 ≤ 6) → 7 - mG M 25 0 < (fu61 : Int) + 1 → 7 - mG M 25 1 < (fu78 : Int) + 1 → 7 - mG M 25 2 < (fu95 : Int) → I n M → Keep n (W_X1_layOut l1) Me M → wp (k95 24 l1 l2 l3 l4 M) (fun q => I n q.2 ∧ Keep n (W_X1_layOut l1) Me q.2 ∧ True)) {l2 l3 l4 : Int} {M : Mem} (r_l2 : 1 ≤ l2 ∧ l2 ≤ 6) (r_l3 : 1 ≤ l3 ∧ l3 ≤ 6) (r_l4 : 1 ≤ l4 ∧ l4 ≤ 6) (y0 : mG M 25 0 ≤ 5) (y1 : mG M 25 1 ≤ 5) (y2 : mG M 25 2 ≤ 6) (hf61 : 7 - mG M 25 0 < (fu61 : Int) + 1) (hf78 : 7 - mG M 25 1 < (fu78 : Int) + 1) (hf95 : 7 - mG M 25 2 < (fu95 : Int) + 1) (iM : I n M) (kM : Keep n (W_X1_layOut l1) Me M) : wp (bX1_layOut_95 k61 k78 k95 24 l1 l2 l3 l4 M) (fun q => I n q.2 ∧ Keep n (W_X1_layOut l1) Me q.2 ∧ True) := by
  have hn : (169 : Int) ≤ (n : Int) := by have := iM.2.2.2.2.1; omega
  have u_l1 := h_l1
  unfold isShape at u_l1
  obtain ⟨nh0, enh0⟩ : ∃ v, Is (mG M 25 0) v := ⟨_, rfl⟩
  have rnh0 : 0 ≤ nh0 ∧ nh0 ≤ 6 := by rw [← enh0.e]; exact rd_Oorder iM rfl
  (try rw [enh0.e] at y0); (try rw [enh0.e] at y1); (try rw [enh0.e] at y2); (try rw [enh0.e] at hf61); (try rw [enh0.e] at hf78); (try rw [enh0.e] at hf95)
  obtain ⟨nh1, enh1⟩ : ∃ v, Is (mG M 25 1) v := ⟨_, rfl⟩
  have rnh1 : 0 ≤ nh1 ∧ nh1 ≤ 6 := by rw [← enh1.e]; exact rd_Oorder iM rfl
  (try rw [enh1.e] at y0); (try rw [enh1.e] at y1); (try rw [enh1.e] at y2); (try rw [enh1.e] at hf61); (try rw [enh1.e] at hf78); (try rw [enh1.e] at hf95)
  obtain ⟨nh2, enh2⟩ : ∃ v, Is (mG M 25 2) v := ⟨_, rfl⟩
  have rnh2 : 0 ≤ nh2 ∧ nh2 ≤ 6 := by rw [← enh2.e]; exact rd_Oorder iM rfl
  (try rw [enh2.e] at y0); (try rw [enh2.e] at y1); (try rw [enh2.e] at y2); (try rw [enh2.e] at hf61); (try rw [enh2.e] at hf78); (try rw [enh2.e] at hf95)
  unfold bX1_layOut_95
  refine w_gFc (ji := 0) rfl (congrArg Prod.fst (kl_24 iM)) (show mG M 24 0 = 25 from rd_Others_0 iM (a := 24) rfl) ?_
  refine w_aGc (kl_25 iM) (by omega) (by omega) (show mG M 25 2 = nh2 from (show mG M 25 2 = nh2 from enh2)) ?_
  refine w_if (fun c1_ => ?_) (fun c1_ => ?_)
  · skip
    refine w_gFc (ji := 0) rfl (congrArg Prod.fst (kl_24 iM)) (show mG M 24 0 = 25 from rd_Others_0 iM (a := 24) rfl) ?_
    refine w_aGc (kl_25 iM) (by omega) (by omega) (show mG M 25 1 = nh1 from (show mG M 25 1 = nh1 from enh1)) ?_
    have w2_ := wI_id (x := (nh1 + 1)) (by omega) (by omega)
    refine w_aS (kl_25 iM) (by omega) (by omega) (fun M133 hM133 => ?_)
    replace hM133 : M133 = mS M 25 1 (wI (nh1 + 1)) := hM133
    have iM133 : I n M133 := wr_Oorder iM rfl ⟨by omega, by omega⟩ hM133
    have kM133 : Keep n (W_X1_layOut l1) Me M133 := kM.st hM133 (Or.inl (Or.inl ⟨by decide, by decide⟩))
    obtain ⟨svM133, esvM133⟩ : ∃ z, z = (wI (nh1 + 1)) := ⟨_, rfl⟩
    exact hk78 _ _ _ _ ⟨by omega, by omega⟩ ⟨by omega, by omega⟩ ⟨by omega, by omega⟩ (by (try rw [(show mG M133 25 0 = nh0 from ((st_ne hM133 (fun z => absurd z.2 (by decide))).trans (show mG M 25 0 = nh0 from enh0)))]); (try rw [(show mG M133 25 1 = svM133 from (show mG M133 25 1 = svM133 from ((st_eq hM133).trans esvM133.symm)))]); all_goals omega) (by (try rw [(show mG M133 25 0 = nh0 from ((st_ne hM133 (fun z => absurd z.2 (by decide))).trans (show mG M 25 0 = nh0 from enh0)))]); (try rw [(show mG M133 25 1 = svM133 from (show mG M133 25 1 = svM133 from ((st_eq hM133).trans esvM133.symm)))]); all_goals omega) (by rw [(show mG M133 25 0 = nh0 from ((st_ne hM133 (fun z => absurd z.2 (by decide))).trans (show mG M 25 0 = nh0 from enh0)))]; omega) (by rw [(show mG M133 25 1 = svM133 from (show mG M133 25 1 = svM133 from ((st_eq hM133).trans esvM133.symm)))]; omega) iM133 kM133
  · skip
    refine w_gK (congrArg Prod.fst (kl_24 iM)) ?_
    refine w_call (s_X1_addWay h_l1 iM) ?_
    intro v108 m108 pp108
    obtain ⟨im108, kk108, -⟩ := pp108
    try dsimp only
    replace im108 : I n m108 := im108
    replace kk108 : Keep n (W_X1_addWay l1) M m108 := kk108
    have km108 : Keep n (W_X1_layOut l1) Me m108 := kM.tr kk108 (fun b j z => Or.elim z (fun z => (Or.inl ⟨by omega, by omega⟩)) (fun z => (Or.inr (Or.inl z))))
    refine w_gFc (ji := 0) rfl (congrArg Prod.fst (kl_24 im108)) (show mG m108 24 0 = 25 from rd_Others_0 im108 (a := 24) rfl) ?_
    refine w_aGc (kl_25 im108) (by omega) (by omega) (show mG m108 25 2 = nh2 from ((kk108.2.2 25 2 (by omega) (fun z => by unfold W_X1_addWay at z; (try unfold isWS at z); (try unfold isShape at z); (try unfold isTold at z); (try dsimp only at z); omega)).trans (show mG M 25 2 = nh2 from enh2))) ?_
    have w3_ := wI_id (x := (nh2 + 1)) (by omega) (by omega)
    refine w_aS (kl_25 im108) (by omega) (by omega) (fun M120 hM120 => ?_)
    replace hM120 : M120 = mS m108 25 2 (wI (nh2 + 1)) := hM120
    have iM120 : I n M120 := wr_Oorder im108 rfl ⟨by omega, by omega⟩ hM120
    have kM120 : Keep n (W_X1_layOut l1) Me M120 := km108.st hM120 (Or.inl (Or.inl ⟨by decide, by decide⟩))
    obtain ⟨svM120, esvM120⟩ : ∃ z, z = (wI (nh2 + 1)) := ⟨_, rfl⟩
    exact hk95 _ _ _ _ ⟨by omega, by omega⟩ ⟨by omega, by omega⟩ ⟨by omega, by omega⟩ (by (try rw [(show mG M120 25 0 = nh0 from ((st_ne hM120 (fun z => absurd z.2 (by decide))).trans ((kk108.2.2 25 0 (by omega) (fun z => by unfold W_X1_addWay at z; (try unfold isWS at z); (try unfold isShape at z); (try unfold isTold at z); (try dsimp only at z); omega)).trans (show mG M 25 0 = nh0 from enh0))))]); (try rw [(show mG M120 25 1 = nh1 from ((st_ne hM120 (fun z => absurd z.2 (by decide))).trans ((kk108.2.2 25 1 (by omega) (fun z => by unfold W_X1_addWay at z; (try unfold isWS at z); (try unfold isShape at z); (try unfold isTold at z); (try dsimp only at z); omega)).trans (show mG M 25 1 = nh1 from enh1))))]); (try rw [(show mG M120 25 2 = svM120 from (show mG M120 25 2 = svM120 from ((st_eq hM120).trans esvM120.symm)))]); all_goals omega) (by (try rw [(show mG M120 25 0 = nh0 from ((st_ne hM120 (fun z => absurd z.2 (by decide))).trans ((kk108.2.2 25 0 (by omega) (fun z => by unfold W_X1_addWay at z; (try unfold isWS at z); (try unfold isShape at z); (try unfold isTold at z); (try dsimp only at z); omega)).trans (show mG M 25 0 = nh0 from enh0))))]); (try rw [(show mG M120 25 1 = nh1 from ((st_ne hM120 (fun z => absurd z.2 (by decide))).trans ((kk108.2.2 25 1 (by omega) (fun z => by unfold W_X1_addWay at z; (try unfold isWS at z); (try unfold isShape at z); (try unfold isTold at z); (try dsimp only at z); omega)).trans (show mG M 25 1 = nh1 from enh1))))]); (try rw [(show mG M120 25 2 = svM120 from (show mG M120 25 2 = svM120 from ((st_eq hM120).trans esvM120.symm)))]); all_goals omega) (by (try rw [(show mG M120 25 0 = nh0 from ((st_ne hM120 (fun z => absurd z.2 (by decide))).trans ((kk108.2.2 25 0 (by omega) (fun z => by unfold W_X1_addWay at z; (try unfold isWS at z); (try unfold isShape at z); (try unfold isTold at z); (try dsimp only at z); omega)).trans (show mG M 25 0 = nh0 from enh0))))]); (try rw [(show mG M120 25 1 = nh1 from ((st_ne hM120 (fun z => absurd z.2 (by decide))).trans ((kk108.2.2 25 1 (by omega) (fun z => by unfold W_X1_addWay at z; (try unfold isWS at z); (try unfold isShape at z); (try unfold isTold at z); (try dsimp only at z); omega)).trans (show mG M 25 1 = nh1 from enh1))))]); (try rw [(show mG M120 25 2 = svM120 from (show mG M120 25 2 = svM120 from ((st_eq hM120).trans esvM120.symm)))]); all_goals omega) (by rw [(show mG M120 25 0 = nh0 from ((st_ne hM120 (fun z => absurd z.2 (by decide))).trans ((kk108.2.2 25 0 (by omega) (fun z => by unfold W_X1_addWay at z; (try unfold isWS at z); (try unfold isShape at z); (try unfold isTold at z); (try dsimp only at z); omega)).trans (show mG M 25 0 = nh0 from enh0))))]; omega) (by rw [(show mG M120 25 1 = nh1 from ((st_ne hM120 (fun z => absurd z.2 (by decide))).trans ((kk108.2.2 25 1 (by omega) (fun z => by unfold W_X1_addWay at z; (try unfold isWS at z); (try unfold isShape at z); (try unfold isTold at z); (try dsimp only at z); omega)).trans (show mG M 25 1 = nh1 from enh1))))]; omega) (by rw [(show mG M120 25 2 = svM120 from (show mG M120 25 2 = svM120 from ((st_eq hM120).trans esvM120.symm)))]; omega) iM120 kM120
theorem s_X1_layOut_95 {n : Nat} {Me : Mem} {l1 : Int} (h_l1 : isShape l1) {k61 : Int → Int → Int → Int → Int → Mem → Option (Int × Mem)} {fu61 : Nat} (hk61 : ∀ (l2 l3 l4 : Int) (M : Mem), (1 ≤ l2 ∧ l2 ≤ 6) → (1 ≤ l3 ∧ l3 ≤ 6) → (1 ≤ l4 ∧ l4 ≤ 6) → (mG M 25 0 ≤ 6) → 7 - mG M 25 0 < (fu61 : Int) → I n M → Keep n (W_X1_layOut l1) Me M → wp (k61 24 l1 l2 l3 l4 M) (fun q => I n q.2 ∧ Keep n (W_X1_layOut l1) Me q.2 ∧ True)) {k78 : Int → Int → Int → Int → Int → Mem → Option (Int × Mem)} {fu78 : Nat} (hk78 : ∀ (l2 l3 l4 : Int) (M : Mem), (1 ≤ l2 ∧ l2 ≤ 6) → (1 ≤ l3 ∧ l3 ≤ 6) → (1 ≤ l4 ∧ l4 ≤ 6) → (mG M 25 0 ≤ 5) → (mG M 25 1 ≤ 6) → 7 - mG M 25 0 < (fu61 : Int) + 1 → 7 - mG M 25 1 < (fu78 : Int) → I n M → Keep n (W_X1_layOut l1) Me M → wp (k78 24 l1 l2 l3 l4 M) (fun q => I n q.2 ∧ Keep n (W_X1_layOut l1) Me q.2 ∧ True)) : ∀ (fu : Nat) (l2 l3 l4 : Int) (M : Mem), (1 ≤ l2 ∧ l2 ≤ 6) → (1 ≤ l3 ∧ l3 ≤ 6) → (1 ≤ l4 ∧ l4 ≤ 6) → (mG M 25 0 ≤ 5) → (mG M 25 1 ≤ 5) → (mG M 25 2 ≤ 6) → 7 - mG M 25 0 < (fu61 : Int) + 1 → 7 - mG M 25 1 < (fu78 : Int) + 1 → 7 - mG M 25 2 < (fu : Int) → I n M → Keep n (W_X1_layOut l1) Me M → wp (mX1_layOut_95 k61 k78 fu 24 l1 l2 l3 l4 M) (fun q => I n q.2 ∧ Keep n (W_X1_layOut l1) Me q.2 ∧ True) := by
  intro fu
  induction fu with
  | zero =>
    intro l2 l3 l4 M r_l2 r_l3 r_l4 y0 y1 y2 hf61 hf78 hf iM kM
    exfalso
    have z := rdf iM (a := 25) (j := 0) (f := 32) rfl
    have z : 0 ≤ mG M 25 0 ∧ mG M 25 0 ≤ 6 := z
    have z := rdf iM (a := 25) (j := 1) (f := 32) rfl
    have z : 0 ≤ mG M 25 1 ∧ mG M 25 1 ≤ 6 := z
    have z := rdf iM (a := 25) (j := 2) (f := 32) rfl
    have z : 0 ≤ mG M 25 2 ∧ mG M 25 2 ≤ 6 := z
    omega
  | succ fu ih =>
    intro l2 l3 l4 M r_l2 r_l3 r_l4 y0 y1 y2 hf61 hf78 hf iM kM
    exact sb_X1_layOut_95 h_l1 hk61 hk78 ih r_l2 r_l3 r_l4 y0 y1 y2 hf61 hf78 (by have e : ((fu + 1 : Nat) : Int) = (fu : Int) + 1 := rfl; rw [e] at hf; exact hf) iM kM
theorem sb_X1_layOut_78 {n : Nat} {Me : Mem} {l1 : Int} (h_l1 : isShape l1) {k61 : Int → Int → Int → Int → Int → Mem → Option (Int × Mem)} {fu61 : Nat} (hk61 : ∀ (l2 l3 l4 : Int) (M : Mem), (1 ≤ l2 ∧ l2 ≤ 6) → (1 ≤ l3 ∧ l3 ≤ 6) → (1 ≤ l4 ∧ l4 ≤ 6) → (mG M 25 0 ≤ 6) → 7 - mG M 25 0 < (fu61 : Int) → I n M → Keep n (W_X1_layOut l1) Me M → wp (k61 24 l1 l2 l3 l4 M) (fun q => I n q.2 ∧ Keep n (W_X1_layOut l1) Me q.2 ∧ True)) {k78 : Int → Int → Int → Int → Int → Mem → Option (Int × Mem)} {fu78 : Nat} (hk78 : ∀ (l2 l3 l4 : Int) (M : Mem), (1 ≤ l2 ∧ l2 ≤ 6) → (1 ≤ l3 ∧ l3 ≤ 6) → (1 ≤ l4 ∧ l4 ≤ 6) → (mG M 25 0 ≤ 5) → (mG M 25 1 ≤ 6) → 7 - mG M 25 0 < (fu61 : Int) + 1 → 7 - mG M 25 1 < (fu78 : Int) → I n M → Keep n (W_X1_layOut l1) Me M → wp (k78 24 l1 l2 l3 l4 M) (fun q => I n q.2 ∧ Keep n (W_X1_layOut l1) Me q.2 ∧ True)) {l2 l3 l4 : Int} {M : Mem} (r_l2 : 1 ≤ l2 ∧ l2 ≤ 6) (r_l3 : 1 ≤ l3 ∧ l3 ≤ 6) (r_l4 : 1 ≤ l4 ∧ l4 ≤ 6) (y0 : mG M 25 0 ≤ 5) (y1 : mG M 25 1 ≤ 6) (hf61 : 7 - mG M 25 0 < (fu61 : Int) + 1) (hf78 : 7 - mG M 25 1 < (fu78 : Int) + 1) (iM : I n M) (kM : Keep n (W_X1_layOut l1) Me M) : wp (bX1_layOut_78 k61 k78 24 l1 l2 l3 l4 M) (fun q => I n q.2 ∧ Keep n (W_X1_layOut l1) Me q.2 ∧ True) := by
  have hn : (169 : Int) ≤ (n : Int) := by have := iM.2.2.2.2.1; omega
  have u_l1 := h_l1
  unfold isShape at u_l1
  obtain ⟨nh0, enh0⟩ : ∃ v, Is (mG M 25 0) v := ⟨_, rfl⟩
  have rnh0 : 0 ≤ nh0 ∧ nh0 ≤ 6 := by rw [← enh0.e]; exact rd_Oorder iM rfl
  (try rw [enh0.e] at y0); (try rw [enh0.e] at y1); (try rw [enh0.e] at hf61); (try rw [enh0.e] at hf78)
  obtain ⟨nh1, enh1⟩ : ∃ v, Is (mG M 25 1) v := ⟨_, rfl⟩
  have rnh1 : 0 ≤ nh1 ∧ nh1 ≤ 6 := by rw [← enh1.e]; exact rd_Oorder iM rfl
  (try rw [enh1.e] at y0); (try rw [enh1.e] at y1); (try rw [enh1.e] at hf61); (try rw [enh1.e] at hf78)
  unfold bX1_layOut_78
  refine w_gFc (ji := 0) rfl (congrArg Prod.fst (kl_24 iM)) (show mG M 24 0 = 25 from rd_Others_0 iM (a := 24) rfl) ?_
  refine w_aGc (kl_25 iM) (by omega) (by omega) (show mG M 25 1 = nh1 from (show mG M 25 1 = nh1 from enh1)) ?_
  refine w_if (fun c1_ => ?_) (fun c1_ => ?_)
  · skip
    refine w_gFc (ji := 0) rfl (congrArg Prod.fst (kl_24 iM)) (show mG M 24 0 = 25 from rd_Others_0 iM (a := 24) rfl) ?_
    refine w_aGc (kl_25 iM) (by omega) (by omega) (show mG M 25 0 = nh0 from (show mG M 25 0 = nh0 from enh0)) ?_
    have w2_ := wI_id (x := (nh0 + 1)) (by omega) (by omega)
    refine w_aS (kl_25 iM) (by omega) (by omega) (fun M146 hM146 => ?_)
    replace hM146 : M146 = mS M 25 0 (wI (nh0 + 1)) := hM146
    have iM146 : I n M146 := wr_Oorder iM rfl ⟨by omega, by omega⟩ hM146
    have kM146 : Keep n (W_X1_layOut l1) Me M146 := kM.st hM146 (Or.inl (Or.inl ⟨by decide, by decide⟩))
    obtain ⟨svM146, esvM146⟩ : ∃ z, z = (wI (nh0 + 1)) := ⟨_, rfl⟩
    exact hk61 _ _ _ _ ⟨by omega, by omega⟩ ⟨by omega, by omega⟩ ⟨by omega, by omega⟩ (by (try rw [(show mG M146 25 0 = svM146 from (show mG M146 25 0 = svM146 from ((st_eq hM146).trans esvM146.symm)))]); all_goals omega) (by rw [(show mG M146 25 0 = svM146 from (show mG M146 25 0 = svM146 from ((st_eq hM146).trans esvM146.symm)))]; omega) iM146 kM146
  · skip
    refine w_gFc (ji := 0) rfl (congrArg Prod.fst (kl_24 iM)) (show mG M 24 0 = 25 from rd_Others_0 iM (a := 24) rfl) ?_
    refine w_aS (kl_25 iM) (by omega) (by omega) (fun M94 hM94 => ?_)
    replace hM94 : M94 = mS M 25 2 0 := hM94
    have iM94 : I n M94 := wr_Oorder iM rfl ⟨by omega, by omega⟩ hM94
    have kM94 : Keep n (W_X1_layOut l1) Me M94 := kM.st hM94 (Or.inl (Or.inl ⟨by decide, by decide⟩))
    exact s_X1_layOut_95 h_l1 hk61 hk78 FU _ _ _ _ ⟨by omega, by omega⟩ ⟨by omega, by omega⟩ ⟨by omega, by omega⟩ (by (try rw [(show mG M94 25 0 = nh0 from ((st_ne hM94 (fun z => absurd z.2 (by decide))).trans (show mG M 25 0 = nh0 from enh0)))]); (try rw [(show mG M94 25 1 = nh1 from ((st_ne hM94 (fun z => absurd z.2 (by decide))).trans (show mG M 25 1 = nh1 from enh1)))]); (try rw [(show mG M94 25 2 = 0 from (show mG M94 25 2 = 0 from (st_eq hM94)))]); all_goals omega) (by (try rw [(show mG M94 25 0 = nh0 from ((st_ne hM94 (fun z => absurd z.2 (by decide))).trans (show mG M 25 0 = nh0 from enh0)))]); (try rw [(show mG M94 25 1 = nh1 from ((st_ne hM94 (fun z => absurd z.2 (by decide))).trans (show mG M 25 1 = nh1 from enh1)))]); (try rw [(show mG M94 25 2 = 0 from (show mG M94 25 2 = 0 from (st_eq hM94)))]); all_goals omega) (by (try rw [(show mG M94 25 0 = nh0 from ((st_ne hM94 (fun z => absurd z.2 (by decide))).trans (show mG M 25 0 = nh0 from enh0)))]); (try rw [(show mG M94 25 1 = nh1 from ((st_ne hM94 (fun z => absurd z.2 (by decide))).trans (show mG M 25 1 = nh1 from enh1)))]); (try rw [(show mG M94 25 2 = 0 from (show mG M94 25 2 = 0 from (st_eq hM94)))]); all_goals omega) (by rw [(show mG M94 25 0 = nh0 from ((st_ne hM94 (fun z => absurd z.2 (by decide))).trans (show mG M 25 0 = nh0 from enh0)))]; omega) (by rw [(show mG M94 25 1 = nh1 from ((st_ne hM94 (fun z => absurd z.2 (by decide))).trans (show mG M 25 1 = nh1 from enh1)))]; omega) (by rw [(show mG M94 25 2 = 0 from (show mG M94 25 2 = 0 from (st_eq hM94)))]; show _ < (70000 : Int); omega) iM94 kM94
theorem s_X1_layOut_78 {n : Nat} {Me : Mem} {l1 : Int} (h_l1 : isShape l1) {k61 : Int → Int → Int → Int → Int → Mem → Option (Int × Mem)} {fu61 : Nat} (hk61 : ∀ (l2 l3 l4 : Int) (M : Mem), (1 ≤ l2 ∧ l2 ≤ 6) → (1 ≤ l3 ∧ l3 ≤ 6) → (1 ≤ l4 ∧ l4 ≤ 6) → (mG M 25 0 ≤ 6) → 7 - mG M 25 0 < (fu61 : Int) → I n M → Keep n (W_X1_layOut l1) Me M → wp (k61 24 l1 l2 l3 l4 M) (fun q => I n q.2 ∧ Keep n (W_X1_layOut l1) Me q.2 ∧ True)) : ∀ (fu : Nat) (l2 l3 l4 : Int) (M : Mem), (1 ≤ l2 ∧ l2 ≤ 6) → (1 ≤ l3 ∧ l3 ≤ 6) → (1 ≤ l4 ∧ l4 ≤ 6) → (mG M 25 0 ≤ 5) → (mG M 25 1 ≤ 6) → 7 - mG M 25 0 < (fu61 : Int) + 1 → 7 - mG M 25 1 < (fu : Int) → I n M → Keep n (W_X1_layOut l1) Me M → wp (mX1_layOut_78 k61 fu 24 l1 l2 l3 l4 M) (fun q => I n q.2 ∧ Keep n (W_X1_layOut l1) Me q.2 ∧ True) := by
  intro fu
  induction fu with
  | zero =>
    intro l2 l3 l4 M r_l2 r_l3 r_l4 y0 y1 hf61 hf iM kM
    exfalso
    have z := rdf iM (a := 25) (j := 0) (f := 32) rfl
    have z : 0 ≤ mG M 25 0 ∧ mG M 25 0 ≤ 6 := z
    have z := rdf iM (a := 25) (j := 1) (f := 32) rfl
    have z : 0 ≤ mG M 25 1 ∧ mG M 25 1 ≤ 6 := z
    omega
  | succ fu ih =>
    intro l2 l3 l4 M r_l2 r_l3 r_l4 y0 y1 hf61 hf iM kM
    exact sb_X1_layOut_78 h_l1 hk61 ih r_l2 r_l3 r_l4 y0 y1 hf61 (by have e : ((fu + 1 : Nat) : Int) = (fu : Int) + 1 := rfl; rw [e] at hf; exact hf) iM kM
theorem sb_X1_layOut_61 {n : Nat} {Me : Mem} {l1 : Int} (h_l1 : isShape l1) {k61 : Int → Int → Int → Int → Int → Mem → Option (Int × Mem)} {fu61 : Nat} (hk61 : ∀ (l2 l3 l4 : Int) (M : Mem), (1 ≤ l2 ∧ l2 ≤ 6) → (1 ≤ l3 ∧ l3 ≤ 6) → (1 ≤ l4 ∧ l4 ≤ 6) → (mG M 25 0 ≤ 6) → 7 - mG M 25 0 < (fu61 : Int) → I n M → Keep n (W_X1_layOut l1) Me M → wp (k61 24 l1 l2 l3 l4 M) (fun q => I n q.2 ∧ Keep n (W_X1_layOut l1) Me q.2 ∧ True)) {l2 l3 l4 : Int} {M : Mem} (r_l2 : 1 ≤ l2 ∧ l2 ≤ 6) (r_l3 : 1 ≤ l3 ∧ l3 ≤ 6) (r_l4 : 1 ≤ l4 ∧ l4 ≤ 6) (y0 : mG M 25 0 ≤ 6) (hf61 : 7 - mG M 25 0 < (fu61 : Int) + 1) (iM : I n M) (kM : Keep n (W_X1_layOut l1) Me M) : wp (bX1_layOut_61 k61 24 l1 l2 l3 l4 M) (fun q => I n q.2 ∧ Keep n (W_X1_layOut l1) Me q.2 ∧ True) := by
  have hn : (169 : Int) ≤ (n : Int) := by have := iM.2.2.2.2.1; omega
  have u_l1 := h_l1
  unfold isShape at u_l1
  obtain ⟨nh0, enh0⟩ : ∃ v, Is (mG M 25 0) v := ⟨_, rfl⟩
  have rnh0 : 0 ≤ nh0 ∧ nh0 ≤ 6 := by rw [← enh0.e]; exact rd_Oorder iM rfl
  (try rw [enh0.e] at y0); (try rw [enh0.e] at hf61)
  unfold bX1_layOut_61
  refine w_gFc (ji := 0) rfl (congrArg Prod.fst (kl_24 iM)) (show mG M 24 0 = 25 from rd_Others_0 iM (a := 24) rfl) ?_
  refine w_aGc (kl_25 iM) (by omega) (by omega) (show mG M 25 0 = nh0 from (show mG M 25 0 = nh0 from enh0)) ?_
  refine w_if (fun c1_ => ?_) (fun c1_ => ?_)
  · skip
    exact w_ret ⟨iM, kM, trivial⟩
  · skip
    refine w_gFc (ji := 0) rfl (congrArg Prod.fst (kl_24 iM)) (show mG M 24 0 = 25 from rd_Others_0 iM (a := 24) rfl) ?_
    refine w_aS (kl_25 iM) (by omega) (by omega) (fun M77 hM77 => ?_)
    replace hM77 : M77 = mS M 25 1 0 := hM77
    have iM77 : I n M77 := wr_Oorder iM rfl ⟨by omega, by omega⟩ hM77
    have kM77 : Keep n (W_X1_layOut l1) Me M77 := kM.st hM77 (Or.inl (Or.inl ⟨by decide, by decide⟩))
    exact s_X1_layOut_78 h_l1 hk61 FU _ _ _ _ ⟨by omega, by omega⟩ ⟨by omega, by omega⟩ ⟨by omega, by omega⟩ (by (try rw [(show mG M77 25 0 = nh0 from ((st_ne hM77 (fun z => absurd z.2 (by decide))).trans (show mG M 25 0 = nh0 from enh0)))]); (try rw [(show mG M77 25 1 = 0 from (show mG M77 25 1 = 0 from (st_eq hM77)))]); all_goals omega) (by (try rw [(show mG M77 25 0 = nh0 from ((st_ne hM77 (fun z => absurd z.2 (by decide))).trans (show mG M 25 0 = nh0 from enh0)))]); (try rw [(show mG M77 25 1 = 0 from (show mG M77 25 1 = 0 from (st_eq hM77)))]); all_goals omega) (by rw [(show mG M77 25 0 = nh0 from ((st_ne hM77 (fun z => absurd z.2 (by decide))).trans (show mG M 25 0 = nh0 from enh0)))]; omega) (by rw [(show mG M77 25 1 = 0 from (show mG M77 25 1 = 0 from (st_eq hM77)))]; show _ < (70000 : Int); omega) iM77 kM77
theorem s_X1_layOut_61 {n : Nat} {Me : Mem} {l1 : Int} (h_l1 : isShape l1) : ∀ (fu : Nat) (l2 l3 l4 : Int) (M : Mem), (1 ≤ l2 ∧ l2 ≤ 6) → (1 ≤ l3 ∧ l3 ≤ 6) → (1 ≤ l4 ∧ l4 ≤ 6) → (mG M 25 0 ≤ 6) → 7 - mG M 25 0 < (fu : Int) → I n M → Keep n (W_X1_layOut l1) Me M → wp (mX1_layOut_61 fu 24 l1 l2 l3 l4 M) (fun q => I n q.2 ∧ Keep n (W_X1_layOut l1) Me q.2 ∧ True) := by
  intro fu
  induction fu with
  | zero =>
    intro l2 l3 l4 M r_l2 r_l3 r_l4 y0 hf iM kM
    exfalso
    have z := rdf iM (a := 25) (j := 0) (f := 32) rfl
    have z : 0 ≤ mG M 25 0 ∧ mG M 25 0 ≤ 6 := z
    omega
  | succ fu ih =>
    intro l2 l3 l4 M r_l2 r_l3 r_l4 y0 hf iM kM
    exact sb_X1_layOut_61 h_l1 ih r_l2 r_l3 r_l4 y0 (by have e : ((fu + 1 : Nat) : Int) = (fu : Int) + 1 := rfl; rw [e] at hf; exact hf) iM kM
theorem s_X1_layOut {n : Nat} {l1 : Int} {M : Mem} (h_l1 : isShape l1) (iM : I n M) : wp (mX1_layOut 24 l1 M) (fun q => I n q.2 ∧ Keep n (W_X1_layOut l1) M q.2 ∧ True) := by
  have hn : (169 : Int) ≤ (n : Int) := by have := iM.2.2.2.2.1; omega
  have kM : Keep n (W_X1_layOut l1) M M := Keep.rf
  have u_l1 := h_l1
  unfold isShape at u_l1
  unfold mX1_layOut
  refine w_gF (ji := 6) rfl (congrArg Prod.fst (kl_24 iM)) (fun a1 ha1 => ?_)
  have ra1 : 0 ≤ a1 ∧ a1 ≤ 1 := ha1.tr (P := fun z => 0 ≤ z ∧ z ≤ 1) (rd_Others_6 iM rfl)
  refine w_if (fun c1_ => ?_) (fun c1_ => ?_)
  · skip
    refine w_gF (ji := 7) rfl (congrArg Prod.fst (k_Shape iM h_l1)) (fun a8 ha8 => ?_)
    have ra8 : 0 ≤ a8 ∧ a8 ≤ 36 := ha8.tr (P := fun z => 0 ≤ z ∧ z ≤ 36) (rd_Shape_7 iM (f_Shape h_l1))
    refine w_if (fun c2_ => ?_) (fun c2_ => ?_)
    · skip
      refine w_pZ (ji := 6) rfl (congrArg Prod.fst (kl_24 iM)) (by omega) (fun M19 hM19 => ?_)
      replace hM19 : M19 = mS M 24 6 1 := hM19
      have iM19 : I n M19 := wr_Others_6 iM rfl ⟨by omega, by omega⟩ hM19
      have kM19 : Keep n (W_X1_layOut l1) M M19 := kM.st hM19 (Or.inl (Or.inr (Or.inr (Or.inr ⟨rfl, rfl⟩))))
      refine w_gFc (ji := 7) rfl (congrArg Prod.fst (k_Shape iM19 h_l1)) (show mG M19 l1 7 = a8 from ((st_ne hM19 (fun z => ne_fam (f_Shape h_l1) rfl (by decide) z.1)).trans (show mG M l1 7 = a8 from ha8))) ?_
      refine w_pF (ji := 5) rfl (congrArg Prod.fst (kl_24 iM19)) (fun M27 hM27 => ?_)
      replace hM27 : M27 = mS M19 24 5 a8 := hM27
      have iM27 : I n M27 := wr_Others_5 iM19 rfl ⟨by omega, by omega⟩ hM27
      have kM27 : Keep n (W_X1_layOut l1) M M27 := kM19.st hM27 (Or.inl (Or.inr (Or.inr (Or.inl ⟨rfl, rfl⟩))))
      refine w_pF (ji := 4) rfl (congrArg Prod.fst (kl_24 iM27)) (fun M32 hM32 => ?_)
      replace hM32 : M32 = mS M27 24 4 0 := hM32
      have iM32 : I n M32 := wr_Others_4 iM27 rfl ⟨by omega, by omega⟩ hM32
      have kM32 : Keep n (W_X1_layOut l1) M M32 := kM27.st hM32 (Or.inl (Or.inr (Or.inl ⟨rfl, rfl⟩)))
      refine w_call (s_X1_ordersOf h_l1 ⟨by omega, by omega⟩ iM32) ?_
      intro v37 m37 pp37
      obtain ⟨im37, kk37, e37_0, -⟩ := pp37
      try dsimp only
      replace im37 : I n m37 := im37
      replace kk37 : Keep n (W_X1_ordersOf l1) M32 m37 := kk37
      have km37 : Keep n (W_X1_layOut l1) M m37 := kM32.tr kk37 (fun b j z => z.elim)
      replace e37_0 : 1 ≤ v37 ∧ v37 ≤ 6 := e37_0
      refine w_call (s_X1_ordersOf h_l1 ⟨by omega, by omega⟩ im37) ?_
      intro v43 m43 pp43
      obtain ⟨im43, kk43, e43_0, -⟩ := pp43
      try dsimp only
      replace im43 : I n m43 := im43
      replace kk43 : Keep n (W_X1_ordersOf l1) m37 m43 := kk43
      have km43 : Keep n (W_X1_layOut l1) M m43 := km37.tr kk43 (fun b j z => z.elim)
      replace e43_0 : 1 ≤ v43 ∧ v43 ≤ 6 := e43_0
      refine w_call (s_X1_ordersOf h_l1 ⟨by omega, by omega⟩ im43) ?_
      intro v49 m49 pp49
      obtain ⟨im49, kk49, e49_0, -⟩ := pp49
      try dsimp only
      replace im49 : I n m49 := im49
      replace kk49 : Keep n (W_X1_ordersOf l1) m43 m49 := kk49
      have km49 : Keep n (W_X1_layOut l1) M m49 := km43.tr kk49 (fun b j z => z.elim)
      replace e49_0 : 1 ≤ v49 ∧ v49 ≤ 6 := e49_0
      refine w_gFc (ji := 0) rfl (congrArg Prod.fst (kl_24 im49)) (show mG m49 24 0 = 25 from rd_Others_0 im49 (a := 24) rfl) ?_
      refine w_aS (kl_25 im49) (by omega) (by omega) (fun M60 hM60 => ?_)
      replace hM60 : M60 = mS m49 25 0 0 := hM60
      have iM60 : I n M60 := wr_Oorder im49 rfl ⟨by omega, by omega⟩ hM60
      have kM60 : Keep n (W_X1_layOut l1) M M60 := km49.st hM60 (Or.inl (Or.inl ⟨by decide, by decide⟩))
      exact s_X1_layOut_61 h_l1 FU _ _ _ _ ⟨by omega, by omega⟩ ⟨by omega, by omega⟩ ⟨by omega, by omega⟩ (by (try rw [(show mG M60 25 0 = 0 from (show mG M60 25 0 = 0 from (st_eq hM60)))]); all_goals omega) (by rw [(show mG M60 25 0 = 0 from (show mG M60 25 0 = 0 from (st_eq hM60)))]; show _ < (70000 : Int); omega) iM60 kM60
    · skip
      exact w_ret ⟨iM, kM, trivial⟩
  · skip
    exact w_ret ⟨iM, kM, trivial⟩
def W_X1_renumbered (b j : Int) : Prop := False
theorem s_X1_renumbered_45 {n : Nat} {Me : Mem} {k5 : Int → Int → Int → Int → Int → Mem → Option (Int × Mem)} {fu5 : Nat} (hk5 : ∀ (l1 l2 l3 l4 : Int) (M : Mem), (0 ≤ l1 ∧ l1 ≤ 215) → ((-2147483648) ≤ l2 ∧ l2 ≤ 2147483647) → ((-2147483648) ≤ l3 ∧ l3 ≤ 2147483647) → (0 ≤ l4 ∧ l4 ≤ 12) → 13 - l4 < (fu5 : Int) → I n M → Keep n W_X1_renumbered Me M → wp (k5 24 l1 l2 l3 l4 M) (fun q => I n q.2 ∧ Keep n W_X1_renumbered Me q.2 ∧ ((-2147483648) ≤ q.1 ∧ q.1 ≤ 2147483647) ∧ True)) {l1 l2 l3 l4 : Int} {M : Mem} (r_l1 : 0 ≤ l1 ∧ l1 ≤ 215) (r_l2 : (-2147483648) ≤ l2 ∧ l2 ≤ 2147483647) (r_l3 : (-2147483648) ≤ l3 ∧ l3 ≤ 2147483647) (r_l4 : 0 ≤ l4 ∧ l4 ≤ 11) (hf5 : 13 - l4 < (fu5 : Int) + 1) (iM : I n M) (kM : Keep n W_X1_renumbered Me M) : wp (mX1_renumbered_45 k5 24 l1 l2 l3 l4 M) (fun q => I n q.2 ∧ Keep n W_X1_renumbered Me q.2 ∧ ((-2147483648) ≤ q.1 ∧ q.1 ≤ 2147483647) ∧ True) := by
  have hn : (169 : Int) ≤ (n : Int) := by have := iM.2.2.2.2.1; omega
  unfold mX1_renumbered_45
  have w1_ := wI_id (x := (l4 + 1)) (by omega) (by omega)
  exact hk5 _ _ _ _ _ ⟨by omega, by omega⟩ ⟨by omega, by omega⟩ ⟨by omega, by omega⟩ ⟨by omega, by omega⟩ (by omega) iM kM
theorem sb_X1_renumbered_5 {n : Nat} {Me : Mem} {k5 : Int → Int → Int → Int → Int → Mem → Option (Int × Mem)} {fu5 : Nat} (hk5 : ∀ (l1 l2 l3 l4 : Int) (M : Mem), (0 ≤ l1 ∧ l1 ≤ 215) → ((-2147483648) ≤ l2 ∧ l2 ≤ 2147483647) → ((-2147483648) ≤ l3 ∧ l3 ≤ 2147483647) → (0 ≤ l4 ∧ l4 ≤ 12) → 13 - l4 < (fu5 : Int) → I n M → Keep n W_X1_renumbered Me M → wp (k5 24 l1 l2 l3 l4 M) (fun q => I n q.2 ∧ Keep n W_X1_renumbered Me q.2 ∧ ((-2147483648) ≤ q.1 ∧ q.1 ≤ 2147483647) ∧ True)) {l1 l2 l3 l4 : Int} {M : Mem} (r_l1 : 0 ≤ l1 ∧ l1 ≤ 215) (r_l2 : (-2147483648) ≤ l2 ∧ l2 ≤ 2147483647) (r_l3 : (-2147483648) ≤ l3 ∧ l3 ≤ 2147483647) (r_l4 : 0 ≤ l4 ∧ l4 ≤ 12) (hf5 : 13 - l4 < (fu5 : Int) + 1) (iM : I n M) (kM : Keep n W_X1_renumbered Me M) : wp (bX1_renumbered_5 k5 24 l1 l2 l3 l4 M) (fun q => I n q.2 ∧ Keep n W_X1_renumbered Me q.2 ∧ ((-2147483648) ≤ q.1 ∧ q.1 ≤ 2147483647) ∧ True) := by
  have hn : (169 : Int) ≤ (n : Int) := by have := iM.2.2.2.2.1; omega
  unfold bX1_renumbered_5
  refine w_gF (ji := 5) rfl (congrArg Prod.fst (kl_24 iM)) (fun a8 ha8 => ?_)
  have ra8 : 0 ≤ a8 ∧ a8 ≤ 12 := ha8.tr (P := fun z => 0 ≤ z ∧ z ≤ 12) (rd_Others_5 iM rfl)
  refine w_if (fun c1_ => ?_) (fun c1_ => ?_)
  · skip
    exact w_ret ⟨iM, kM, (show (-2147483648) ≤ l3 ∧ l3 ≤ 2147483647 from ⟨by omega, by omega⟩), trivial⟩
  · skip
    refine w_gFc (ji := 5) rfl (congrArg Prod.fst (kl_24 iM)) (show mG M 24 5 = a8 from (show mG M 24 5 = a8 from ha8)) ?_
    have w2_ := wI_id (x := (a8 - 1)) (by omega) (by omega)
    have w3_ := wI_id (x := ((wI (a8 - 1)) - l4)) (by omega) (by omega)
    have w4_ := ishr_in l2 (wI ((wI (a8 - 1)) - l4))
    have w5_ := iand_r (x := (ishr l2 (wI ((wI (a8 - 1)) - l4)))) (y := 1) (by omega) (by omega)
    refine w_if (fun c6_ => ?_) (fun c6_ => ?_)
    · skip
      exact s_X1_renumbered_45 hk5 ⟨by omega, by omega⟩ ⟨by omega, by omega⟩ ⟨by omega, by omega⟩ ⟨by omega, by omega⟩ (by omega) iM kM
    · skip
      refine w_gFc (ji := 1) rfl (congrArg Prod.fst (kl_24 iM)) (show mG M 24 1 = 26 from rd_Others_1 iM (a := 24) rfl) ?_
      have w7_ := wI_id (x := (l1 * 12)) (by omega) (by omega)
      have w8_ := wI_id (x := ((wI (l1 * 12)) + l4)) (by omega) (by omega)
      refine w_aG (kl_26 iM) (by omega) (by omega) (fun a42 ha42 => ?_)
      have ra42 : (-2147483648) ≤ a42 ∧ a42 ≤ 2147483647 := ha42.tr (P := fun z => (-2147483648) ≤ z ∧ z ≤ 2147483647) (rd_Omoved iM rfl)
      have w9_ := ior_in l3 a42
      exact s_X1_renumbered_45 hk5 ⟨by omega, by omega⟩ ⟨by omega, by omega⟩ ⟨by omega, by omega⟩ ⟨by omega, by omega⟩ (by omega) iM kM
theorem s_X1_renumbered_5 {n : Nat} {Me : Mem} : ∀ (fu : Nat) (l1 l2 l3 l4 : Int) (M : Mem), (0 ≤ l1 ∧ l1 ≤ 215) → ((-2147483648) ≤ l2 ∧ l2 ≤ 2147483647) → ((-2147483648) ≤ l3 ∧ l3 ≤ 2147483647) → (0 ≤ l4 ∧ l4 ≤ 12) → 13 - l4 < (fu : Int) → I n M → Keep n W_X1_renumbered Me M → wp (mX1_renumbered_5 fu 24 l1 l2 l3 l4 M) (fun q => I n q.2 ∧ Keep n W_X1_renumbered Me q.2 ∧ ((-2147483648) ≤ q.1 ∧ q.1 ≤ 2147483647) ∧ True) := by
  intro fu
  induction fu with
  | zero =>
    intro l1 l2 l3 l4 M r_l1 r_l2 r_l3 r_l4 hf iM kM
    exfalso
    omega
  | succ fu ih =>
    intro l1 l2 l3 l4 M r_l1 r_l2 r_l3 r_l4 hf iM kM
    exact sb_X1_renumbered_5 ih r_l1 r_l2 r_l3 r_l4 (by have e : ((fu + 1 : Nat) : Int) = (fu : Int) + 1 := rfl; rw [e] at hf; exact hf) iM kM
theorem s_X1_renumbered {n : Nat} {l1 l2 : Int} {M : Mem} (r_l1 : 0 ≤ l1 ∧ l1 ≤ 215) (r_l2 : (-2147483648) ≤ l2 ∧ l2 ≤ 2147483647) (iM : I n M) : wp (mX1_renumbered 24 l1 l2 M) (fun q => I n q.2 ∧ Keep n W_X1_renumbered M q.2 ∧ ((-2147483648) ≤ q.1 ∧ q.1 ≤ 2147483647) ∧ True) := by
  have hn : (169 : Int) ≤ (n : Int) := by have := iM.2.2.2.2.1; omega
  have kM : Keep n W_X1_renumbered M M := Keep.rf
  unfold mX1_renumbered
  exact s_X1_renumbered_5 FU _ _ _ _ _ ⟨by omega, by omega⟩ ⟨by omega, by omega⟩ ⟨by omega, by omega⟩ ⟨by omega, by omega⟩ (by show _ < (70000 : Int); omega) iM kM
def W_J6_bitCount_0f7a4 (b j : Int) : Prop := False
theorem s_J6_bitCount_0f7a4 {n : Nat} {l0 : Int} {M : Mem} (r_l0 : (-2147483648) ≤ l0 ∧ l0 ≤ 2147483647) (iM : I n M) : wp (mJ6_bitCount_0f7a4 l0 M) (fun q => I n q.2 ∧ Keep n W_J6_bitCount_0f7a4 M q.2 ∧ (0 ≤ q.1 ∧ q.1 ≤ 63) ∧ True) := by
  have hn : (169 : Int) ≤ (n : Int) := by have := iM.2.2.2.2.1; omega
  have kM : Keep n W_J6_bitCount_0f7a4 M M := Keep.rf
  unfold mJ6_bitCount_0f7a4
  have w1_ := iushr_in l0 1
  have w2_ := iand_r (x := (iushr l0 1)) (y := 1431655765) (by omega) (by omega)
  have w3_ := And.intro (wI_lo (l0 - (iand (iushr l0 1) 1431655765))) (wI_hi (l0 - (iand (iushr l0 1) 1431655765)))
  refine w_some (fun b9 hb9 => ?_)
  replace hb9 : b9 = (wI (l0 - (iand (iushr l0 1) 1431655765))) := hb9
  have w4_ := iand_r (x := b9) (y := 858993459) (by omega) (by omega)
  have w5_ := iushr_in b9 2
  have w6_ := iand_r (x := (iushr b9 2)) (y := 858993459) (by omega) (by omega)
  have w7_ := wI_id (x := ((iand b9 858993459) + (iand (iushr b9 2) 858993459))) (by omega) (by omega)
  refine w_some (fun b23 hb23 => ?_)
  replace hb23 : b23 = (wI ((iand b9 858993459) + (iand (iushr b9 2) 858993459))) := hb23
  have w8_ := iushr_in b23 4
  have w9_ := And.intro (wI_lo (b23 + (iushr b23 4))) (wI_hi (b23 + (iushr b23 4)))
  have w10_ := iand_r (x := (wI (b23 + (iushr b23 4)))) (y := 252645135) (by omega) (by omega)
  refine w_some (fun b33 hb33 => ?_)
  replace hb33 : b33 = (iand (wI (b23 + (iushr b23 4))) 252645135) := hb33
  have w11_ := iushr_in b33 8
  have w12_ := And.intro (wI_lo (b33 + (iushr b33 8))) (wI_hi (b33 + (iushr b33 8)))
  refine w_some (fun b40 hb40 => ?_)
  replace hb40 : b40 = (wI (b33 + (iushr b33 8))) := hb40
  have w13_ := iushr_in b40 16
  have w14_ := And.intro (wI_lo (b40 + (iushr b40 16))) (wI_hi (b40 + (iushr b40 16)))
  refine w_some (fun b47 hb47 => ?_)
  replace hb47 : b47 = (wI (b40 + (iushr b40 16))) := hb47
  have w15_ := iand_r (x := b47) (y := 63) (by omega) (by omega)
  exact w_ret ⟨iM, kM, (show 0 ≤ (iand b47 63) ∧ (iand b47 63) ≤ 63 from ⟨by omega, by omega⟩), trivial⟩
def W_X1_fewestApart (l1 : Int) (b j : Int) : Prop := (25 ≤ b ∧ b ≤ 26) ∨ (b = 24 ∧ j = 4) ∨ (b = 24 ∧ j = 5) ∨ (b = 24 ∧ j = 6)
theorem sb_X1_fewestApart_12 {n : Nat} {Me : Mem} {l1 : Int} (h_l1 : isShape l1) {k12 : Int → Int → Int → Int → Int → Mem → Option (Int × Mem)} {fu12 : Nat} (hk12 : ∀ (l2 l3 l4 l5 : Int) (M : Mem), ((-2147483648) ≤ l2 ∧ l2 ≤ 2147483647) → ((-2147483648) ≤ l3 ∧ l3 ≤ 2147483647) → (0 ≤ l4 ∧ l4 ≤ 12) → (0 ≤ l5 ∧ l5 ≤ 216) → 217 - l5 < (fu12 : Int) → I n M → Keep n (W_X1_fewestApart l1) Me M → wp (k12 24 l2 l3 l4 l5 M) (fun q => I n q.2 ∧ Keep n (W_X1_fewestApart l1) Me q.2 ∧ (0 ≤ q.1 ∧ q.1 ≤ 12) ∧ True)) {l2 l3 l4 l5 : Int} {M : Mem} (r_l2 : (-2147483648) ≤ l2 ∧ l2 ≤ 2147483647) (r_l3 : (-2147483648) ≤ l3 ∧ l3 ≤ 2147483647) (r_l4 : 0 ≤ l4 ∧ l4 ≤ 12) (r_l5 : 0 ≤ l5 ∧ l5 ≤ 216) (hf12 : 217 - l5 < (fu12 : Int) + 1) (iM : I n M) (kM : Keep n (W_X1_fewestApart l1) Me M) : wp (bX1_fewestApart_12 k12 24 l2 l3 l4 l5 M) (fun q => I n q.2 ∧ Keep n (W_X1_fewestApart l1) Me q.2 ∧ (0 ≤ q.1 ∧ q.1 ≤ 12) ∧ True) := by
  have hn : (169 : Int) ≤ (n : Int) := by have := iM.2.2.2.2.1; omega
  have u_l1 := h_l1
  unfold isShape at u_l1
  unfold bX1_fewestApart_12
  refine w_gF (ji := 4) rfl (congrArg Prod.fst (kl_24 iM)) (fun a15 ha15 => ?_)
  have ra15 : 0 ≤ a15 ∧ a15 ≤ 216 := ha15.tr (P := fun z => 0 ≤ z ∧ z ≤ 216) (rd_Others_4 iM rfl)
  refine w_if (fun c1_ => ?_) (fun c1_ => ?_)
  · skip
    exact w_ret ⟨iM, kM, (show 0 ≤ l4 ∧ l4 ≤ 12 from ⟨by omega, by omega⟩), trivial⟩
  · skip
    refine w_gK (congrArg Prod.fst (kl_24 iM)) ?_
    refine w_call (s_X1_renumbered ⟨by omega, by omega⟩ ⟨by omega, by omega⟩ iM) ?_
    intro v28 m28 pp28
    obtain ⟨im28, kk28, e28_0, -⟩ := pp28
    try dsimp only
    replace im28 : I n m28 := im28
    replace kk28 : Keep n W_X1_renumbered M m28 := kk28
    have km28 : Keep n (W_X1_fewestApart l1) Me m28 := kM.tr kk28 (fun b j z => z.elim)
    replace e28_0 : (-2147483648) ≤ v28 ∧ v28 ≤ 2147483647 := e28_0
    have w2_ := ixor_in l2 v28
    refine w_call (s_J6_bitCount_0f7a4 ⟨by omega, by omega⟩ im28) ?_
    intro v32 m32 pp32
    obtain ⟨im32, kk32, e32_0, -⟩ := pp32
    try dsimp only
    replace im32 : I n m32 := im32
    replace kk32 : Keep n W_J6_bitCount_0f7a4 m28 m32 := kk32
    have km32 : Keep n (W_X1_fewestApart l1) Me m32 := km28.tr kk32 (fun b j z => z.elim)
    replace e32_0 : 0 ≤ v32 ∧ v32 ≤ 63 := e32_0
    obtain ⟨w3_e, w3_⟩ : ∃ z, (if v32 < l4 then v32 else l4) = z := ⟨_, rfl⟩
    have w3_x : (v32 < l4 ∧ w3_e = v32) ∨ (¬ v32 < l4 ∧ w3_e = l4) := by rw [← w3_]; split <;> omega
    have w3_y : (if v32 < l4 then v32 else l4) = w3_e := w3_
    refine w_some (fun b38 hb38 => ?_)
    replace hb38 : b38 = (if v32 < l4 then v32 else l4) := hb38
    have w4_ := wI_id (x := (l5 + 1)) (by omega) (by omega)
    exact hk12 _ _ _ _ _ ⟨by omega, by omega⟩ ⟨by omega, by omega⟩ ⟨by omega, by omega⟩ ⟨by omega, by omega⟩ (by omega) im32 km32
theorem s_X1_fewestApart_12 {n : Nat} {Me : Mem} {l1 : Int} (h_l1 : isShape l1) : ∀ (fu : Nat) (l2 l3 l4 l5 : Int) (M : Mem), ((-2147483648) ≤ l2 ∧ l2 ≤ 2147483647) → ((-2147483648) ≤ l3 ∧ l3 ≤ 2147483647) → (0 ≤ l4 ∧ l4 ≤ 12) → (0 ≤ l5 ∧ l5 ≤ 216) → 217 - l5 < (fu : Int) → I n M → Keep n (W_X1_fewestApart l1) Me M → wp (mX1_fewestApart_12 fu 24 l2 l3 l4 l5 M) (fun q => I n q.2 ∧ Keep n (W_X1_fewestApart l1) Me q.2 ∧ (0 ≤ q.1 ∧ q.1 ≤ 12) ∧ True) := by
  intro fu
  induction fu with
  | zero =>
    intro l2 l3 l4 l5 M r_l2 r_l3 r_l4 r_l5 hf iM kM
    exfalso
    omega
  | succ fu ih =>
    intro l2 l3 l4 l5 M r_l2 r_l3 r_l4 r_l5 hf iM kM
    exact sb_X1_fewestApart_12 h_l1 ih r_l2 r_l3 r_l4 r_l5 (by have e : ((fu + 1 : Nat) : Int) = (fu : Int) + 1 := rfl; rw [e] at hf; exact hf) iM kM
theorem s_X1_fewestApart {n : Nat} {l1 l2 l3 : Int} {M : Mem} (h_l1 : isShape l1) (r_l2 : (-2147483648) ≤ l2 ∧ l2 ≤ 2147483647) (r_l3 : (-2147483648) ≤ l3 ∧ l3 ≤ 2147483647) (iM : I n M) : wp (mX1_fewestApart 24 l1 l2 l3 M) (fun q => I n q.2 ∧ Keep n (W_X1_fewestApart l1) M q.2 ∧ (0 ≤ q.1 ∧ q.1 ≤ 12) ∧ True) := by
  have hn : (169 : Int) ≤ (n : Int) := by have := iM.2.2.2.2.1; omega
  have kM : Keep n (W_X1_fewestApart l1) M M := Keep.rf
  have u_l1 := h_l1
  unfold isShape at u_l1
  unfold mX1_fewestApart
  refine w_gK (congrArg Prod.fst (kl_24 iM)) ?_
  refine w_call (s_X1_layOut h_l1 iM) ?_
  intro v2 m2 pp2
  obtain ⟨im2, kk2, -⟩ := pp2
  try dsimp only
  replace im2 : I n m2 := im2
  replace kk2 : Keep n (W_X1_layOut l1) M m2 := kk2
  have km2 : Keep n (W_X1_fewestApart l1) M m2 := kM.tr kk2 (fun b j z => Or.elim z (fun z => (Or.inl z)) (fun z => Or.elim z (fun z => (Or.inr (Or.inl z))) (fun z => Or.elim z (fun z => (Or.inr (Or.inr (Or.inl z)))) (fun z => (Or.inr (Or.inr (Or.inr z)))))))
  exact s_X1_fewestApart_12 h_l1 FU _ _ _ _ _ ⟨by omega, by omega⟩ ⟨by omega, by omega⟩ ⟨by omega, by omega⟩ ⟨by omega, by omega⟩ (by show _ < (70000 : Int); omega) im2 km2
def W_X4_fewestApart (b j : Int) : Prop := (25 ≤ b ∧ b ≤ 26) ∨ (b = 24 ∧ j = 4) ∨ (b = 24 ∧ j = 5) ∨ (b = 24 ∧ j = 6)
theorem s_X4_fewestApart {n : Nat} {l1 : Int} {M : Mem} (iM : I n M) : wp (mX4_fewestApart 2 l1 M) (fun q => I n q.2 ∧ Keep n W_X4_fewestApart M q.2 ∧ ((-1) ≤ q.1 ∧ q.1 ≤ 12) ∧ True) := by
  have hn : (169 : Int) ≤ (n : Int) := by have := iM.2.2.2.2.1; omega
  have kM : Keep n W_X4_fewestApart M M := Keep.rf
  unfold mX4_fewestApart
  refine w_gK (congrArg Prod.fst (kl_2 iM)) ?_
  refine w_call (s_X4_canTell iM) ?_
  intro v1 m1 pp1
  obtain ⟨im1, kk1, e1_0, -⟩ := pp1
  try dsimp only
  replace im1 : I n m1 := im1
  replace kk1 : Keep n W_X4_canTell M m1 := kk1
  have km1 : Keep n W_X4_fewestApart M m1 := kM.tr kk1 (fun b j z => z.elim)
  replace e1_0 : 0 ≤ v1 ∧ v1 ≤ 1 := e1_0
  refine w_if (fun c1_ => ?_) (fun c1_ => ?_)
  · skip
    exact w_ret ⟨im1, km1, (show (-1) ≤ (-1) ∧ (-1) ≤ 12 from ⟨by omega, by omega⟩), trivial⟩
  · skip
    refine w_gFc (ji := 2) rfl (congrArg Prod.fst (kl_2 im1)) (show mG m1 2 2 = 24 from rd_Solver_2 im1 (a := 2) rfl) ?_
    refine w_gFc (ji := 0) rfl (congrArg Prod.fst (kl_2 im1)) (show mG m1 2 0 = 3 from rd_Solver_0 im1 (a := 2) rfl) ?_
    refine w_gFc (ji := 0) rfl (congrArg Prod.fst (kl_3 im1)) (show mG m1 3 0 = 4 from rd_Told_0 im1 (a := 3) rfl) ?_
    refine w_gFc (ji := 0) rfl (congrArg Prod.fst (kl_2 im1)) (show mG m1 2 0 = 3 from rd_Solver_0 im1 (a := 2) rfl) ?_
    refine w_gF (ji := 1) rfl (congrArg Prod.fst (kl_3 im1)) (fun a24 ha24 => ?_)
    refine w_gK (congrArg Prod.fst (kl_24 im1)) ?_
    have w2_ := l2i_in a24
    have w3_ := l2i_in l1
    refine w_call (s_X1_fewestApart (by unfold isShape; omega) ⟨by omega, by omega⟩ ⟨by omega, by omega⟩ im1) ?_
    intro v30 m30 pp30
    obtain ⟨im30, kk30, e30_0, -⟩ := pp30
    try dsimp only
    replace im30 : I n m30 := im30
    replace kk30 : Keep n (W_X1_fewestApart 4) m1 m30 := kk30
    have km30 : Keep n W_X4_fewestApart M m30 := km1.tr kk30 (fun b j z => Or.elim z (fun z => (Or.inl z)) (fun z => Or.elim z (fun z => (Or.inr (Or.inl z))) (fun z => Or.elim z (fun z => (Or.inr (Or.inr (Or.inl z)))) (fun z => (Or.inr (Or.inr (Or.inr z)))))))
    replace e30_0 : 0 ≤ v30 ∧ v30 ≤ 12 := e30_0
    exact w_ret ⟨im30, km30, (show (-1) ≤ v30 ∧ v30 ≤ 12 from ⟨by omega, by omega⟩), trivial⟩
def W_X8_apart (b j : Int) : Prop := (25 ≤ b ∧ b ≤ 26) ∨ (b = 24 ∧ j = 4) ∨ (b = 24 ∧ j = 5) ∨ (b = 24 ∧ j = 6)
theorem s_X8_apart {n : Nat} {l1 : Int} {M : Mem} (r_l1 : (-2147483648) ≤ l1 ∧ l1 ≤ 2147483647) (iM : I n M) : wp (mX8_apart 1 l1 M) (fun q => I n q.2 ∧ Keep n W_X8_apart M q.2 ∧ ((-1) ≤ q.1 ∧ q.1 ≤ 12) ∧ True) := by
  have hn : (169 : Int) ≤ (n : Int) := by have := iM.2.2.2.2.1; omega
  have kM : Keep n W_X8_apart M M := Keep.rf
  unfold mX8_apart
  refine w_if (fun c1_ => ?_) (fun c1_ => ?_)
  · skip
    exact w_ret ⟨iM, kM, (show (-1) ≤ (-1) ∧ (-1) ≤ 12 from ⟨by omega, by omega⟩), trivial⟩
  · skip
    refine w_if (fun c2_ => ?_) (fun c2_ => ?_)
    · skip
      exact w_ret ⟨iM, kM, (show (-1) ≤ (-1) ∧ (-1) ≤ 12 from ⟨by omega, by omega⟩), trivial⟩
    · skip
      refine w_gFc (ji := 1) rfl (congrArg Prod.fst (kl_1 iM)) (show mG M 1 1 = 3 from rd_VS_1 iM (a := 1) rfl) ?_
      refine w_gFc (ji := 3) rfl (congrArg Prod.fst (kl_3 iM)) (show mG M 3 3 = 12 from rd_Told_3 iM (a := 3) rfl) ?_
      refine w_aG (kl_12 iM) (by omega) (by omega) (fun a17 ha17 => ?_)
      have ra17 : 0 ≤ a17 ∧ a17 ≤ 1 := ha17.tr (P := fun z => 0 ≤ z ∧ z ≤ 1) (rd_TisKept iM rfl)
      refine w_if (fun c3_ => ?_) (fun c3_ => ?_)
      · skip
        exact w_ret ⟨iM, kM, (show (-1) ≤ (-1) ∧ (-1) ≤ 12 from ⟨by omega, by omega⟩), trivial⟩
      · skip
        refine w_gFc (ji := 0) rfl (congrArg Prod.fst (kl_1 iM)) (show mG M 1 0 = 2 from rd_VS_0 iM (a := 1) rfl) ?_
        refine w_gFc (ji := 1) rfl (congrArg Prod.fst (kl_1 iM)) (show mG M 1 1 = 3 from rd_VS_1 iM (a := 1) rfl) ?_
        refine w_gFc (ji := 2) rfl (congrArg Prod.fst (kl_3 iM)) (show mG M 3 2 = 11 from rd_Told_2 iM (a := 3) rfl) ?_
        refine w_aG (kl_11 iM) (by omega) (by omega) (fun a35 ha35 => ?_)
        refine w_gK (congrArg Prod.fst (kl_2 iM)) ?_
        refine w_call (s_X4_fewestApart iM) ?_
        intro v36 m36 pp36
        obtain ⟨im36, kk36, e36_0, -⟩ := pp36
        try dsimp only
        replace im36 : I n m36 := im36
        replace kk36 : Keep n W_X4_fewestApart M m36 := kk36
        have km36 : Keep n W_X8_apart M m36 := kM.tr kk36 (fun b j z => Or.elim z (fun z => (Or.inl z)) (fun z => Or.elim z (fun z => (Or.inr (Or.inl z))) (fun z => Or.elim z (fun z => (Or.inr (Or.inr (Or.inl z)))) (fun z => (Or.inr (Or.inr (Or.inr z)))))))
        replace e36_0 : (-1) ≤ v36 ∧ v36 ≤ 12 := e36_0
        exact w_ret ⟨im36, km36, (show (-1) ≤ v36 ∧ v36 ≤ 12 from ⟨by omega, by omega⟩), trivial⟩
def W_X6_addBytes (b j : Int) : Prop := b = 13 ∨ (b = 3 ∧ j = 5)
theorem sb_X6_addBytes_3 {n : Nat} {Me : Mem} {k3 : Int → Int → Int → Mem → Option (Int × Mem)} {fu3 : Nat} (hk3 : ∀ (l1 l2 : Int) (M : Mem), ((-2147483648) ≤ l1 ∧ l1 ≤ 2147483647) → ((-8) ≤ l2 ∧ l2 ≤ 24) → l2 - (-9) < (fu3 : Int) → I n M → Keep n W_X6_addBytes Me M → wp (k3 3 l1 l2 M) (fun q => I n q.2 ∧ Keep n W_X6_addBytes Me q.2 ∧ True)) {l1 l2 : Int} {M : Mem} (r_l1 : (-2147483648) ≤ l1 ∧ l1 ≤ 2147483647) (r_l2 : (-8) ≤ l2 ∧ l2 ≤ 24) (hf3 : l2 - (-9) < (fu3 : Int) + 1) (iM : I n M) (kM : Keep n W_X6_addBytes Me M) : wp (bX6_addBytes_3 k3 3 l1 l2 M) (fun q => I n q.2 ∧ Keep n W_X6_addBytes Me q.2 ∧ True) := by
  have hn : (169 : Int) ≤ (n : Int) := by have := iM.2.2.2.2.1; omega
  unfold bX6_addBytes_3
  refine w_if (fun c1_ => ?_) (fun c1_ => ?_)
  · skip
    exact w_ret ⟨iM, kM, trivial⟩
  · skip
    refine w_gF (ji := 5) rfl (congrArg Prod.fst (kl_3 iM)) (fun a8 ha8 => ?_)
    have ra8 : 0 ≤ a8 ∧ a8 ≤ 400 := ha8.tr (P := fun z => 0 ≤ z ∧ z ≤ 400) (rd_Told_5 iM rfl)
    refine w_if (fun c2_ => ?_) (fun c2_ => ?_)
    · skip
      exact w_ret ⟨iM, kM, trivial⟩
    · skip
      refine w_gFc (ji := 4) rfl (congrArg Prod.fst (kl_3 iM)) (show mG M 3 4 = 13 from rd_Told_4 iM (a := 3) rfl) ?_
      refine w_gFc (ji := 5) rfl (congrArg Prod.fst (kl_3 iM)) (show mG M 3 5 = a8 from (show mG M 3 5 = a8 from ha8)) ?_
      have w3_ := ishr_in l1 l2
      have w4_ := iand_r (x := (ishr l1 l2)) (y := 255) (by omega) (by omega)
      refine w_aS (kl_13 iM) (by omega) (by omega) (fun M32 hM32 => ?_)
      replace hM32 : M32 = mS M 13 a8 (iand (ishr l1 l2) 255) := hM32
      have iM32 : I n M32 := wr_Ttape iM rfl ⟨by omega, by omega⟩ hM32
      have kM32 : Keep n W_X6_addBytes Me M32 := kM.st hM32 (Or.inl (Or.inl rfl))
      obtain ⟨svM32, esvM32⟩ : ∃ z, z = (iand (ishr l1 l2) 255) := ⟨_, rfl⟩
      refine w_gFc (ji := 5) rfl (congrArg Prod.fst (kl_3 iM32)) (show mG M32 3 5 = a8 from ((st_ne hM32 (fun z => ne_fam rfl rfl (by decide) z.1)).trans (show mG M 3 5 = a8 from ha8))) ?_
      have w5_ := wI_id (x := (a8 + 1)) (by omega) (by omega)
      refine w_pF (ji := 5) rfl (congrArg Prod.fst (kl_3 iM32)) (fun M40 hM40 => ?_)
      replace hM40 : M40 = mS M32 3 5 (wI (a8 + 1)) := hM40
      have iM40 : I n M40 := wr_Told_5 iM32 rfl ⟨by omega, by omega⟩ hM40
      have kM40 : Keep n W_X6_addBytes Me M40 := kM32.st hM40 (Or.inl (Or.inr ⟨rfl, rfl⟩))
      obtain ⟨svM40, esvM40⟩ : ∃ z, z = (wI (a8 + 1)) := ⟨_, rfl⟩
      have w6_ := wI_id (x := (l2 + (-8))) (by omega) (by omega)
      exact hk3 _ _ _ ⟨by omega, by omega⟩ ⟨by omega, by omega⟩ (by omega) iM40 kM40
theorem s_X6_addBytes_3 {n : Nat} {Me : Mem} : ∀ (fu : Nat) (l1 l2 : Int) (M : Mem), ((-2147483648) ≤ l1 ∧ l1 ≤ 2147483647) → ((-8) ≤ l2 ∧ l2 ≤ 24) → l2 - (-9) < (fu : Int) → I n M → Keep n W_X6_addBytes Me M → wp (mX6_addBytes_3 fu 3 l1 l2 M) (fun q => I n q.2 ∧ Keep n W_X6_addBytes Me q.2 ∧ True) := by
  intro fu
  induction fu with
  | zero =>
    intro l1 l2 M r_l1 r_l2 hf iM kM
    exfalso
    omega
  | succ fu ih =>
    intro l1 l2 M r_l1 r_l2 hf iM kM
    exact sb_X6_addBytes_3 ih r_l1 r_l2 (by have e : ((fu + 1 : Nat) : Int) = (fu : Int) + 1 := rfl; rw [e] at hf; exact hf) iM kM
theorem s_X6_addBytes {n : Nat} {l1 : Int} {M : Mem} (r_l1 : (-2147483648) ≤ l1 ∧ l1 ≤ 2147483647) (iM : I n M) : wp (mX6_addBytes 3 l1 M) (fun q => I n q.2 ∧ Keep n W_X6_addBytes M q.2 ∧ True) := by
  have hn : (169 : Int) ≤ (n : Int) := by have := iM.2.2.2.2.1; omega
  have kM : Keep n W_X6_addBytes M M := Keep.rf
  unfold mX6_addBytes
  exact s_X6_addBytes_3 FU _ _ _ ⟨by omega, by omega⟩ ⟨by omega, by omega⟩ (by show _ < (70000 : Int); omega) iM kM
def W_X8_feed (b j : Int) : Prop := b = 13 ∨ (b = 3 ∧ j = 5)
theorem s_X8_feed {n : Nat} {l1 l2 l3 l4 l5 : Int} {M : Mem} (r_l1 : (-2147483648) ≤ l1 ∧ l1 ≤ 2147483647) (r_l2 : (-2147483648) ≤ l2 ∧ l2 ≤ 2147483647) (r_l3 : (-2147483648) ≤ l3 ∧ l3 ≤ 2147483647) (r_l4 : (-2147483648) ≤ l4 ∧ l4 ≤ 2147483647) (r_l5 : (-2147483648) ≤ l5 ∧ l5 ≤ 2147483647) (iM : I n M) : wp (mX8_feed 1 l1 l2 l3 l4 l5 M) (fun q => I n q.2 ∧ Keep n W_X8_feed M q.2 ∧ ((-1) ≤ q.1 ∧ q.1 ≤ 400) ∧ True) := by
  have hn : (169 : Int) ≤ (n : Int) := by have := iM.2.2.2.2.1; omega
  have kM : Keep n W_X8_feed M M := Keep.rf
  unfold mX8_feed
  refine w_gFc (ji := 1) rfl (congrArg Prod.fst (kl_1 iM)) (show mG M 1 1 = 3 from rd_VS_1 iM (a := 1) rfl) ?_
  refine w_gF (ji := 5) rfl (congrArg Prod.fst (kl_3 iM)) (fun a4 ha4 => ?_)
  have ra4 : 0 ≤ a4 ∧ a4 ≤ 400 := ha4.tr (P := fun z => 0 ≤ z ∧ z ≤ 400) (rd_Told_5 iM rfl)
  have w1_ := wI_id (x := (a4 + 20)) (by omega) (by omega)
  refine w_if (fun c2_ => ?_) (fun c2_ => ?_)
  · skip
    refine w_gFc (ji := 1) rfl (congrArg Prod.fst (kl_1 iM)) (show mG M 1 1 = 3 from rd_VS_1 iM (a := 1) rfl) ?_
    refine w_gK (congrArg Prod.fst (kl_3 iM)) ?_
    refine w_call (s_X6_addBytes ⟨by omega, by omega⟩ iM) ?_
    intro v23 m23 pp23
    obtain ⟨im23, kk23, -⟩ := pp23
    try dsimp only
    replace im23 : I n m23 := im23
    replace kk23 : Keep n W_X6_addBytes M m23 := kk23
    have km23 : Keep n W_X8_feed M m23 := kM.tr kk23 (fun b j z => Or.elim z (fun z => (Or.inl z)) (fun z => (Or.inr z)))
    refine w_gFc (ji := 1) rfl (congrArg Prod.fst (kl_1 im23)) (show mG m23 1 1 = 3 from rd_VS_1 im23 (a := 1) rfl) ?_
    refine w_gK (congrArg Prod.fst (kl_3 im23)) ?_
    refine w_call (s_X6_addBytes ⟨by omega, by omega⟩ im23) ?_
    intro v31 m31 pp31
    obtain ⟨im31, kk31, -⟩ := pp31
    try dsimp only
    replace im31 : I n m31 := im31
    replace kk31 : Keep n W_X6_addBytes m23 m31 := kk31
    have km31 : Keep n W_X8_feed M m31 := km23.tr kk31 (fun b j z => Or.elim z (fun z => (Or.inl z)) (fun z => (Or.inr z)))
    refine w_gFc (ji := 1) rfl (congrArg Prod.fst (kl_1 im31)) (show mG m31 1 1 = 3 from rd_VS_1 im31 (a := 1) rfl) ?_
    refine w_gK (congrArg Prod.fst (kl_3 im31)) ?_
    refine w_call (s_X6_addBytes ⟨by omega, by omega⟩ im31) ?_
    intro v39 m39 pp39
    obtain ⟨im39, kk39, -⟩ := pp39
    try dsimp only
    replace im39 : I n m39 := im39
    replace kk39 : Keep n W_X6_addBytes m31 m39 := kk39
    have km39 : Keep n W_X8_feed M m39 := km31.tr kk39 (fun b j z => Or.elim z (fun z => (Or.inl z)) (fun z => (Or.inr z)))
    refine w_gFc (ji := 1) rfl (congrArg Prod.fst (kl_1 im39)) (show mG m39 1 1 = 3 from rd_VS_1 im39 (a := 1) rfl) ?_
    refine w_gK (congrArg Prod.fst (kl_3 im39)) ?_
    refine w_call (s_X6_addBytes ⟨by omega, by omega⟩ im39) ?_
    intro v48 m48 pp48
    obtain ⟨im48, kk48, -⟩ := pp48
    try dsimp only
    replace im48 : I n m48 := im48
    replace kk48 : Keep n W_X6_addBytes m39 m48 := kk48
    have km48 : Keep n W_X8_feed M m48 := km39.tr kk48 (fun b j z => Or.elim z (fun z => (Or.inl z)) (fun z => (Or.inr z)))
    refine w_gFc (ji := 1) rfl (congrArg Prod.fst (kl_1 im48)) (show mG m48 1 1 = 3 from rd_VS_1 im48 (a := 1) rfl) ?_
    refine w_gK (congrArg Prod.fst (kl_3 im48)) ?_
    refine w_call (s_X6_addBytes ⟨by omega, by omega⟩ im48) ?_
    intro v57 m57 pp57
    obtain ⟨im57, kk57, -⟩ := pp57
    try dsimp only
    replace im57 : I n m57 := im57
    replace kk57 : Keep n W_X6_addBytes m48 m57 := kk57
    have km57 : Keep n W_X8_feed M m57 := km48.tr kk57 (fun b j z => Or.elim z (fun z => (Or.inl z)) (fun z => (Or.inr z)))
    refine w_gFc (ji := 1) rfl (congrArg Prod.fst (kl_1 im57)) (show mG m57 1 1 = 3 from rd_VS_1 im57 (a := 1) rfl) ?_
    refine w_gF (ji := 5) rfl (congrArg Prod.fst (kl_3 im57)) (fun a64 ha64 => ?_)
    have ra64 : 0 ≤ a64 ∧ a64 ≤ 400 := ha64.tr (P := fun z => 0 ≤ z ∧ z ≤ 400) (rd_Told_5 im57 rfl)
    exact w_ret ⟨im57, km57, (show (-1) ≤ a64 ∧ a64 ≤ 400 from ⟨by omega, by omega⟩), trivial⟩
  · skip
    exact w_ret ⟨iM, kM, (show (-1) ≤ (-1) ∧ (-1) ≤ 400 from ⟨by omega, by omega⟩), trivial⟩
def W_X8_end (b j : Int) : Prop := (b = 3 ∧ j = 5)
theorem s_X8_end {n : Nat} {l1 : Int} {M : Mem} (r_l1 : (-2147483648) ≤ l1 ∧ l1 ≤ 2147483647) (iM : I n M) : wp (mX8_end 1 l1 M) (fun q => I n q.2 ∧ Keep n W_X8_end M q.2 ∧ ((-1) ≤ q.1 ∧ q.1 ≤ 400) ∧ True) := by
  have hn : (169 : Int) ≤ (n : Int) := by have := iM.2.2.2.2.1; omega
  have kM : Keep n W_X8_end M M := Keep.rf
  unfold mX8_end
  refine w_if (fun c1_ => ?_) (fun c1_ => ?_)
  · skip
    exact w_ret ⟨iM, kM, (show (-1) ≤ (-1) ∧ (-1) ≤ 400 from ⟨by omega, by omega⟩), trivial⟩
  · skip
    refine w_gFc (ji := 1) rfl (congrArg Prod.fst (kl_1 iM)) (show mG M 1 1 = 3 from rd_VS_1 iM (a := 1) rfl) ?_
    refine w_gF (ji := 5) rfl (congrArg Prod.fst (kl_3 iM)) (fun a9 ha9 => ?_)
    have ra9 : 0 ≤ a9 ∧ a9 ≤ 400 := ha9.tr (P := fun z => 0 ≤ z ∧ z ≤ 400) (rd_Told_5 iM rfl)
    refine w_if (fun c2_ => ?_) (fun c2_ => ?_)
    · skip
      refine w_gFc (ji := 1) rfl (congrArg Prod.fst (kl_1 iM)) (show mG M 1 1 = 3 from rd_VS_1 iM (a := 1) rfl) ?_
      refine w_pF (ji := 5) rfl (congrArg Prod.fst (kl_3 iM)) (fun M22 hM22 => ?_)
      replace hM22 : M22 = mS M 3 5 l1 := hM22
      have iM22 : I n M22 := wr_Told_5 iM rfl ⟨by omega, by omega⟩ hM22
      have kM22 : Keep n W_X8_end M M22 := kM.st hM22 (Or.inl ⟨rfl, rfl⟩)
      exact w_ret ⟨iM22, kM22, (show (-1) ≤ l1 ∧ l1 ≤ 400 from ⟨by omega, by omega⟩), trivial⟩
    · skip
      exact w_ret ⟨iM, kM, (show (-1) ≤ (-1) ∧ (-1) ≤ 400 from ⟨by omega, by omega⟩), trivial⟩
def W_X6_clearTape (b j : Int) : Prop := (b = 3 ∧ j = 5) ∨ (b = 3 ∧ j = 6) ∨ (b = 3 ∧ j = 7)
theorem s_X6_clearTape {n : Nat} {M : Mem} (iM : I n M) : wp (mX6_clearTape 3 M) (fun q => I n q.2 ∧ Keep n W_X6_clearTape M q.2 ∧ True) := by
  have hn : (169 : Int) ≤ (n : Int) := by have := iM.2.2.2.2.1; omega
  have kM : Keep n W_X6_clearTape M M := Keep.rf
  unfold mX6_clearTape
  refine w_pF (ji := 5) rfl (congrArg Prod.fst (kl_3 iM)) (fun M2 hM2 => ?_)
  replace hM2 : M2 = mS M 3 5 0 := hM2
  have iM2 : I n M2 := wr_Told_5 iM rfl ⟨by omega, by omega⟩ hM2
  have kM2 : Keep n W_X6_clearTape M M2 := kM.st hM2 (Or.inl (Or.inl ⟨rfl, rfl⟩))
  refine w_pF (ji := 6) rfl (congrArg Prod.fst (kl_3 iM2)) (fun M7 hM7 => ?_)
  replace hM7 : M7 = mS M2 3 6 0 := hM7
  have iM7 : I n M7 := wr_Told_6 iM2 rfl ⟨by omega, by omega⟩ hM7
  have kM7 : Keep n W_X6_clearTape M M7 := kM2.st hM7 (Or.inl (Or.inr (Or.inl ⟨rfl, rfl⟩)))
  refine w_pF (ji := 7) rfl (congrArg Prod.fst (kl_3 iM7)) (fun M12 hM12 => ?_)
  replace hM12 : M12 = mS M7 3 7 (-1) := hM12
  have iM12 : I n M12 := wr_Told_7 iM7 rfl ⟨by omega, by omega⟩ hM12
  have kM12 : Keep n W_X6_clearTape M M12 := kM7.st hM12 (Or.inl (Or.inr (Or.inr ⟨rfl, rfl⟩)))
  exact w_ret ⟨iM12, kM12, trivial⟩
def W_X2_expectPart (b j : Int) : Prop := b = 72 ∨ (b = 65 ∧ j = 7)
theorem s_X2_expectPart {n : Nat} {l1 : Int} {M : Mem} (r_l1 : (-2147483648) ≤ l1 ∧ l1 ≤ 2147483647) (p_RR : RR M) (iM : I n M) : wp (mX2_expectPart 65 l1 M) (fun q => I n q.2 ∧ Keep n W_X2_expectPart M q.2 ∧ True) := by
  have hn : (169 : Int) ≤ (n : Int) := by have := iM.2.2.2.2.1; omega
  have kM : Keep n W_X2_expectPart M M := Keep.rf
  unfold mX2_expectPart
  refine w_gF (ji := 7) rfl (congrArg Prod.fst (kl_65 iM)) (fun a1 ha1 => ?_)
  have ra1 : 0 ≤ a1 ∧ a1 ≤ 402 := ha1.tr (P := fun z => 0 ≤ z ∧ z ≤ 402) (rd_Reader_7 iM rfl)
  refine w_gFc (ji := 6) rfl (congrArg Prod.fst (kl_65 iM)) (show mG M 65 6 = 72 from rd_Reader_6 iM (a := 65) rfl) ?_
  refine w_aL (kl_72 iM) (fun a8 ha8 => ?_)
  refine w_if (fun c1_ => ?_) (fun c1_ => ?_)
  · skip
    exact w_ret ⟨iM, kM, trivial⟩
  · skip
    refine w_gFc (ji := 6) rfl (congrArg Prod.fst (kl_65 iM)) (show mG M 65 6 = 72 from rd_Reader_6 iM (a := 65) rfl) ?_
    refine w_gFc (ji := 7) rfl (congrArg Prod.fst (kl_65 iM)) (show mG M 65 7 = a1 from (show mG M 65 7 = a1 from ha1)) ?_
    refine w_aS (kl_72 iM) (by omega) (by omega) (fun M21 hM21 => ?_)
    replace hM21 : M21 = mS M 72 a1 l1 := hM21
    have iM21 : I n M21 := wr_Rscopes iM rfl ⟨by omega, by omega⟩ hM21
    have kM21 : Keep n W_X2_expectPart M M21 := kM.st hM21 (Or.inl (Or.inl rfl))
    refine w_gFc (ji := 7) rfl (congrArg Prod.fst (kl_65 iM21)) (show mG M21 65 7 = a1 from ((st_ne hM21 (fun z => ne_fam rfl rfl (by decide) z.1)).trans (show mG M 65 7 = a1 from ha1))) ?_
    have w2_ := wI_id (x := (a1 + 1)) (by omega) (by omega)
    refine w_pF (ji := 7) rfl (congrArg Prod.fst (kl_65 iM21)) (fun M29 hM29 => ?_)
    replace hM29 : M29 = mS M21 65 7 (wI (a1 + 1)) := hM29
    have iM29 : I n M29 := wr_Reader_7 iM21 rfl ⟨by omega, by omega⟩ hM29
    have kM29 : Keep n W_X2_expectPart M M29 := kM21.st hM29 (Or.inl (Or.inr ⟨rfl, rfl⟩))
    obtain ⟨svM29, esvM29⟩ : ∃ z, z = (wI (a1 + 1)) := ⟨_, rfl⟩
    exact w_ret ⟨iM29, kM29, trivial⟩
def W_X2_isLetter (b j : Int) : Prop := False
theorem s_X2_isLetter {n : Nat} {l1 : Int} {M : Mem} (r_l1 : 0 ≤ l1 ∧ l1 ≤ 399) (p_RR : RR M) (iM : I n M) : wp (mX2_isLetter 65 l1 M) (fun q => I n q.2 ∧ Keep n W_X2_isLetter M q.2 ∧ (0 ≤ q.1 ∧ q.1 ≤ 1) ∧ (q.1 = 1 → l1 ≤ 399) ∧ True) := by
  have hn : (169 : Int) ≤ (n : Int) := by have := iM.2.2.2.2.1; omega
  have kM : Keep n W_X2_isLetter M M := Keep.rf
  unfold mX2_isLetter
  refine w_gF (ji := 2) rfl (congrArg Prod.fst (kl_65 iM)) (fun a2 ha2 => ?_)
  have ra2 : 0 ≤ a2 ∧ a2 ≤ 400 := ha2.tr (P := fun z => 0 ≤ z ∧ z ≤ 400) (rd_Reader_2 iM rfl)
  refine w_if (fun c1_ => ?_) (fun c1_ => ?_)
  · skip
    exact w_ret ⟨iM, kM, (show 0 ≤ 0 ∧ 0 ≤ 1 from ⟨by omega, by omega⟩), (show 0 = 1 → l1 ≤ 399 from fun z => by omega), trivial⟩
  · skip
    refine w_gFc (ji := 1) rfl (congrArg Prod.fst (kl_65 iM)) p_RR.2.1 ?_
    refine w_aG (kl_13 iM) (by omega) (by omega) (fun a13 ha13 => ?_)
    have ra13 : 0 ≤ a13 ∧ a13 ≤ 255 := ha13.tr (P := fun z => 0 ≤ z ∧ z ≤ 255) (rd_Ttape iM rfl)
    refine w_if (fun c2_ => ?_) (fun c2_ => ?_)
    · skip
      exact w_ret ⟨iM, kM, (show 0 ≤ 0 ∧ 0 ≤ 1 from ⟨by omega, by omega⟩), (show 0 = 1 → l1 ≤ 399 from fun z => by omega), trivial⟩
    · skip
      refine w_gFc (ji := 1) rfl (congrArg Prod.fst (kl_65 iM)) p_RR.2.1 ?_
      refine w_aGc (kl_13 iM) (by omega) (by omega) (show mG M 13 l1 = a13 from (show mG M 13 l1 = a13 from ha13)) ?_
      refine w_if (fun c3_ => ?_) (fun c3_ => ?_)
      · skip
        exact w_ret ⟨iM, kM, (show 0 ≤ 0 ∧ 0 ≤ 1 from ⟨by omega, by omega⟩), (show 0 = 1 → l1 ≤ 399 from fun z => by omega), trivial⟩
      · skip
        exact w_ret ⟨iM, kM, (show 0 ≤ 1 ∧ 1 ≤ 1 from ⟨by omega, by omega⟩), (show 1 = 1 → l1 ≤ 399 from fun z => by omega), trivial⟩
def W_X2_isDigit (b j : Int) : Prop := False
theorem s_X2_isDigit {n : Nat} {l1 : Int} {M : Mem} (r_l1 : 0 ≤ l1 ∧ l1 ≤ 400) (p_RR : RR M) (iM : I n M) : wp (mX2_isDigit 65 l1 M) (fun q => I n q.2 ∧ Keep n W_X2_isDigit M q.2 ∧ (0 ≤ q.1 ∧ q.1 ≤ 1) ∧ (q.1 = 1 → l1 ≤ 399) ∧ True) := by
  have hn : (169 : Int) ≤ (n : Int) := by have := iM.2.2.2.2.1; omega
  have kM : Keep n W_X2_isDigit M M := Keep.rf
  unfold mX2_isDigit
  refine w_gF (ji := 2) rfl (congrArg Prod.fst (kl_65 iM)) (fun a2 ha2 => ?_)
  have ra2 : 0 ≤ a2 ∧ a2 ≤ 400 := ha2.tr (P := fun z => 0 ≤ z ∧ z ≤ 400) (rd_Reader_2 iM rfl)
  refine w_if (fun c1_ => ?_) (fun c1_ => ?_)
  · skip
    exact w_ret ⟨iM, kM, (show 0 ≤ 0 ∧ 0 ≤ 1 from ⟨by omega, by omega⟩), (show 0 = 1 → l1 ≤ 399 from fun z => by omega), trivial⟩
  · skip
    refine w_gFc (ji := 1) rfl (congrArg Prod.fst (kl_65 iM)) p_RR.2.1 ?_
    refine w_aG (kl_13 iM) (by omega) (by omega) (fun a13 ha13 => ?_)
    have ra13 : 0 ≤ a13 ∧ a13 ≤ 255 := ha13.tr (P := fun z => 0 ≤ z ∧ z ≤ 255) (rd_Ttape iM rfl)
    refine w_if (fun c2_ => ?_) (fun c2_ => ?_)
    · skip
      exact w_ret ⟨iM, kM, (show 0 ≤ 0 ∧ 0 ≤ 1 from ⟨by omega, by omega⟩), (show 0 = 1 → l1 ≤ 399 from fun z => by omega), trivial⟩
    · skip
      refine w_gFc (ji := 1) rfl (congrArg Prod.fst (kl_65 iM)) p_RR.2.1 ?_
      refine w_aGc (kl_13 iM) (by omega) (by omega) (show mG M 13 l1 = a13 from (show mG M 13 l1 = a13 from ha13)) ?_
      refine w_if (fun c3_ => ?_) (fun c3_ => ?_)
      · skip
        exact w_ret ⟨iM, kM, (show 0 ≤ 0 ∧ 0 ≤ 1 from ⟨by omega, by omega⟩), (show 0 = 1 → l1 ≤ 399 from fun z => by omega), trivial⟩
      · skip
        exact w_ret ⟨iM, kM, (show 0 ≤ 1 ∧ 1 ≤ 1 from ⟨by omega, by omega⟩), (show 1 = 1 → l1 ≤ 399 from fun z => by omega), trivial⟩
def W_X2_advance (b j : Int) : Prop := (b = 65 ∧ j = 10) ∨ (b = 65 ∧ j = 11) ∨ (b = 65 ∧ j = 8) ∨ (b = 65 ∧ j = 9)
theorem sb_X2_advance_151 {n : Nat} {Me : Mem} {k151 : Int → Mem → Option (Int × Mem)} {fu151 : Nat} (hk151 : ∀ (M : Mem), (mG M 65 10 ≤ 400) → (RR M) → 401 - mG M 65 10 < (fu151 : Int) → I n M → Keep n W_X2_advance Me M → wp (k151 65 M) (fun q => I n q.2 ∧ Keep n W_X2_advance Me q.2 ∧ True)) {M : Mem} (y0 : mG M 65 10 ≤ 400) (p_RR : RR M) (hf151 : 401 - mG M 65 10 < (fu151 : Int) + 1) (iM : I n M) (kM : Keep n W_X2_advance Me M) : wp (bX2_advance_151 k151 65 M) (fun q => I n q.2 ∧ Keep n W_X2_advance Me q.2 ∧ True) := by
  have hn : (169 : Int) ≤ (n : Int) := by have := iM.2.2.2.2.1; omega
  obtain ⟨nh0, enh0⟩ : ∃ v, Is (mG M 65 10) v := ⟨_, rfl⟩
  have rnh0 : 0 ≤ nh0 ∧ nh0 ≤ 400 := by rw [← enh0.e]; exact rd_Reader_10 iM rfl
  (try rw [enh0.e] at y0); (try rw [enh0.e] at hf151)
  unfold bX2_advance_151
  refine w_gFc (ji := 10) rfl (congrArg Prod.fst (kl_65 iM)) (show mG M 65 10 = nh0 from (show mG M 65 10 = nh0 from enh0)) ?_
  refine w_gF (ji := 9) rfl (congrArg Prod.fst (kl_65 iM)) (fun a156 ha156 => ?_)
  have ra156 : 0 ≤ a156 ∧ a156 ≤ 400 := ha156.tr (P := fun z => 0 ≤ z ∧ z ≤ 400) (rd_Reader_9 iM rfl)
  have w1_ := wI_id (x := (nh0 - a156)) (by omega) (by omega)
  refine w_if (fun c2_ => ?_) (fun c2_ => ?_)
  · skip
    exact w_ret ⟨iM, kM, trivial⟩
  · skip
    refine w_gFc (ji := 10) rfl (congrArg Prod.fst (kl_65 iM)) (show mG M 65 10 = nh0 from (show mG M 65 10 = nh0 from enh0)) ?_
    refine w_gK (congrArg Prod.fst (kl_65 iM)) ?_
    refine w_call (s_X2_isDigit ⟨by omega, by omega⟩ p_RR iM) ?_
    intro v169 m169 pp169
    obtain ⟨im169, kk169, e169_0, e169_1, -⟩ := pp169
    try dsimp only
    replace im169 : I n m169 := im169
    replace kk169 : Keep n W_X2_isDigit M m169 := kk169
    have km169 : Keep n W_X2_advance Me m169 := kM.tr kk169 (fun b j z => z.elim)
    replace e169_0 : 0 ≤ v169 ∧ v169 ≤ 1 := e169_0
    replace e169_1 : v169 = 1 → nh0 ≤ 399 := e169_1
    refine w_if (fun c3_ => ?_) (fun c3_ => ?_)
    · skip
      exact w_ret ⟨im169, km169, trivial⟩
    · skip
      refine w_gF (ji := 11) rfl (congrArg Prod.fst (kl_65 im169)) (fun a179 ha179 => ?_)
      have ra179 : (-2147483648) ≤ a179 ∧ a179 ≤ 2147483647 := ha179.tr (P := fun z => (-2147483648) ≤ z ∧ z ≤ 2147483647) (rd_Reader_11 im169 rfl)
      have ppRR_m169 : RR m169 := (RR_of p_RR (kk169.2.2 65 0 (by omega) (fun z => z)) (kk169.2.2 65 1 (by omega) (fun z => z)) (kk169.2.2 65 3 (by omega) (fun z => z)))
      refine w_gFc (ji := 1) rfl (congrArg Prod.fst (kl_65 im169)) ppRR_m169.2.1 ?_
      refine w_gFc (ji := 10) rfl (congrArg Prod.fst (kl_65 im169)) (show mG m169 65 10 = nh0 from ((kk169.2.2 65 10 (by omega) (fun z => z)).trans (show mG M 65 10 = nh0 from enh0))) ?_
      refine w_aG (kl_13 im169) (by omega) (by omega) (fun a191 ha191 => ?_)
      have ra191 : 0 ≤ a191 ∧ a191 ≤ 255 := ha191.tr (P := fun z => 0 ≤ z ∧ z ≤ 255) (rd_Ttape im169 rfl)
      have w4_ := And.intro (wI_lo (10 * a179)) (wI_hi (10 * a179))
      have w5_ := And.intro (wI_lo ((wI (10 * a179)) + a191)) (wI_hi ((wI (10 * a179)) + a191))
      have w6_ := And.intro (wI_lo ((wI ((wI (10 * a179)) + a191)) - 48)) (wI_hi ((wI ((wI (10 * a179)) + a191)) - 48))
      refine w_pF (ji := 11) rfl (congrArg Prod.fst (kl_65 im169)) (fun M196 hM196 => ?_)
      replace hM196 : M196 = mS m169 65 11 (wI ((wI ((wI (10 * a179)) + a191)) - 48)) := hM196
      have iM196 : I n M196 := wr_Reader_11 im169 rfl ⟨by omega, by omega⟩ hM196
      have kM196 : Keep n W_X2_advance Me M196 := km169.st hM196 (Or.inl (Or.inr (Or.inl ⟨rfl, rfl⟩)))
      obtain ⟨svM196, esvM196⟩ : ∃ z, z = (wI ((wI ((wI (10 * a179)) + a191)) - 48)) := ⟨_, rfl⟩
      refine w_gFc (ji := 10) rfl (congrArg Prod.fst (kl_65 iM196)) (show mG M196 65 10 = nh0 from ((st_ne hM196 (fun z => absurd z.2 (by decide))).trans ((kk169.2.2 65 10 (by omega) (fun z => z)).trans (show mG M 65 10 = nh0 from enh0)))) ?_
      have w7_ := wI_id (x := (nh0 + 1)) (by omega) (by omega)
      refine w_pF (ji := 10) rfl (congrArg Prod.fst (kl_65 iM196)) (fun M206 hM206 => ?_)
      replace hM206 : M206 = mS M196 65 10 (wI (nh0 + 1)) := hM206
      have iM206 : I n M206 := wr_Reader_10 iM196 rfl ⟨by omega, by omega⟩ hM206
      have kM206 : Keep n W_X2_advance Me M206 := kM196.st hM206 (Or.inl (Or.inl ⟨rfl, rfl⟩))
      obtain ⟨svM206, esvM206⟩ : ∃ z, z = (wI (nh0 + 1)) := ⟨_, rfl⟩
      have ppRR_M206 : RR M206 := (RR_of (RR_of ppRR_m169 (st_ne hM196 (fun z => absurd z.2 (by decide))) (st_ne hM196 (fun z => absurd z.2 (by decide))) (st_ne hM196 (fun z => absurd z.2 (by decide)))) (st_ne hM206 (fun z => absurd z.2 (by decide))) (st_ne hM206 (fun z => absurd z.2 (by decide))) (st_ne hM206 (fun z => absurd z.2 (by decide))))
      exact hk151 _ (by (try rw [(show mG M206 65 10 = svM206 from (show mG M206 65 10 = svM206 from ((st_eq hM206).trans esvM206.symm)))]); all_goals omega) ppRR_M206 (by rw [(show mG M206 65 10 = svM206 from (show mG M206 65 10 = svM206 from ((st_eq hM206).trans esvM206.symm)))]; omega) iM206 kM206
theorem s_X2_advance_151 {n : Nat} {Me : Mem} : ∀ (fu : Nat) (M : Mem), (mG M 65 10 ≤ 400) → (RR M) → 401 - mG M 65 10 < (fu : Int) → I n M → Keep n W_X2_advance Me M → wp (mX2_advance_151 fu 65 M) (fun q => I n q.2 ∧ Keep n W_X2_advance Me q.2 ∧ True) := by
  intro fu
  induction fu with
  | zero =>
    intro  M y0 p_RR hf iM kM
    exfalso
    have z := rdf iM (a := 65) (j := 10) (f := 34) rfl
    have z : 0 ≤ mG M 65 10 ∧ mG M 65 10 ≤ 400 := z
    omega
  | succ fu ih =>
    intro  M y0 p_RR hf iM kM
    exact sb_X2_advance_151 ih y0 p_RR (by have e : ((fu + 1 : Nat) : Int) = (fu : Int) + 1 := rfl; rw [e] at hf; exact hf) iM kM
theorem sb_X2_advance_100 {n : Nat} {Me : Mem} {k100 : Int → Mem → Option (Int × Mem)} {fu100 : Nat} (hk100 : ∀ (M : Mem), (mG M 65 10 ≤ 400) → (RR M) → 401 - mG M 65 10 < (fu100 : Int) → I n M → Keep n W_X2_advance Me M → wp (k100 65 M) (fun q => I n q.2 ∧ Keep n W_X2_advance Me q.2 ∧ True)) {M : Mem} (y0 : mG M 65 10 ≤ 400) (p_RR : RR M) (hf100 : 401 - mG M 65 10 < (fu100 : Int) + 1) (iM : I n M) (kM : Keep n W_X2_advance Me M) : wp (bX2_advance_100 k100 65 M) (fun q => I n q.2 ∧ Keep n W_X2_advance Me q.2 ∧ True) := by
  have hn : (169 : Int) ≤ (n : Int) := by have := iM.2.2.2.2.1; omega
  obtain ⟨nh0, enh0⟩ : ∃ v, Is (mG M 65 10) v := ⟨_, rfl⟩
  have rnh0 : 0 ≤ nh0 ∧ nh0 ≤ 400 := by rw [← enh0.e]; exact rd_Reader_10 iM rfl
  (try rw [enh0.e] at y0); (try rw [enh0.e] at hf100)
  unfold bX2_advance_100
  refine w_gFc (ji := 10) rfl (congrArg Prod.fst (kl_65 iM)) (show mG M 65 10 = nh0 from (show mG M 65 10 = nh0 from enh0)) ?_
  refine w_gF (ji := 2) rfl (congrArg Prod.fst (kl_65 iM)) (fun a105 ha105 => ?_)
  have ra105 : 0 ≤ a105 ∧ a105 ≤ 400 := ha105.tr (P := fun z => 0 ≤ z ∧ z ≤ 400) (rd_Reader_2 iM rfl)
  refine w_if (fun c1_ => ?_) (fun c1_ => ?_)
  · skip
    exact w_ret ⟨iM, kM, trivial⟩
  · skip
    refine w_gFc (ji := 10) rfl (congrArg Prod.fst (kl_65 iM)) (show mG M 65 10 = nh0 from (show mG M 65 10 = nh0 from enh0)) ?_
    refine w_gK (congrArg Prod.fst (kl_65 iM)) ?_
    refine w_call (s_X2_isLetter ⟨by omega, by omega⟩ p_RR iM) ?_
    intro v116 m116 pp116
    obtain ⟨im116, kk116, e116_0, e116_1, -⟩ := pp116
    try dsimp only
    replace im116 : I n m116 := im116
    replace kk116 : Keep n W_X2_isLetter M m116 := kk116
    have km116 : Keep n W_X2_advance Me m116 := kM.tr kk116 (fun b j z => z.elim)
    replace e116_0 : 0 ≤ v116 ∧ v116 ≤ 1 := e116_0
    replace e116_1 : v116 = 1 → nh0 ≤ 399 := e116_1
    refine w_if (fun c2_ => ?_) (fun c2_ => ?_)
    · skip
      exact w_ret ⟨im116, km116, trivial⟩
    · skip
      refine w_gFc (ji := 10) rfl (congrArg Prod.fst (kl_65 im116)) (show mG m116 65 10 = nh0 from ((kk116.2.2 65 10 (by omega) (fun z => z)).trans (show mG M 65 10 = nh0 from enh0))) ?_
      have w3_ := wI_id (x := (nh0 + 1)) (by omega) (by omega)
      refine w_pF (ji := 10) rfl (congrArg Prod.fst (kl_65 im116)) (fun M129 hM129 => ?_)
      replace hM129 : M129 = mS m116 65 10 (wI (nh0 + 1)) := hM129
      have iM129 : I n M129 := wr_Reader_10 im116 rfl ⟨by omega, by omega⟩ hM129
      have kM129 : Keep n W_X2_advance Me M129 := km116.st hM129 (Or.inl (Or.inl ⟨rfl, rfl⟩))
      obtain ⟨svM129, esvM129⟩ : ∃ z, z = (wI (nh0 + 1)) := ⟨_, rfl⟩
      have ppRR_M129 : RR M129 := (RR_of (RR_of p_RR (kk116.2.2 65 0 (by omega) (fun z => z)) (kk116.2.2 65 1 (by omega) (fun z => z)) (kk116.2.2 65 3 (by omega) (fun z => z))) (st_ne hM129 (fun z => absurd z.2 (by decide))) (st_ne hM129 (fun z => absurd z.2 (by decide))) (st_ne hM129 (fun z => absurd z.2 (by decide))))
      exact hk100 _ (by (try rw [(show mG M129 65 10 = svM129 from (show mG M129 65 10 = svM129 from ((st_eq hM129).trans esvM129.symm)))]); all_goals omega) ppRR_M129 (by rw [(show mG M129 65 10 = svM129 from (show mG M129 65 10 = svM129 from ((st_eq hM129).trans esvM129.symm)))]; omega) iM129 kM129
theorem s_X2_advance_100 {n : Nat} {Me : Mem} : ∀ (fu : Nat) (M : Mem), (mG M 65 10 ≤ 400) → (RR M) → 401 - mG M 65 10 < (fu : Int) → I n M → Keep n W_X2_advance Me M → wp (mX2_advance_100 fu 65 M) (fun q => I n q.2 ∧ Keep n W_X2_advance Me q.2 ∧ True) := by
  intro fu
  induction fu with
  | zero =>
    intro  M y0 p_RR hf iM kM
    exfalso
    have z := rdf iM (a := 65) (j := 10) (f := 34) rfl
    have z : 0 ≤ mG M 65 10 ∧ mG M 65 10 ≤ 400 := z
    omega
  | succ fu ih =>
    intro  M y0 p_RR hf iM kM
    exact sb_X2_advance_100 ih y0 p_RR (by have e : ((fu + 1 : Nat) : Int) = (fu : Int) + 1 := rfl; rw [e] at hf; exact hf) iM kM
theorem s_X2_advance_52 {n : Nat} {Me : Mem} {M : Mem} (p_RR : RR M) (iM : I n M) (kM : Keep n W_X2_advance Me M) : wp (mX2_advance_52 65 M) (fun q => I n q.2 ∧ Keep n W_X2_advance Me q.2 ∧ True) := by
  have hn : (169 : Int) ≤ (n : Int) := by have := iM.2.2.2.2.1; omega
  unfold mX2_advance_52
  refine w_gF (ji := 10) rfl (congrArg Prod.fst (kl_65 iM)) (fun a54 ha54 => ?_)
  have ra54 : 0 ≤ a54 ∧ a54 ≤ 400 := ha54.tr (P := fun z => 0 ≤ z ∧ z ≤ 400) (rd_Reader_10 iM rfl)
  refine w_pF (ji := 9) rfl (congrArg Prod.fst (kl_65 iM)) (fun M57 hM57 => ?_)
  replace hM57 : M57 = mS M 65 9 a54 := hM57
  have iM57 : I n M57 := wr_Reader_9 iM rfl ⟨by omega, by omega⟩ hM57
  have kM57 : Keep n W_X2_advance Me M57 := kM.st hM57 (Or.inl (Or.inr (Or.inr (Or.inr ⟨rfl, rfl⟩))))
  refine w_pF (ji := 11) rfl (congrArg Prod.fst (kl_65 iM57)) (fun M62 hM62 => ?_)
  replace hM62 : M62 = mS M57 65 11 0 := hM62
  have iM62 : I n M62 := wr_Reader_11 iM57 rfl ⟨by omega, by omega⟩ hM62
  have kM62 : Keep n W_X2_advance Me M62 := kM57.st hM62 (Or.inl (Or.inr (Or.inl ⟨rfl, rfl⟩)))
  refine w_gFc (ji := 10) rfl (congrArg Prod.fst (kl_65 iM62)) (show mG M62 65 10 = a54 from ((st_ne hM62 (fun z => absurd z.2 (by decide))).trans ((st_ne hM57 (fun z => absurd z.2 (by decide))).trans (show mG M 65 10 = a54 from ha54)))) ?_
  refine w_gF (ji := 2) rfl (congrArg Prod.fst (kl_65 iM62)) (fun a70 ha70 => ?_)
  have ra70 : 0 ≤ a70 ∧ a70 ≤ 400 := ha70.tr (P := fun z => 0 ≤ z ∧ z ≤ 400) (rd_Reader_2 iM62 rfl)
  refine w_if (fun c1_ => ?_) (fun c1_ => ?_)
  · skip
    refine w_gFc (ji := 10) rfl (congrArg Prod.fst (kl_65 iM62)) (show mG M62 65 10 = a54 from ((st_ne hM62 (fun z => absurd z.2 (by decide))).trans ((st_ne hM57 (fun z => absurd z.2 (by decide))).trans (show mG M 65 10 = a54 from ha54)))) ?_
    refine w_gK (congrArg Prod.fst (kl_65 iM62)) ?_
    have ppRR_M62 : RR M62 := (RR_of (RR_of p_RR (st_ne hM57 (fun z => absurd z.2 (by decide))) (st_ne hM57 (fun z => absurd z.2 (by decide))) (st_ne hM57 (fun z => absurd z.2 (by decide)))) (st_ne hM62 (fun z => absurd z.2 (by decide))) (st_ne hM62 (fun z => absurd z.2 (by decide))) (st_ne hM62 (fun z => absurd z.2 (by decide))))
    refine w_call (s_X2_isLetter ⟨by omega, by omega⟩ ppRR_M62 iM62) ?_
    intro v89 m89 pp89
    obtain ⟨im89, kk89, e89_0, e89_1, -⟩ := pp89
    try dsimp only
    replace im89 : I n m89 := im89
    replace kk89 : Keep n W_X2_isLetter M62 m89 := kk89
    have km89 : Keep n W_X2_advance Me m89 := kM62.tr kk89 (fun b j z => z.elim)
    replace e89_0 : 0 ≤ v89 ∧ v89 ≤ 1 := e89_0
    replace e89_1 : v89 = 1 → a54 ≤ 399 := e89_1
    refine w_if (fun c2_ => ?_) (fun c2_ => ?_)
    · skip
      refine w_gFc (ji := 10) rfl (congrArg Prod.fst (kl_65 im89)) (show mG m89 65 10 = a54 from ((kk89.2.2 65 10 (by omega) (fun z => z)).trans ((st_ne hM62 (fun z => absurd z.2 (by decide))).trans ((st_ne hM57 (fun z => absurd z.2 (by decide))).trans (show mG M 65 10 = a54 from ha54))))) ?_
      refine w_gK (congrArg Prod.fst (kl_65 im89)) ?_
      have ppRR_m89 : RR m89 := (RR_of ppRR_M62 (kk89.2.2 65 0 (by omega) (fun z => z)) (kk89.2.2 65 1 (by omega) (fun z => z)) (kk89.2.2 65 3 (by omega) (fun z => z)))
      refine w_call (s_X2_isDigit ⟨by omega, by omega⟩ ppRR_m89 im89) ?_
      intro v140 m140 pp140
      obtain ⟨im140, kk140, e140_0, e140_1, -⟩ := pp140
      try dsimp only
      replace im140 : I n m140 := im140
      replace kk140 : Keep n W_X2_isDigit m89 m140 := kk140
      have km140 : Keep n W_X2_advance Me m140 := km89.tr kk140 (fun b j z => z.elim)
      replace e140_0 : 0 ≤ v140 ∧ v140 ≤ 1 := e140_0
      replace e140_1 : v140 = 1 → a54 ≤ 399 := e140_1
      refine w_if (fun c3_ => ?_) (fun c3_ => ?_)
      · skip
        refine w_pF (ji := 8) rfl (congrArg Prod.fst (kl_65 im140)) (fun M214 hM214 => ?_)
        replace hM214 : M214 = mS m140 65 8 3 := hM214
        have iM214 : I n M214 := wr_Reader_8 im140 rfl ⟨by omega, by omega⟩ hM214
        have kM214 : Keep n W_X2_advance Me M214 := km140.st hM214 (Or.inl (Or.inr (Or.inr (Or.inl ⟨rfl, rfl⟩))))
        exact w_ret ⟨iM214, kM214, trivial⟩
      · skip
        refine w_pF (ji := 8) rfl (congrArg Prod.fst (kl_65 im140)) (fun M148 hM148 => ?_)
        replace hM148 : M148 = mS m140 65 8 2 := hM148
        have iM148 : I n M148 := wr_Reader_8 im140 rfl ⟨by omega, by omega⟩ hM148
        have kM148 : Keep n W_X2_advance Me M148 := km140.st hM148 (Or.inl (Or.inr (Or.inr (Or.inl ⟨rfl, rfl⟩))))
        have ppRR_M148 : RR M148 := (RR_of (RR_of ppRR_m89 (kk140.2.2 65 0 (by omega) (fun z => z)) (kk140.2.2 65 1 (by omega) (fun z => z)) (kk140.2.2 65 3 (by omega) (fun z => z))) (st_ne hM148 (fun z => absurd z.2 (by decide))) (st_ne hM148 (fun z => absurd z.2 (by decide))) (st_ne hM148 (fun z => absurd z.2 (by decide))))
        exact s_X2_advance_151 FU _ (by (try rw [(show mG M148 65 10 = a54 from ((st_ne hM148 (fun z => absurd z.2 (by decide))).trans ((kk140.2.2 65 10 (by omega) (fun z => z)).trans ((kk89.2.2 65 10 (by omega) (fun z => z)).trans ((st_ne hM62 (fun z => absurd z.2 (by decide))).trans ((st_ne hM57 (fun z => absurd z.2 (by decide))).trans (show mG M 65 10 = a54 from ha54)))))))]); all_goals omega) ppRR_M148 (by rw [(show mG M148 65 10 = a54 from ((st_ne hM148 (fun z => absurd z.2 (by decide))).trans ((kk140.2.2 65 10 (by omega) (fun z => z)).trans ((kk89.2.2 65 10 (by omega) (fun z => z)).trans ((st_ne hM62 (fun z => absurd z.2 (by decide))).trans ((st_ne hM57 (fun z => absurd z.2 (by decide))).trans (show mG M 65 10 = a54 from ha54)))))))]; show _ < (70000 : Int); omega) iM148 kM148
    · skip
      refine w_pF (ji := 8) rfl (congrArg Prod.fst (kl_65 im89)) (fun M97 hM97 => ?_)
      replace hM97 : M97 = mS m89 65 8 1 := hM97
      have iM97 : I n M97 := wr_Reader_8 im89 rfl ⟨by omega, by omega⟩ hM97
      have kM97 : Keep n W_X2_advance Me M97 := km89.st hM97 (Or.inl (Or.inr (Or.inr (Or.inl ⟨rfl, rfl⟩))))
      have ppRR_M97 : RR M97 := (RR_of (RR_of ppRR_M62 (kk89.2.2 65 0 (by omega) (fun z => z)) (kk89.2.2 65 1 (by omega) (fun z => z)) (kk89.2.2 65 3 (by omega) (fun z => z))) (st_ne hM97 (fun z => absurd z.2 (by decide))) (st_ne hM97 (fun z => absurd z.2 (by decide))) (st_ne hM97 (fun z => absurd z.2 (by decide))))
      exact s_X2_advance_100 FU _ (by (try rw [(show mG M97 65 10 = a54 from ((st_ne hM97 (fun z => absurd z.2 (by decide))).trans ((kk89.2.2 65 10 (by omega) (fun z => z)).trans ((st_ne hM62 (fun z => absurd z.2 (by decide))).trans ((st_ne hM57 (fun z => absurd z.2 (by decide))).trans (show mG M 65 10 = a54 from ha54))))))]); all_goals omega) ppRR_M97 (by rw [(show mG M97 65 10 = a54 from ((st_ne hM97 (fun z => absurd z.2 (by decide))).trans ((kk89.2.2 65 10 (by omega) (fun z => z)).trans ((st_ne hM62 (fun z => absurd z.2 (by decide))).trans ((st_ne hM57 (fun z => absurd z.2 (by decide))).trans (show mG M 65 10 = a54 from ha54))))))]; show _ < (70000 : Int); omega) iM97 kM97
  · skip
    refine w_pF (ji := 8) rfl (congrArg Prod.fst (kl_65 iM62)) (fun M78 hM78 => ?_)
    replace hM78 : M78 = mS M62 65 8 0 := hM78
    have iM78 : I n M78 := wr_Reader_8 iM62 rfl ⟨by omega, by omega⟩ hM78
    have kM78 : Keep n W_X2_advance Me M78 := kM62.st hM78 (Or.inl (Or.inr (Or.inr (Or.inl ⟨rfl, rfl⟩))))
    exact w_ret ⟨iM78, kM78, trivial⟩
theorem s_X2_advance_39 {n : Nat} {Me : Mem} {k0 : Int → Mem → Option (Int × Mem)} {fu0 : Nat} (hk0 : ∀ (M : Mem), (mG M 65 10 ≤ 400) → (RR M) → 401 - mG M 65 10 < (fu0 : Int) → I n M → Keep n W_X2_advance Me M → wp (k0 65 M) (fun q => I n q.2 ∧ Keep n W_X2_advance Me q.2 ∧ True)) {M : Mem} (y0 : mG M 65 10 ≤ 399) (p_RR : RR M) (hf0 : 401 - mG M 65 10 < (fu0 : Int) + 1) (iM : I n M) (kM : Keep n W_X2_advance Me M) : wp (mX2_advance_39 k0 65 M) (fun q => I n q.2 ∧ Keep n W_X2_advance Me q.2 ∧ True) := by
  have hn : (169 : Int) ≤ (n : Int) := by have := iM.2.2.2.2.1; omega
  obtain ⟨nh0, enh0⟩ : ∃ v, Is (mG M 65 10) v := ⟨_, rfl⟩
  have rnh0 : 0 ≤ nh0 ∧ nh0 ≤ 400 := by rw [← enh0.e]; exact rd_Reader_10 iM rfl
  (try rw [enh0.e] at y0); (try rw [enh0.e] at hf0)
  unfold mX2_advance_39
  refine w_gFc (ji := 10) rfl (congrArg Prod.fst (kl_65 iM)) (show mG M 65 10 = nh0 from (show mG M 65 10 = nh0 from enh0)) ?_
  have w1_ := wI_id (x := (nh0 + 1)) (by omega) (by omega)
  refine w_pF (ji := 10) rfl (congrArg Prod.fst (kl_65 iM)) (fun M46 hM46 => ?_)
  replace hM46 : M46 = mS M 65 10 (wI (nh0 + 1)) := hM46
  have iM46 : I n M46 := wr_Reader_10 iM rfl ⟨by omega, by omega⟩ hM46
  have kM46 : Keep n W_X2_advance Me M46 := kM.st hM46 (Or.inl (Or.inl ⟨rfl, rfl⟩))
  obtain ⟨svM46, esvM46⟩ : ∃ z, z = (wI (nh0 + 1)) := ⟨_, rfl⟩
  have ppRR_M46 : RR M46 := (RR_of p_RR (st_ne hM46 (fun z => absurd z.2 (by decide))) (st_ne hM46 (fun z => absurd z.2 (by decide))) (st_ne hM46 (fun z => absurd z.2 (by decide))))
  exact hk0 _ (by (try rw [(show mG M46 65 10 = svM46 from (show mG M46 65 10 = svM46 from ((st_eq hM46).trans esvM46.symm)))]); all_goals omega) ppRR_M46 (by rw [(show mG M46 65 10 = svM46 from (show mG M46 65 10 = svM46 from ((st_eq hM46).trans esvM46.symm)))]; omega) iM46 kM46
theorem sb_X2_advance_0 {n : Nat} {Me : Mem} {k0 : Int → Mem → Option (Int × Mem)} {fu0 : Nat} (hk0 : ∀ (M : Mem), (mG M 65 10 ≤ 400) → (RR M) → 401 - mG M 65 10 < (fu0 : Int) → I n M → Keep n W_X2_advance Me M → wp (k0 65 M) (fun q => I n q.2 ∧ Keep n W_X2_advance Me q.2 ∧ True)) {M : Mem} (y0 : mG M 65 10 ≤ 400) (p_RR : RR M) (hf0 : 401 - mG M 65 10 < (fu0 : Int) + 1) (iM : I n M) (kM : Keep n W_X2_advance Me M) : wp (bX2_advance_0 k0 65 M) (fun q => I n q.2 ∧ Keep n W_X2_advance Me q.2 ∧ True) := by
  have hn : (169 : Int) ≤ (n : Int) := by have := iM.2.2.2.2.1; omega
  obtain ⟨nh0, enh0⟩ : ∃ v, Is (mG M 65 10) v := ⟨_, rfl⟩
  have rnh0 : 0 ≤ nh0 ∧ nh0 ≤ 400 := by rw [← enh0.e]; exact rd_Reader_10 iM rfl
  (try rw [enh0.e] at y0); (try rw [enh0.e] at hf0)
  unfold bX2_advance_0
  refine w_gFc (ji := 10) rfl (congrArg Prod.fst (kl_65 iM)) (show mG M 65 10 = nh0 from (show mG M 65 10 = nh0 from enh0)) ?_
  refine w_gF (ji := 2) rfl (congrArg Prod.fst (kl_65 iM)) (fun a5 ha5 => ?_)
  have ra5 : 0 ≤ a5 ∧ a5 ≤ 400 := ha5.tr (P := fun z => 0 ≤ z ∧ z ≤ 400) (rd_Reader_2 iM rfl)
  refine w_if (fun c1_ => ?_) (fun c1_ => ?_)
  · skip
    exact s_X2_advance_52 p_RR iM kM
  · skip
    refine w_gFc (ji := 1) rfl (congrArg Prod.fst (kl_65 iM)) p_RR.2.1 ?_
    refine w_gFc (ji := 10) rfl (congrArg Prod.fst (kl_65 iM)) (show mG M 65 10 = nh0 from (show mG M 65 10 = nh0 from enh0)) ?_
    refine w_aG (kl_13 iM) (by omega) (by omega) (fun a19 ha19 => ?_)
    have ra19 : 0 ≤ a19 ∧ a19 ≤ 255 := ha19.tr (P := fun z => 0 ≤ z ∧ z ≤ 255) (rd_Ttape iM rfl)
    refine w_if (fun c2_ => ?_) (fun c2_ => ?_)
    · skip
      exact s_X2_advance_39 hk0 (by (try rw [(show mG M 65 10 = nh0 from (show mG M 65 10 = nh0 from enh0))]); all_goals omega) p_RR (by rw [(show mG M 65 10 = nh0 from (show mG M 65 10 = nh0 from enh0))]; omega) iM kM
    · skip
      refine w_gFc (ji := 1) rfl (congrArg Prod.fst (kl_65 iM)) p_RR.2.1 ?_
      refine w_gFc (ji := 10) rfl (congrArg Prod.fst (kl_65 iM)) (show mG M 65 10 = nh0 from (show mG M 65 10 = nh0 from enh0)) ?_
      refine w_aGc (kl_13 iM) (by omega) (by omega) (show mG M 13 nh0 = a19 from (show mG M 13 nh0 = a19 from ha19)) ?_
      refine w_if (fun c3_ => ?_) (fun c3_ => ?_)
      · skip
        exact s_X2_advance_39 hk0 (by (try rw [(show mG M 65 10 = nh0 from (show mG M 65 10 = nh0 from enh0))]); all_goals omega) p_RR (by rw [(show mG M 65 10 = nh0 from (show mG M 65 10 = nh0 from enh0))]; omega) iM kM
      · skip
        exact s_X2_advance_52 p_RR iM kM
theorem s_X2_advance_0 {n : Nat} {Me : Mem} : ∀ (fu : Nat) (M : Mem), (mG M 65 10 ≤ 400) → (RR M) → 401 - mG M 65 10 < (fu : Int) → I n M → Keep n W_X2_advance Me M → wp (mX2_advance_0 fu 65 M) (fun q => I n q.2 ∧ Keep n W_X2_advance Me q.2 ∧ True) := by
  intro fu
  induction fu with
  | zero =>
    intro  M y0 p_RR hf iM kM
    exfalso
    have z := rdf iM (a := 65) (j := 10) (f := 34) rfl
    have z : 0 ≤ mG M 65 10 ∧ mG M 65 10 ≤ 400 := z
    omega
  | succ fu ih =>
    intro  M y0 p_RR hf iM kM
    exact sb_X2_advance_0 ih y0 p_RR (by have e : ((fu + 1 : Nat) : Int) = (fu : Int) + 1 := rfl; rw [e] at hf; exact hf) iM kM
theorem s_X2_advance {n : Nat} {M : Mem} (p_RR : RR M) (iM : I n M) : wp (mX2_advance 65 M) (fun q => I n q.2 ∧ Keep n W_X2_advance M q.2 ∧ True) := by
  have hn : (169 : Int) ≤ (n : Int) := by have := iM.2.2.2.2.1; omega
  have kM : Keep n W_X2_advance M M := Keep.rf
  unfold mX2_advance
  obtain ⟨hp1_, ehp1_⟩ : ∃ v, Is (mG M 65 10) v := ⟨_, rfl⟩
  have rhp1_ : 0 ≤ hp1_ ∧ hp1_ ≤ 400 := by rw [← ehp1_.e]; exact rd_Reader_10 iM rfl
  have qhp1_ : mG M 65 10 = hp1_ := ehp1_
  exact s_X2_advance_0 FU _ (by (try rw [(show mG M 65 10 = hp1_ from (show mG M 65 10 = hp1_ from ehp1_))]); all_goals omega) p_RR (by rw [(show mG M 65 10 = hp1_ from (show mG M 65 10 = hp1_ from ehp1_))]; show _ < (70000 : Int); omega) iM kM
