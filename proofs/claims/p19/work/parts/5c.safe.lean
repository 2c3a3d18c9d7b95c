def W_X2_isWord (b j : Int) : Prop := False
theorem sb_X2_isWord_28 {n : Nat} {Me : Mem} {k28 : Int → Int → Int → Mem → Option (Int × Mem)} {fu28 : Nat} (hk28 : ∀ (l1 l2 : Int) (M : Mem), ((-113) ≤ l1 ∧ l1 ≤ (-100)) → (0 ≤ l2 ∧ l2 ≤ 9) → (mG M 65 9 + ((sLen.getD (-100 - l1).toNat 0 : Nat) : Int) ≤ 400) → (RR M) → 10 - l2 < (fu28 : Int) → I n M → Keep n W_X2_isWord Me M → wp (k28 65 l1 l2 M) (fun q => I n q.2 ∧ Keep n W_X2_isWord Me q.2 ∧ (0 ≤ q.1 ∧ q.1 ≤ 1) ∧ True)) {l1 l2 : Int} {M : Mem} (r_l1 : (-113) ≤ l1 ∧ l1 ≤ (-100)) (r_l2 : 0 ≤ l2 ∧ l2 ≤ 9) (y0 : mG M 65 9 + ((sLen.getD (-100 - l1).toNat 0 : Nat) : Int) ≤ 400) (p_RR : RR M) (hf28 : 10 - l2 < (fu28 : Int) + 1) (iM : I n M) (kM : Keep n W_X2_isWord Me M) : wp (bX2_isWord_28 k28 65 l1 l2 M) (fun q => I n q.2 ∧ Keep n W_X2_isWord Me q.2 ∧ (0 ≤ q.1 ∧ q.1 ≤ 1) ∧ True) := by
  have hn : (169 : Int) ≤ (n : Int) := by have := iM.2.2.2.2.1; omega
  obtain ⟨nh0, enh0⟩ : ∃ v, Is (mG M 65 9) v := ⟨_, rfl⟩
  have rnh0 : 0 ≤ nh0 ∧ nh0 ≤ 400 := by rw [← enh0.e]; exact rd_Reader_9 iM rfl
  (try rw [enh0.e] at y0); (try rw [enh0.e] at hf28)
  unfold bX2_isWord_28
  refine w_sLn (by omega) (fun a30 ha30 => ?_)
  have ra30 : 0 ≤ a30 ∧ a30 ≤ 9 := by rw [ha30]; exact sLen_r _
  refine w_if (fun c1_ => ?_) (fun c1_ => ?_)
  · skip
    exact w_ret ⟨iM, kM, (show 0 ≤ 1 ∧ 1 ≤ 1 from ⟨by omega, by omega⟩), trivial⟩
  · skip
    refine w_gFc (ji := 1) rfl (congrArg Prod.fst (kl_65 iM)) p_RR.2.1 ?_
    refine w_gFc (ji := 9) rfl (congrArg Prod.fst (kl_65 iM)) (show mG M 65 9 = nh0 from (show mG M 65 9 = nh0 from enh0)) ?_
    have w2_ := wI_id (x := (nh0 + l2)) (by omega) (by omega)
    refine w_aG (kl_13 iM) (by omega) (by omega) (fun a46 ha46 => ?_)
    have ra46 : 0 ≤ a46 ∧ a46 ≤ 255 := ha46.tr (P := fun z => 0 ≤ z ∧ z ≤ 255) (rd_Ttape iM rfl)
    refine w_sAt (by omega) (by omega) (by omega) (fun a49 ha49 => ?_)
    refine w_if (fun c3_ => ?_) (fun c3_ => ?_)
    · skip
      have w4_ := wI_id (x := (l2 + 1)) (by omega) (by omega)
      exact hk28 _ _ _ ⟨by omega, by omega⟩ ⟨by omega, by omega⟩ (by (try rw [(show mG M 65 9 = nh0 from (show mG M 65 9 = nh0 from enh0))]); all_goals omega) p_RR (by omega) iM kM
    · skip
      exact w_ret ⟨iM, kM, (show 0 ≤ 0 ∧ 0 ≤ 1 from ⟨by omega, by omega⟩), trivial⟩
theorem s_X2_isWord_28 {n : Nat} {Me : Mem} : ∀ (fu : Nat) (l1 l2 : Int) (M : Mem), ((-113) ≤ l1 ∧ l1 ≤ (-100)) → (0 ≤ l2 ∧ l2 ≤ 9) → (mG M 65 9 + ((sLen.getD (-100 - l1).toNat 0 : Nat) : Int) ≤ 400) → (RR M) → 10 - l2 < (fu : Int) → I n M → Keep n W_X2_isWord Me M → wp (mX2_isWord_28 fu 65 l1 l2 M) (fun q => I n q.2 ∧ Keep n W_X2_isWord Me q.2 ∧ (0 ≤ q.1 ∧ q.1 ≤ 1) ∧ True) := by
  intro fu
  induction fu with
  | zero =>
    intro l1 l2 M r_l1 r_l2 y0 p_RR hf iM kM
    exfalso
    omega
  | succ fu ih =>
    intro l1 l2 M r_l1 r_l2 y0 p_RR hf iM kM
    exact sb_X2_isWord_28 ih r_l1 r_l2 y0 p_RR (by have e : ((fu + 1 : Nat) : Int) = (fu : Int) + 1 := rfl; rw [e] at hf; exact hf) iM kM
theorem s_X2_isWord {n : Nat} {l1 : Int} {M : Mem} (r_l1 : (-113) ≤ l1 ∧ l1 ≤ (-100)) (p_RR : RR M) (iM : I n M) : wp (mX2_isWord 65 l1 M) (fun q => I n q.2 ∧ Keep n W_X2_isWord M q.2 ∧ (0 ≤ q.1 ∧ q.1 ≤ 1) ∧ True) := by
  have hn : (169 : Int) ≤ (n : Int) := by have := iM.2.2.2.2.1; omega
  have kM : Keep n W_X2_isWord M M := Keep.rf
  unfold mX2_isWord
  refine w_gF (ji := 8) rfl (congrArg Prod.fst (kl_65 iM)) (fun a1 ha1 => ?_)
  have ra1 : 0 ≤ a1 ∧ a1 ≤ 3 := ha1.tr (P := fun z => 0 ≤ z ∧ z ≤ 3) (rd_Reader_8 iM rfl)
  refine w_if (fun c1_ => ?_) (fun c1_ => ?_)
  · skip
    refine w_gF (ji := 10) rfl (congrArg Prod.fst (kl_65 iM)) (fun a9 ha9 => ?_)
    have ra9 : 0 ≤ a9 ∧ a9 ≤ 400 := ha9.tr (P := fun z => 0 ≤ z ∧ z ≤ 400) (rd_Reader_10 iM rfl)
    refine w_gF (ji := 9) rfl (congrArg Prod.fst (kl_65 iM)) (fun a13 ha13 => ?_)
    have ra13 : 0 ≤ a13 ∧ a13 ≤ 400 := ha13.tr (P := fun z => 0 ≤ z ∧ z ≤ 400) (rd_Reader_9 iM rfl)
    refine w_sLn (by omega) (fun a18 ha18 => ?_)
    have ra18 : 0 ≤ a18 ∧ a18 ≤ 9 := by rw [ha18]; exact sLen_r _
    have w2_ := wI_id (x := (a9 - a13)) (by omega) (by omega)
    refine w_if (fun c3_ => ?_) (fun c3_ => ?_)
    · skip
      exact s_X2_isWord_28 FU _ _ _ ⟨by omega, by omega⟩ ⟨by omega, by omega⟩ (by (try rw [(show mG M 65 9 = a13 from (show mG M 65 9 = a13 from ha13))]); all_goals omega) p_RR (by show _ < (70000 : Int); omega) iM kM
    · skip
      exact w_ret ⟨iM, kM, (show 0 ≤ 0 ∧ 0 ≤ 1 from ⟨by omega, by omega⟩), trivial⟩
  · skip
    exact w_ret ⟨iM, kM, (show 0 ≤ 0 ∧ 0 ≤ 1 from ⟨by omega, by omega⟩), trivial⟩
def W_X2_oneLetter (b j : Int) : Prop := False
theorem s_X2_oneLetter {n : Nat} {M : Mem} (p_RR : RR M) (iM : I n M) : wp (mX2_oneLetter 65 M) (fun q => I n q.2 ∧ Keep n W_X2_oneLetter M q.2 ∧ (0 ≤ q.1 ∧ q.1 ≤ 255) ∧ True) := by
  have hn : (169 : Int) ≤ (n : Int) := by have := iM.2.2.2.2.1; omega
  have kM : Keep n W_X2_oneLetter M M := Keep.rf
  unfold mX2_oneLetter
  refine w_gF (ji := 8) rfl (congrArg Prod.fst (kl_65 iM)) (fun a1 ha1 => ?_)
  have ra1 : 0 ≤ a1 ∧ a1 ≤ 3 := ha1.tr (P := fun z => 0 ≤ z ∧ z ≤ 3) (rd_Reader_8 iM rfl)
  refine w_if (fun c1_ => ?_) (fun c1_ => ?_)
  · skip
    refine w_gF (ji := 10) rfl (congrArg Prod.fst (kl_65 iM)) (fun a9 ha9 => ?_)
    have ra9 : 0 ≤ a9 ∧ a9 ≤ 400 := ha9.tr (P := fun z => 0 ≤ z ∧ z ≤ 400) (rd_Reader_10 iM rfl)
    refine w_gF (ji := 9) rfl (congrArg Prod.fst (kl_65 iM)) (fun a13 ha13 => ?_)
    have ra13 : 0 ≤ a13 ∧ a13 ≤ 400 := ha13.tr (P := fun z => 0 ≤ z ∧ z ≤ 400) (rd_Reader_9 iM rfl)
    have w2_ := wI_id (x := (a9 - a13)) (by omega) (by omega)
    refine w_if (fun c3_ => ?_) (fun c3_ => ?_)
    · skip
      refine w_gFc (ji := 1) rfl (congrArg Prod.fst (kl_65 iM)) p_RR.2.1 ?_
      refine w_gFc (ji := 9) rfl (congrArg Prod.fst (kl_65 iM)) (show mG M 65 9 = a13 from (show mG M 65 9 = a13 from ha13)) ?_
      refine w_aG (kl_13 iM) (by omega) (by omega) (fun a29 ha29 => ?_)
      have ra29 : 0 ≤ a29 ∧ a29 ≤ 255 := ha29.tr (P := fun z => 0 ≤ z ∧ z ≤ 255) (rd_Ttape iM rfl)
      exact w_ret ⟨iM, kM, (show 0 ≤ a29 ∧ a29 ≤ 255 from ⟨by omega, by omega⟩), trivial⟩
    · skip
      exact w_ret ⟨iM, kM, (show 0 ≤ 0 ∧ 0 ≤ 255 from ⟨by omega, by omega⟩), trivial⟩
  · skip
    exact w_ret ⟨iM, kM, (show 0 ≤ 0 ∧ 0 ≤ 255 from ⟨by omega, by omega⟩), trivial⟩
def W_X2_firstWord (b j : Int) : Prop := False
theorem s_X2_firstWord {n : Nat} {M : Mem} (p_RR : RR M) (iM : I n M) : wp (mX2_firstWord 65 M) (fun q => I n q.2 ∧ Keep n W_X2_firstWord M q.2 ∧ ((-1) ≤ q.1 ∧ q.1 ≤ 11) ∧ True) := by
  have hn : (169 : Int) ≤ (n : Int) := by have := iM.2.2.2.2.1; omega
  have kM : Keep n W_X2_firstWord M M := Keep.rf
  unfold mX2_firstWord
  refine w_gK (congrArg Prod.fst (kl_65 iM)) ?_
  refine w_call (s_X2_isWord ⟨by omega, by omega⟩ p_RR iM) ?_
  intro v3 m3 pp3
  obtain ⟨im3, kk3, e3_0, -⟩ := pp3
  try dsimp only
  replace im3 : I n m3 := im3
  replace kk3 : Keep n W_X2_isWord M m3 := kk3
  have km3 : Keep n W_X2_firstWord M m3 := kM.tr kk3 (fun b j z => z.elim)
  replace e3_0 : 0 ≤ v3 ∧ v3 ≤ 1 := e3_0
  refine w_if (fun c1_ => ?_) (fun c1_ => ?_)
  · skip
    refine w_gK (congrArg Prod.fst (kl_65 im3)) ?_
    have ppRR_m3 : RR m3 := (RR_of p_RR (kk3.2.2 65 0 (by omega) (fun z => z)) (kk3.2.2 65 1 (by omega) (fun z => z)) (kk3.2.2 65 3 (by omega) (fun z => z)))
    refine w_call (s_X2_isWord ⟨by omega, by omega⟩ ppRR_m3 im3) ?_
    intro v14 m14 pp14
    obtain ⟨im14, kk14, e14_0, -⟩ := pp14
    try dsimp only
    replace im14 : I n m14 := im14
    replace kk14 : Keep n W_X2_isWord m3 m14 := kk14
    have km14 : Keep n W_X2_firstWord M m14 := km3.tr kk14 (fun b j z => z.elim)
    replace e14_0 : 0 ≤ v14 ∧ v14 ≤ 1 := e14_0
    refine w_if (fun c2_ => ?_) (fun c2_ => ?_)
    · skip
      refine w_gK (congrArg Prod.fst (kl_65 im14)) ?_
      have ppRR_m14 : RR m14 := (RR_of ppRR_m3 (kk14.2.2 65 0 (by omega) (fun z => z)) (kk14.2.2 65 1 (by omega) (fun z => z)) (kk14.2.2 65 3 (by omega) (fun z => z)))
      refine w_call (s_X2_isWord ⟨by omega, by omega⟩ ppRR_m14 im14) ?_
      intro v25 m25 pp25
      obtain ⟨im25, kk25, e25_0, -⟩ := pp25
      try dsimp only
      replace im25 : I n m25 := im25
      replace kk25 : Keep n W_X2_isWord m14 m25 := kk25
      have km25 : Keep n W_X2_firstWord M m25 := km14.tr kk25 (fun b j z => z.elim)
      replace e25_0 : 0 ≤ v25 ∧ v25 ≤ 1 := e25_0
      refine w_if (fun c3_ => ?_) (fun c3_ => ?_)
      · skip
        refine w_gK (congrArg Prod.fst (kl_65 im25)) ?_
        have ppRR_m25 : RR m25 := (RR_of ppRR_m14 (kk25.2.2 65 0 (by omega) (fun z => z)) (kk25.2.2 65 1 (by omega) (fun z => z)) (kk25.2.2 65 3 (by omega) (fun z => z)))
        refine w_call (s_X2_isWord ⟨by omega, by omega⟩ ppRR_m25 im25) ?_
        intro v36 m36 pp36
        obtain ⟨im36, kk36, e36_0, -⟩ := pp36
        try dsimp only
        replace im36 : I n m36 := im36
        replace kk36 : Keep n W_X2_isWord m25 m36 := kk36
        have km36 : Keep n W_X2_firstWord M m36 := km25.tr kk36 (fun b j z => z.elim)
        replace e36_0 : 0 ≤ v36 ∧ v36 ≤ 1 := e36_0
        refine w_if (fun c4_ => ?_) (fun c4_ => ?_)
        · skip
          refine w_gK (congrArg Prod.fst (kl_65 im36)) ?_
          have ppRR_m36 : RR m36 := (RR_of ppRR_m25 (kk36.2.2 65 0 (by omega) (fun z => z)) (kk36.2.2 65 1 (by omega) (fun z => z)) (kk36.2.2 65 3 (by omega) (fun z => z)))
          refine w_call (s_X2_isWord ⟨by omega, by omega⟩ ppRR_m36 im36) ?_
          intro v47 m47 pp47
          obtain ⟨im47, kk47, e47_0, -⟩ := pp47
          try dsimp only
          replace im47 : I n m47 := im47
          replace kk47 : Keep n W_X2_isWord m36 m47 := kk47
          have km47 : Keep n W_X2_firstWord M m47 := km36.tr kk47 (fun b j z => z.elim)
          replace e47_0 : 0 ≤ v47 ∧ v47 ≤ 1 := e47_0
          refine w_if (fun c5_ => ?_) (fun c5_ => ?_)
          · skip
            refine w_gK (congrArg Prod.fst (kl_65 im47)) ?_
            have ppRR_m47 : RR m47 := (RR_of ppRR_m36 (kk47.2.2 65 0 (by omega) (fun z => z)) (kk47.2.2 65 1 (by omega) (fun z => z)) (kk47.2.2 65 3 (by omega) (fun z => z)))
            refine w_call (s_X2_isWord ⟨by omega, by omega⟩ ppRR_m47 im47) ?_
            intro v58 m58 pp58
            obtain ⟨im58, kk58, e58_0, -⟩ := pp58
            try dsimp only
            replace im58 : I n m58 := im58
            replace kk58 : Keep n W_X2_isWord m47 m58 := kk58
            have km58 : Keep n W_X2_firstWord M m58 := km47.tr kk58 (fun b j z => z.elim)
            replace e58_0 : 0 ≤ v58 ∧ v58 ≤ 1 := e58_0
            refine w_if (fun c6_ => ?_) (fun c6_ => ?_)
            · skip
              refine w_gK (congrArg Prod.fst (kl_65 im58)) ?_
              have ppRR_m58 : RR m58 := (RR_of ppRR_m47 (kk58.2.2 65 0 (by omega) (fun z => z)) (kk58.2.2 65 1 (by omega) (fun z => z)) (kk58.2.2 65 3 (by omega) (fun z => z)))
              refine w_call (s_X2_isWord ⟨by omega, by omega⟩ ppRR_m58 im58) ?_
              intro v69 m69 pp69
              obtain ⟨im69, kk69, e69_0, -⟩ := pp69
              try dsimp only
              replace im69 : I n m69 := im69
              replace kk69 : Keep n W_X2_isWord m58 m69 := kk69
              have km69 : Keep n W_X2_firstWord M m69 := km58.tr kk69 (fun b j z => z.elim)
              replace e69_0 : 0 ≤ v69 ∧ v69 ≤ 1 := e69_0
              refine w_if (fun c7_ => ?_) (fun c7_ => ?_)
              · skip
                refine w_gK (congrArg Prod.fst (kl_65 im69)) ?_
                have ppRR_m69 : RR m69 := (RR_of ppRR_m58 (kk69.2.2 65 0 (by omega) (fun z => z)) (kk69.2.2 65 1 (by omega) (fun z => z)) (kk69.2.2 65 3 (by omega) (fun z => z)))
                refine w_call (s_X2_isWord ⟨by omega, by omega⟩ ppRR_m69 im69) ?_
                intro v81 m81 pp81
                obtain ⟨im81, kk81, e81_0, -⟩ := pp81
                try dsimp only
                replace im81 : I n m81 := im81
                replace kk81 : Keep n W_X2_isWord m69 m81 := kk81
                have km81 : Keep n W_X2_firstWord M m81 := km69.tr kk81 (fun b j z => z.elim)
                replace e81_0 : 0 ≤ v81 ∧ v81 ≤ 1 := e81_0
                refine w_if (fun c8_ => ?_) (fun c8_ => ?_)
                · skip
                  refine w_gK (congrArg Prod.fst (kl_65 im81)) ?_
                  have ppRR_m81 : RR m81 := (RR_of ppRR_m69 (kk81.2.2 65 0 (by omega) (fun z => z)) (kk81.2.2 65 1 (by omega) (fun z => z)) (kk81.2.2 65 3 (by omega) (fun z => z)))
                  refine w_call (s_X2_isWord ⟨by omega, by omega⟩ ppRR_m81 im81) ?_
                  intro v93 m93 pp93
                  obtain ⟨im93, kk93, e93_0, -⟩ := pp93
                  try dsimp only
                  replace im93 : I n m93 := im93
                  replace kk93 : Keep n W_X2_isWord m81 m93 := kk93
                  have km93 : Keep n W_X2_firstWord M m93 := km81.tr kk93 (fun b j z => z.elim)
                  replace e93_0 : 0 ≤ v93 ∧ v93 ≤ 1 := e93_0
                  refine w_if (fun c9_ => ?_) (fun c9_ => ?_)
                  · skip
                    refine w_gK (congrArg Prod.fst (kl_65 im93)) ?_
                    have ppRR_m93 : RR m93 := (RR_of ppRR_m81 (kk93.2.2 65 0 (by omega) (fun z => z)) (kk93.2.2 65 1 (by omega) (fun z => z)) (kk93.2.2 65 3 (by omega) (fun z => z)))
                    refine w_call (s_X2_isWord ⟨by omega, by omega⟩ ppRR_m93 im93) ?_
                    intro v105 m105 pp105
                    obtain ⟨im105, kk105, e105_0, -⟩ := pp105
                    try dsimp only
                    replace im105 : I n m105 := im105
                    replace kk105 : Keep n W_X2_isWord m93 m105 := kk105
                    have km105 : Keep n W_X2_firstWord M m105 := km93.tr kk105 (fun b j z => z.elim)
                    replace e105_0 : 0 ≤ v105 ∧ v105 ≤ 1 := e105_0
                    refine w_if (fun c10_ => ?_) (fun c10_ => ?_)
                    · skip
                      refine w_gK (congrArg Prod.fst (kl_65 im105)) ?_
                      have ppRR_m105 : RR m105 := (RR_of ppRR_m93 (kk105.2.2 65 0 (by omega) (fun z => z)) (kk105.2.2 65 1 (by omega) (fun z => z)) (kk105.2.2 65 3 (by omega) (fun z => z)))
                      refine w_call (s_X2_isWord ⟨by omega, by omega⟩ ppRR_m105 im105) ?_
                      intro v117 m117 pp117
                      obtain ⟨im117, kk117, e117_0, -⟩ := pp117
                      try dsimp only
                      replace im117 : I n m117 := im117
                      replace kk117 : Keep n W_X2_isWord m105 m117 := kk117
                      have km117 : Keep n W_X2_firstWord M m117 := km105.tr kk117 (fun b j z => z.elim)
                      replace e117_0 : 0 ≤ v117 ∧ v117 ≤ 1 := e117_0
                      refine w_if (fun c11_ => ?_) (fun c11_ => ?_)
                      · skip
                        have ppRR_m117 : RR m117 := (RR_of ppRR_m105 (kk117.2.2 65 0 (by omega) (fun z => z)) (kk117.2.2 65 1 (by omega) (fun z => z)) (kk117.2.2 65 3 (by omega) (fun z => z)))
                        refine w_gFc (ji := 3) rfl (congrArg Prod.fst (kl_65 im117)) ppRR_m117.2.2 ?_
                        refine w_gK (congrArg Prod.fst (kl_65 im117)) ?_
                        refine w_call (s_X2_oneLetter ppRR_m117 im117) ?_
                        intro v131 m131 pp131
                        obtain ⟨im131, kk131, e131_0, -⟩ := pp131
                        try dsimp only
                        replace im131 : I n m131 := im131
                        replace kk131 : Keep n W_X2_oneLetter m117 m131 := kk131
                        have km131 : Keep n W_X2_firstWord M m131 := km117.tr kk131 (fun b j z => z.elim)
                        replace e131_0 : 0 ≤ v131 ∧ v131 ≤ 255 := e131_0
                        refine w_gK (congrArg Prod.fst (kl_4 im131)) ?_
                        have w12_ := wI_id (x := (v131 - 114)) (by omega) (by omega)
                        refine w_call (s_X3_hasRelation (by unfold isShape; omega) ⟨by omega, by omega⟩ im131) ?_
                        intro v137 m137 pp137
                        obtain ⟨im137, kk137, e137_0, e137_1, -⟩ := pp137
                        try dsimp only
                        replace im137 : I n m137 := im137
                        replace kk137 : Keep n (W_X3_hasRelation 4) m131 m137 := kk137
                        have km137 : Keep n W_X2_firstWord M m137 := km131.tr kk137 (fun b j z => z.elim)
                        replace e137_0 : 0 ≤ v137 ∧ v137 ≤ 1 := e137_0
                        replace e137_1 : v137 = 1 → 0 ≤ (wI (v131 - 114)) ∧ (wI (v131 - 114)) ≤ 3 := e137_1
                        refine w_if (fun c13_ => ?_) (fun c13_ => ?_)
                        · skip
                          exact w_ret ⟨im137, km137, (show (-1) ≤ (-1) ∧ (-1) ≤ 11 from ⟨by omega, by omega⟩), trivial⟩
                        · skip
                          exact w_ret ⟨im137, km137, (show (-1) ≤ 11 ∧ 11 ≤ 11 from ⟨by omega, by omega⟩), trivial⟩
                      · skip
                        exact w_ret ⟨im117, km117, (show (-1) ≤ 10 ∧ 10 ≤ 11 from ⟨by omega, by omega⟩), trivial⟩
                    · skip
                      exact w_ret ⟨im105, km105, (show (-1) ≤ 9 ∧ 9 ≤ 11 from ⟨by omega, by omega⟩), trivial⟩
                  · skip
                    exact w_ret ⟨im93, km93, (show (-1) ≤ 8 ∧ 8 ≤ 11 from ⟨by omega, by omega⟩), trivial⟩
                · skip
                  exact w_ret ⟨im81, km81, (show (-1) ≤ 7 ∧ 7 ≤ 11 from ⟨by omega, by omega⟩), trivial⟩
              · skip
                exact w_ret ⟨im69, km69, (show (-1) ≤ 6 ∧ 6 ≤ 11 from ⟨by omega, by omega⟩), trivial⟩
            · skip
              exact w_ret ⟨im58, km58, (show (-1) ≤ 5 ∧ 5 ≤ 11 from ⟨by omega, by omega⟩), trivial⟩
          · skip
            exact w_ret ⟨im47, km47, (show (-1) ≤ 4 ∧ 4 ≤ 11 from ⟨by omega, by omega⟩), trivial⟩
        · skip
          exact w_ret ⟨im36, km36, (show (-1) ≤ 3 ∧ 3 ≤ 11 from ⟨by omega, by omega⟩), trivial⟩
      · skip
        exact w_ret ⟨im25, km25, (show (-1) ≤ 2 ∧ 2 ≤ 11 from ⟨by omega, by omega⟩), trivial⟩
    · skip
      exact w_ret ⟨im14, km14, (show (-1) ≤ 1 ∧ 1 ≤ 11 from ⟨by omega, by omega⟩), trivial⟩
  · skip
    exact w_ret ⟨im3, km3, (show (-1) ≤ 0 ∧ 0 ≤ 11 from ⟨by omega, by omega⟩), trivial⟩
def W_X2_refuse (b j : Int) : Prop := (b = 3 ∧ j = 6) ∨ (b = 3 ∧ j = 7) ∨ (b = 65 ∧ j = 4)
theorem s_X2_refuse {n : Nat} {M : Mem} (p_RR : RR M) (iM : I n M) : wp (mX2_refuse 65 M) (fun q => I n q.2 ∧ Keep n W_X2_refuse M q.2 ∧ True) := by
  have hn : (169 : Int) ≤ (n : Int) := by have := iM.2.2.2.2.1; omega
  have kM : Keep n W_X2_refuse M M := Keep.rf
  unfold mX2_refuse
  refine w_gF (ji := 4) rfl (congrArg Prod.fst (kl_65 iM)) (fun a1 ha1 => ?_)
  have ra1 : 0 ≤ a1 ∧ a1 ≤ 1 := ha1.tr (P := fun z => 0 ≤ z ∧ z ≤ 1) (rd_Reader_4 iM rfl)
  refine w_if (fun c1_ => ?_) (fun c1_ => ?_)
  · skip
    refine w_pZ (ji := 4) rfl (congrArg Prod.fst (kl_65 iM)) (by omega) (fun M9 hM9 => ?_)
    replace hM9 : M9 = mS M 65 4 1 := hM9
    have iM9 : I n M9 := wr_Reader_4 iM rfl ⟨by omega, by omega⟩ hM9
    have kM9 : Keep n W_X2_refuse M M9 := kM.st hM9 (Or.inl (Or.inr (Or.inr ⟨rfl, rfl⟩)))
    have ppRR_M9 : RR M9 := (RR_of p_RR (st_ne hM9 (fun z => absurd z.2 (by decide))) (st_ne hM9 (fun z => absurd z.2 (by decide))) (st_ne hM9 (fun z => absurd z.2 (by decide))))
    refine w_gFc (ji := 0) rfl (congrArg Prod.fst (kl_65 iM9)) ppRR_M9.1 ?_
    refine w_pF (ji := 6) rfl (congrArg Prod.fst (kl_3 iM9)) (fun M17 hM17 => ?_)
    replace hM17 : M17 = mS M9 3 6 1 := hM17
    have iM17 : I n M17 := wr_Told_6 iM9 rfl ⟨by omega, by omega⟩ hM17
    have kM17 : Keep n W_X2_refuse M M17 := kM9.st hM17 (Or.inl (Or.inl ⟨rfl, rfl⟩))
    have ppRR_M17 : RR M17 := (RR_of ppRR_M9 (st_ne hM17 (fun z => ne_fam rfl rfl (by decide) z.1)) (st_ne hM17 (fun z => ne_fam rfl rfl (by decide) z.1)) (st_ne hM17 (fun z => ne_fam rfl rfl (by decide) z.1)))
    refine w_gFc (ji := 0) rfl (congrArg Prod.fst (kl_65 iM17)) ppRR_M17.1 ?_
    refine w_gF (ji := 9) rfl (congrArg Prod.fst (kl_65 iM17)) (fun a25 ha25 => ?_)
    have ra25 : 0 ≤ a25 ∧ a25 ≤ 400 := ha25.tr (P := fun z => 0 ≤ z ∧ z ≤ 400) (rd_Reader_9 iM17 rfl)
    refine w_pF (ji := 7) rfl (congrArg Prod.fst (kl_3 iM17)) (fun M28 hM28 => ?_)
    replace hM28 : M28 = mS M17 3 7 a25 := hM28
    have iM28 : I n M28 := wr_Told_7 iM17 rfl ⟨by omega, by omega⟩ hM28
    have kM28 : Keep n W_X2_refuse M M28 := kM17.st hM28 (Or.inl (Or.inr (Or.inl ⟨rfl, rfl⟩)))
    exact w_ret ⟨iM28, kM28, trivial⟩
  · skip
    exact w_ret ⟨iM, kM, trivial⟩
def W_X2_note (b j : Int) : Prop := (b = 3 ∧ j = 6) ∨ (b = 3 ∧ j = 7)
theorem s_X2_note {n : Nat} {l1 l2 : Int} {M : Mem} (r_l1 : 2 ≤ l1 ∧ l1 ≤ 5) (r_l2 : 0 ≤ l2 ∧ l2 ≤ 400) (p_RR : RR M) (iM : I n M) : wp (mX2_note 65 l1 l2 M) (fun q => I n q.2 ∧ Keep n W_X2_note M q.2 ∧ True) := by
  have hn : (169 : Int) ≤ (n : Int) := by have := iM.2.2.2.2.1; omega
  have kM : Keep n W_X2_note M M := Keep.rf
  unfold mX2_note
  refine w_gFc (ji := 0) rfl (congrArg Prod.fst (kl_65 iM)) p_RR.1 ?_
  refine w_gF (ji := 6) rfl (congrArg Prod.fst (kl_3 iM)) (fun a4 ha4 => ?_)
  have ra4 : 0 ≤ a4 ∧ a4 ≤ 5 := ha4.tr (P := fun z => 0 ≤ z ∧ z ≤ 5) (rd_Told_6 iM rfl)
  refine w_if (fun c1_ => ?_) (fun c1_ => ?_)
  · skip
    refine w_gFc (ji := 0) rfl (congrArg Prod.fst (kl_65 iM)) p_RR.1 ?_
    refine w_pF (ji := 6) rfl (congrArg Prod.fst (kl_3 iM)) (fun M15 hM15 => ?_)
    replace hM15 : M15 = mS M 3 6 l1 := hM15
    have iM15 : I n M15 := wr_Told_6 iM rfl ⟨by omega, by omega⟩ hM15
    have kM15 : Keep n W_X2_note M M15 := kM.st hM15 (Or.inl (Or.inl ⟨rfl, rfl⟩))
    have ppRR_M15 : RR M15 := (RR_of p_RR (st_ne hM15 (fun z => ne_fam rfl rfl (by decide) z.1)) (st_ne hM15 (fun z => ne_fam rfl rfl (by decide) z.1)) (st_ne hM15 (fun z => ne_fam rfl rfl (by decide) z.1)))
    refine w_gFc (ji := 0) rfl (congrArg Prod.fst (kl_65 iM15)) ppRR_M15.1 ?_
    refine w_pF (ji := 7) rfl (congrArg Prod.fst (kl_3 iM15)) (fun M23 hM23 => ?_)
    replace hM23 : M23 = mS M15 3 7 l2 := hM23
    have iM23 : I n M23 := wr_Told_7 iM15 rfl ⟨by omega, by omega⟩ hM23
    have kM23 : Keep n W_X2_note M M23 := kM15.st hM23 (Or.inl (Or.inr ⟨rfl, rfl⟩))
    exact w_ret ⟨iM23, kM23, trivial⟩
  · skip
    exact w_ret ⟨iM, kM, trivial⟩
def W_X2_depth (b j : Int) : Prop := False
theorem s_X2_depth {n : Nat} {l0 : Int} {M : Mem} (r_l0 : (-2147483648) ≤ l0 ∧ l0 ≤ 2147483647) (iM : I n M) : wp (mX2_depth l0 M) (fun q => I n q.2 ∧ Keep n W_X2_depth M q.2 ∧ ((-2147483648) ≤ q.1 ∧ q.1 ≤ 2147483647) ∧ True) := by
  have hn : (169 : Int) ≤ (n : Int) := by have := iM.2.2.2.2.1; omega
  have kM : Keep n W_X2_depth M M := Keep.rf
  unfold mX2_depth
  have w1_ := ishr_in l0 16
  exact w_ret ⟨iM, kM, (show (-2147483648) ≤ (ishr l0 16) ∧ (ishr l0 16) ≤ 2147483647 from ⟨by omega, by omega⟩), trivial⟩
def W_X2_takeNumber (b j : Int) : Prop := (b = 3 ∧ j = 6) ∨ (b = 3 ∧ j = 7) ∨ (b = 65 ∧ j = 10) ∨ (b = 65 ∧ j = 11) ∨ (b = 65 ∧ j = 4) ∨ (b = 65 ∧ j = 8) ∨ (b = 65 ∧ j = 9)
theorem s_X2_takeNumber_12 {n : Nat} {Me : Mem} {M : Mem} (p_RR : RR M) (iM : I n M) (kM : Keep n W_X2_takeNumber Me M) : wp (mX2_takeNumber_12 65 M) (fun q => I n q.2 ∧ Keep n W_X2_takeNumber Me q.2 ∧ ((-2147483648) ≤ q.1 ∧ q.1 ≤ 2147483647) ∧ True) := by
  have hn : (169 : Int) ≤ (n : Int) := by have := iM.2.2.2.2.1; omega
  unfold mX2_takeNumber_12
  refine w_gF (ji := 4) rfl (congrArg Prod.fst (kl_65 iM)) (fun a13 ha13 => ?_)
  have ra13 : 0 ≤ a13 ∧ a13 ≤ 1 := ha13.tr (P := fun z => 0 ≤ z ∧ z ≤ 1) (rd_Reader_4 iM rfl)
  refine w_if (fun c1_ => ?_) (fun c1_ => ?_)
  · skip
    refine w_gF (ji := 11) rfl (congrArg Prod.fst (kl_65 iM)) (fun a22 ha22 => ?_)
    have ra22 : (-2147483648) ≤ a22 ∧ a22 ≤ 2147483647 := ha22.tr (P := fun z => (-2147483648) ≤ z ∧ z ≤ 2147483647) (rd_Reader_11 iM rfl)
    refine w_gK (congrArg Prod.fst (kl_65 iM)) ?_
    refine w_call (s_X2_advance p_RR iM) ?_
    intro v27 m27 pp27
    obtain ⟨im27, kk27, -⟩ := pp27
    try dsimp only
    replace im27 : I n m27 := im27
    replace kk27 : Keep n W_X2_advance M m27 := kk27
    have km27 : Keep n W_X2_takeNumber Me m27 := kM.tr kk27 (fun b j z => Or.elim z (fun z => (Or.inr (Or.inr (Or.inl z)))) (fun z => Or.elim z (fun z => (Or.inr (Or.inr (Or.inr (Or.inl z))))) (fun z => Or.elim z (fun z => (Or.inr (Or.inr (Or.inr (Or.inr (Or.inr (Or.inl z))))))) (fun z => (Or.inr (Or.inr (Or.inr (Or.inr (Or.inr (Or.inr z))))))))))
    exact w_ret ⟨im27, km27, (show (-2147483648) ≤ a22 ∧ a22 ≤ 2147483647 from ⟨by omega, by omega⟩), trivial⟩
  · skip
    exact w_ret ⟨iM, kM, (show (-2147483648) ≤ (-1) ∧ (-1) ≤ 2147483647 from ⟨by omega, by omega⟩), trivial⟩
theorem s_X2_takeNumber {n : Nat} {M : Mem} (p_RR : RR M) (iM : I n M) : wp (mX2_takeNumber 65 M) (fun q => I n q.2 ∧ Keep n W_X2_takeNumber M q.2 ∧ ((-2147483648) ≤ q.1 ∧ q.1 ≤ 2147483647) ∧ True) := by
  have hn : (169 : Int) ≤ (n : Int) := by have := iM.2.2.2.2.1; omega
  have kM : Keep n W_X2_takeNumber M M := Keep.rf
  unfold mX2_takeNumber
  refine w_gF (ji := 8) rfl (congrArg Prod.fst (kl_65 iM)) (fun a1 ha1 => ?_)
  have ra1 : 0 ≤ a1 ∧ a1 ≤ 3 := ha1.tr (P := fun z => 0 ≤ z ∧ z ≤ 3) (rd_Reader_8 iM rfl)
  refine w_if (fun c1_ => ?_) (fun c1_ => ?_)
  · skip
    exact s_X2_takeNumber_12 p_RR iM kM
  · skip
    refine w_gK (congrArg Prod.fst (kl_65 iM)) ?_
    refine w_call (s_X2_refuse p_RR iM) ?_
    intro v9 m9 pp9
    obtain ⟨im9, kk9, -⟩ := pp9
    try dsimp only
    replace im9 : I n m9 := im9
    replace kk9 : Keep n W_X2_refuse M m9 := kk9
    have km9 : Keep n W_X2_takeNumber M m9 := kM.tr kk9 (fun b j z => Or.elim z (fun z => (Or.inl z)) (fun z => Or.elim z (fun z => (Or.inr (Or.inl z))) (fun z => (Or.inr (Or.inr (Or.inr (Or.inr (Or.inl z))))))))
    have ppRR_m9 : RR m9 := (RR_of p_RR (kk9.2.2 65 0 (by omega) (fun z => by unfold W_X2_refuse at z; (try unfold isWS at z); (try unfold isShape at z); (try unfold isTold at z); (try dsimp only at z); omega)) (kk9.2.2 65 1 (by omega) (fun z => by unfold W_X2_refuse at z; (try unfold isWS at z); (try unfold isShape at z); (try unfold isTold at z); (try dsimp only at z); omega)) (kk9.2.2 65 3 (by omega) (fun z => by unfold W_X2_refuse at z; (try unfold isWS at z); (try unfold isShape at z); (try unfold isTold at z); (try dsimp only at z); omega)))
    exact s_X2_takeNumber_12 ppRR_m9 im9 km9
def W_X2_takeVariable (b j : Int) : Prop := (b = 3 ∧ j = 6) ∨ (b = 3 ∧ j = 7) ∨ (b = 65 ∧ j = 10) ∨ (b = 65 ∧ j = 11) ∨ (b = 65 ∧ j = 4) ∨ (b = 65 ∧ j = 8) ∨ (b = 65 ∧ j = 9)
theorem s_X2_takeVariable_21 {n : Nat} {Me : Mem} {l1 : Int} {M : Mem} (r_l1 : 0 ≤ l1 ∧ l1 ≤ 255) (p_RR : RR M) (iM : I n M) (kM : Keep n W_X2_takeVariable Me M) : wp (mX2_takeVariable_21 65 l1 M) (fun q => I n q.2 ∧ Keep n W_X2_takeVariable Me q.2 ∧ ((-119) ≤ q.1 ∧ q.1 ≤ 136) ∧ True) := by
  have hn : (169 : Int) ≤ (n : Int) := by have := iM.2.2.2.2.1; omega
  unfold mX2_takeVariable_21
  refine w_gF (ji := 4) rfl (congrArg Prod.fst (kl_65 iM)) (fun a22 ha22 => ?_)
  have ra22 : 0 ≤ a22 ∧ a22 ≤ 1 := ha22.tr (P := fun z => 0 ≤ z ∧ z ≤ 1) (rd_Reader_4 iM rfl)
  refine w_if (fun c1_ => ?_) (fun c1_ => ?_)
  · skip
    refine w_gK (congrArg Prod.fst (kl_65 iM)) ?_
    refine w_call (s_X2_advance p_RR iM) ?_
    intro v31 m31 pp31
    obtain ⟨im31, kk31, -⟩ := pp31
    try dsimp only
    replace im31 : I n m31 := im31
    replace kk31 : Keep n W_X2_advance M m31 := kk31
    have km31 : Keep n W_X2_takeVariable Me m31 := kM.tr kk31 (fun b j z => Or.elim z (fun z => (Or.inr (Or.inr (Or.inl z)))) (fun z => Or.elim z (fun z => (Or.inr (Or.inr (Or.inr (Or.inl z))))) (fun z => Or.elim z (fun z => (Or.inr (Or.inr (Or.inr (Or.inr (Or.inr (Or.inl z))))))) (fun z => (Or.inr (Or.inr (Or.inr (Or.inr (Or.inr (Or.inr z))))))))))
    have w2_ := wI_id (x := (l1 - 119)) (by omega) (by omega)
    exact w_ret ⟨im31, km31, (show (-119) ≤ (wI (l1 - 119)) ∧ (wI (l1 - 119)) ≤ 136 from ⟨by omega, by omega⟩), trivial⟩
  · skip
    exact w_ret ⟨iM, kM, (show (-119) ≤ (-1) ∧ (-1) ≤ 136 from ⟨by omega, by omega⟩), trivial⟩
theorem s_X2_takeVariable_17 {n : Nat} {Me : Mem} {l1 : Int} {M : Mem} (r_l1 : 0 ≤ l1 ∧ l1 ≤ 255) (p_RR : RR M) (iM : I n M) (kM : Keep n W_X2_takeVariable Me M) : wp (mX2_takeVariable_17 65 l1 M) (fun q => I n q.2 ∧ Keep n W_X2_takeVariable Me q.2 ∧ ((-119) ≤ q.1 ∧ q.1 ≤ 136) ∧ True) := by
  have hn : (169 : Int) ≤ (n : Int) := by have := iM.2.2.2.2.1; omega
  unfold mX2_takeVariable_17
  refine w_gK (congrArg Prod.fst (kl_65 iM)) ?_
  refine w_call (s_X2_refuse p_RR iM) ?_
  intro v18 m18 pp18
  obtain ⟨im18, kk18, -⟩ := pp18
  try dsimp only
  replace im18 : I n m18 := im18
  replace kk18 : Keep n W_X2_refuse M m18 := kk18
  have km18 : Keep n W_X2_takeVariable Me m18 := kM.tr kk18 (fun b j z => Or.elim z (fun z => (Or.inl z)) (fun z => Or.elim z (fun z => (Or.inr (Or.inl z))) (fun z => (Or.inr (Or.inr (Or.inr (Or.inr (Or.inl z))))))))
  have ppRR_m18 : RR m18 := (RR_of p_RR (kk18.2.2 65 0 (by omega) (fun z => by unfold W_X2_refuse at z; (try unfold isWS at z); (try unfold isShape at z); (try unfold isTold at z); (try dsimp only at z); omega)) (kk18.2.2 65 1 (by omega) (fun z => by unfold W_X2_refuse at z; (try unfold isWS at z); (try unfold isShape at z); (try unfold isTold at z); (try dsimp only at z); omega)) (kk18.2.2 65 3 (by omega) (fun z => by unfold W_X2_refuse at z; (try unfold isWS at z); (try unfold isShape at z); (try unfold isTold at z); (try dsimp only at z); omega)))
  exact s_X2_takeVariable_21 ⟨by omega, by omega⟩ ppRR_m18 im18 km18
theorem s_X2_takeVariable {n : Nat} {M : Mem} (p_RR : RR M) (iM : I n M) : wp (mX2_takeVariable 65 M) (fun q => I n q.2 ∧ Keep n W_X2_takeVariable M q.2 ∧ ((-119) ≤ q.1 ∧ q.1 ≤ 136) ∧ True) := by
  have hn : (169 : Int) ≤ (n : Int) := by have := iM.2.2.2.2.1; omega
  have kM : Keep n W_X2_takeVariable M M := Keep.rf
  unfold mX2_takeVariable
  refine w_gK (congrArg Prod.fst (kl_65 iM)) ?_
  refine w_call (s_X2_oneLetter p_RR iM) ?_
  intro v1 m1 pp1
  obtain ⟨im1, kk1, e1_0, -⟩ := pp1
  try dsimp only
  replace im1 : I n m1 := im1
  replace kk1 : Keep n W_X2_oneLetter M m1 := kk1
  have km1 : Keep n W_X2_takeVariable M m1 := kM.tr kk1 (fun b j z => z.elim)
  replace e1_0 : 0 ≤ v1 ∧ v1 ≤ 255 := e1_0
  refine w_if (fun c1_ => ?_) (fun c1_ => ?_)
  · skip
    have ppRR_m1 : RR m1 := (RR_of p_RR (kk1.2.2 65 0 (by omega) (fun z => z)) (kk1.2.2 65 1 (by omega) (fun z => z)) (kk1.2.2 65 3 (by omega) (fun z => z)))
    exact s_X2_takeVariable_17 ⟨by omega, by omega⟩ ppRR_m1 im1 km1
  · skip
    refine w_if (fun c2_ => ?_) (fun c2_ => ?_)
    · skip
      have ppRR_m1 : RR m1 := (RR_of p_RR (kk1.2.2 65 0 (by omega) (fun z => z)) (kk1.2.2 65 1 (by omega) (fun z => z)) (kk1.2.2 65 3 (by omega) (fun z => z)))
      exact s_X2_takeVariable_21 ⟨by omega, by omega⟩ ppRR_m1 im1 km1
    · skip
      have ppRR_m1 : RR m1 := (RR_of p_RR (kk1.2.2 65 0 (by omega) (fun z => z)) (kk1.2.2 65 1 (by omega) (fun z => z)) (kk1.2.2 65 3 (by omega) (fun z => z)))
      exact s_X2_takeVariable_17 ⟨by omega, by omega⟩ ppRR_m1 im1 km1
def W_X2_takeKind (b j : Int) : Prop := (b = 3 ∧ j = 6) ∨ (b = 3 ∧ j = 7) ∨ (b = 65 ∧ j = 10) ∨ (b = 65 ∧ j = 11) ∨ (b = 65 ∧ j = 4) ∨ (b = 65 ∧ j = 8) ∨ (b = 65 ∧ j = 9)
theorem s_X2_takeKind_48 {n : Nat} {Me : Mem} {l1 : Int} {M : Mem} (r_l1 : (-1) ≤ l1 ∧ l1 ≤ 2) (p_RR : RR M) (iM : I n M) (kM : Keep n W_X2_takeKind Me M) : wp (mX2_takeKind_48 65 l1 M) (fun q => I n q.2 ∧ Keep n W_X2_takeKind Me q.2 ∧ ((-1) ≤ q.1 ∧ q.1 ≤ 2) ∧ True) := by
  have hn : (169 : Int) ≤ (n : Int) := by have := iM.2.2.2.2.1; omega
  unfold mX2_takeKind_48
  refine w_gF (ji := 4) rfl (congrArg Prod.fst (kl_65 iM)) (fun a49 ha49 => ?_)
  have ra49 : 0 ≤ a49 ∧ a49 ≤ 1 := ha49.tr (P := fun z => 0 ≤ z ∧ z ≤ 1) (rd_Reader_4 iM rfl)
  refine w_if (fun c1_ => ?_) (fun c1_ => ?_)
  · skip
    refine w_gK (congrArg Prod.fst (kl_65 iM)) ?_
    refine w_call (s_X2_advance p_RR iM) ?_
    intro v58 m58 pp58
    obtain ⟨im58, kk58, -⟩ := pp58
    try dsimp only
    replace im58 : I n m58 := im58
    replace kk58 : Keep n W_X2_advance M m58 := kk58
    have km58 : Keep n W_X2_takeKind Me m58 := kM.tr kk58 (fun b j z => Or.elim z (fun z => (Or.inr (Or.inr (Or.inl z)))) (fun z => Or.elim z (fun z => (Or.inr (Or.inr (Or.inr (Or.inl z))))) (fun z => Or.elim z (fun z => (Or.inr (Or.inr (Or.inr (Or.inr (Or.inr (Or.inl z))))))) (fun z => (Or.inr (Or.inr (Or.inr (Or.inr (Or.inr (Or.inr z))))))))))
    exact w_ret ⟨im58, km58, (show (-1) ≤ l1 ∧ l1 ≤ 2 from ⟨by omega, by omega⟩), trivial⟩
  · skip
    exact w_ret ⟨iM, kM, (show (-1) ≤ (-1) ∧ (-1) ≤ 2 from ⟨by omega, by omega⟩), trivial⟩
theorem s_X2_takeKind {n : Nat} {M : Mem} (p_RR : RR M) (iM : I n M) : wp (mX2_takeKind 65 M) (fun q => I n q.2 ∧ Keep n W_X2_takeKind M q.2 ∧ ((-1) ≤ q.1 ∧ q.1 ≤ 2) ∧ True) := by
  have hn : (169 : Int) ≤ (n : Int) := by have := iM.2.2.2.2.1; omega
  have kM : Keep n W_X2_takeKind M M := Keep.rf
  unfold mX2_takeKind
  refine w_gK (congrArg Prod.fst (kl_65 iM)) ?_
  refine w_call (s_X2_isWord ⟨by omega, by omega⟩ p_RR iM) ?_
  intro v5 m5 pp5
  obtain ⟨im5, kk5, e5_0, -⟩ := pp5
  try dsimp only
  replace im5 : I n m5 := im5
  replace kk5 : Keep n W_X2_isWord M m5 := kk5
  have km5 : Keep n W_X2_takeKind M m5 := kM.tr kk5 (fun b j z => z.elim)
  replace e5_0 : 0 ≤ v5 ∧ v5 ≤ 1 := e5_0
  refine w_if (fun c1_ => ?_) (fun c1_ => ?_)
  · skip
    refine w_gK (congrArg Prod.fst (kl_65 im5)) ?_
    have ppRR_m5 : RR m5 := (RR_of p_RR (kk5.2.2 65 0 (by omega) (fun z => z)) (kk5.2.2 65 1 (by omega) (fun z => z)) (kk5.2.2 65 3 (by omega) (fun z => z)))
    refine w_call (s_X2_isWord ⟨by omega, by omega⟩ ppRR_m5 im5) ?_
    intro v19 m19 pp19
    obtain ⟨im19, kk19, e19_0, -⟩ := pp19
    try dsimp only
    replace im19 : I n m19 := im19
    replace kk19 : Keep n W_X2_isWord m5 m19 := kk19
    have km19 : Keep n W_X2_takeKind M m19 := km5.tr kk19 (fun b j z => z.elim)
    replace e19_0 : 0 ≤ v19 ∧ v19 ≤ 1 := e19_0
    refine w_if (fun c2_ => ?_) (fun c2_ => ?_)
    · skip
      refine w_gK (congrArg Prod.fst (kl_65 im19)) ?_
      have ppRR_m19 : RR m19 := (RR_of ppRR_m5 (kk19.2.2 65 0 (by omega) (fun z => z)) (kk19.2.2 65 1 (by omega) (fun z => z)) (kk19.2.2 65 3 (by omega) (fun z => z)))
      refine w_call (s_X2_isWord ⟨by omega, by omega⟩ ppRR_m19 im19) ?_
      intro v33 m33 pp33
      obtain ⟨im33, kk33, e33_0, -⟩ := pp33
      try dsimp only
      replace im33 : I n m33 := im33
      replace kk33 : Keep n W_X2_isWord m19 m33 := kk33
      have km33 : Keep n W_X2_takeKind M m33 := km19.tr kk33 (fun b j z => z.elim)
      replace e33_0 : 0 ≤ v33 ∧ v33 ≤ 1 := e33_0
      refine w_if (fun c3_ => ?_) (fun c3_ => ?_)
      · skip
        refine w_gK (congrArg Prod.fst (kl_65 im33)) ?_
        have ppRR_m33 : RR m33 := (RR_of ppRR_m19 (kk33.2.2 65 0 (by omega) (fun z => z)) (kk33.2.2 65 1 (by omega) (fun z => z)) (kk33.2.2 65 3 (by omega) (fun z => z)))
        refine w_call (s_X2_refuse ppRR_m33 im33) ?_
        intro v45 m45 pp45
        obtain ⟨im45, kk45, -⟩ := pp45
        try dsimp only
        replace im45 : I n m45 := im45
        replace kk45 : Keep n W_X2_refuse m33 m45 := kk45
        have km45 : Keep n W_X2_takeKind M m45 := km33.tr kk45 (fun b j z => Or.elim z (fun z => (Or.inl z)) (fun z => Or.elim z (fun z => (Or.inr (Or.inl z))) (fun z => (Or.inr (Or.inr (Or.inr (Or.inr (Or.inl z))))))))
        have ppRR_m45 : RR m45 := (RR_of ppRR_m33 (kk45.2.2 65 0 (by omega) (fun z => by unfold W_X2_refuse at z; (try unfold isWS at z); (try unfold isShape at z); (try unfold isTold at z); (try dsimp only at z); omega)) (kk45.2.2 65 1 (by omega) (fun z => by unfold W_X2_refuse at z; (try unfold isWS at z); (try unfold isShape at z); (try unfold isTold at z); (try dsimp only at z); omega)) (kk45.2.2 65 3 (by omega) (fun z => by unfold W_X2_refuse at z; (try unfold isWS at z); (try unfold isShape at z); (try unfold isTold at z); (try dsimp only at z); omega)))
        exact s_X2_takeKind_48 ⟨by omega, by omega⟩ ppRR_m45 im45 km45
      · skip
        have ppRR_m33 : RR m33 := (RR_of ppRR_m19 (kk33.2.2 65 0 (by omega) (fun z => z)) (kk33.2.2 65 1 (by omega) (fun z => z)) (kk33.2.2 65 3 (by omega) (fun z => z)))
        exact s_X2_takeKind_48 ⟨by omega, by omega⟩ ppRR_m33 im33 km33
    · skip
      have ppRR_m19 : RR m19 := (RR_of ppRR_m5 (kk19.2.2 65 0 (by omega) (fun z => z)) (kk19.2.2 65 1 (by omega) (fun z => z)) (kk19.2.2 65 3 (by omega) (fun z => z)))
      exact s_X2_takeKind_48 ⟨by omega, by omega⟩ ppRR_m19 im19 km19
  · skip
    have ppRR_m5 : RR m5 := (RR_of p_RR (kk5.2.2 65 0 (by omega) (fun z => z)) (kk5.2.2 65 1 (by omega) (fun z => z)) (kk5.2.2 65 3 (by omega) (fun z => z)))
    exact s_X2_takeKind_48 ⟨by omega, by omega⟩ ppRR_m5 im5 km5
def W_X5_write (b j : Int) : Prop := (67 ≤ b ∧ b ≤ 70) ∨ (b = 66 ∧ j = 5)
theorem s_X5_write_53 {n : Nat} {Me : Mem} {M : Mem} (y0 : mG M 66 5 = mG Me 66 5 ∧ mG M 66 5 ≤ 401) (iM : I n M) (kM : Keep n W_X5_write Me M) : wp (mX5_write_53 66 M) (fun q => I n q.2 ∧ Keep n W_X5_write Me q.2 ∧ (mG q.2 66 5 = mG Me 66 5 + 1) ∧ True) := by
  have hn : (169 : Int) ≤ (n : Int) := by have := iM.2.2.2.2.1; omega
  obtain ⟨nh0, enh0⟩ : ∃ v, Is (mG M 66 5) v := ⟨_, rfl⟩
  have rnh0 : 0 ≤ nh0 ∧ nh0 ≤ 402 := by rw [← enh0.e]; exact rd_Draft_5 iM rfl
  have qnh0 : mG M 66 5 = nh0 := enh0
  (try rw [enh0.e] at y0)
  unfold mX5_write_53
  refine w_gFc (ji := 5) rfl (congrArg Prod.fst (kl_66 iM)) (show mG M 66 5 = nh0 from (show mG M 66 5 = nh0 from enh0)) ?_
  have w1_ := wI_id (x := (nh0 + 1)) (by omega) (by omega)
  refine w_pF (ji := 5) rfl (congrArg Prod.fst (kl_66 iM)) (fun M60 hM60 => ?_)
  replace hM60 : M60 = mS M 66 5 (wI (nh0 + 1)) := hM60
  have iM60 : I n M60 := wr_Draft_5 iM rfl ⟨by omega, by omega⟩ hM60
  have kM60 : Keep n W_X5_write Me M60 := kM.st hM60 (Or.inl (Or.inr ⟨rfl, rfl⟩))
  obtain ⟨svM60, esvM60⟩ : ∃ z, z = (wI (nh0 + 1)) := ⟨_, rfl⟩
  exact w_ret ⟨iM60, kM60, (show mG M60 66 5 = mG Me 66 5 + 1 from (by rw [(show mG M60 66 5 = svM60 from (show mG M60 66 5 = svM60 from ((st_eq hM60).trans esvM60.symm)))]; omega)), trivial⟩
theorem s_X5_write {n : Nat} {l1 l2 l3 l4 : Int} {M : Mem} (r_l1 : 0 ≤ l1 ∧ l1 ≤ 11) (r_l2 : (-2147483648) ≤ l2 ∧ l2 ≤ 2147483647) (r_l3 : (-2147483648) ≤ l3 ∧ l3 ≤ 3) (r_l4 : (-1) ≤ l4 ∧ l4 ≤ 3) (y0 : mG M 66 5 ≤ 401) (iM : I n M) : wp (mX5_write 66 l1 l2 l3 l4 M) (fun q => I n q.2 ∧ Keep n W_X5_write M q.2 ∧ (mG q.2 66 5 = mG M 66 5 + 1) ∧ True) := by
  have hn : (169 : Int) ≤ (n : Int) := by have := iM.2.2.2.2.1; omega
  have kM : Keep n W_X5_write M M := Keep.rf
  obtain ⟨nh0, enh0⟩ : ∃ v, Is (mG M 66 5) v := ⟨_, rfl⟩
  have rnh0 : 0 ≤ nh0 ∧ nh0 ≤ 402 := by rw [← enh0.e]; exact rd_Draft_5 iM rfl
  have qnh0 : mG M 66 5 = nh0 := enh0
  (try rw [enh0.e] at y0)
  unfold mX5_write
  refine w_gFc (ji := 5) rfl (congrArg Prod.fst (kl_66 iM)) (show mG M 66 5 = nh0 from (show mG M 66 5 = nh0 from enh0)) ?_
  refine w_gFc (ji := 0) rfl (congrArg Prod.fst (kl_66 iM)) (show mG M 66 0 = 67 from rd_Draft_0 iM (a := 66) rfl) ?_
  refine w_aL (kl_67 iM) (fun a8 ha8 => ?_)
  refine w_if (fun c1_ => ?_) (fun c1_ => ?_)
  · skip
    exact s_X5_write_53 (by (try rw [(show mG M 66 5 = nh0 from (show mG M 66 5 = nh0 from enh0))]); all_goals omega) iM kM
  · skip
    refine w_gFc (ji := 0) rfl (congrArg Prod.fst (kl_66 iM)) (show mG M 66 0 = 67 from rd_Draft_0 iM (a := 66) rfl) ?_
    refine w_gFc (ji := 5) rfl (congrArg Prod.fst (kl_66 iM)) (show mG M 66 5 = nh0 from (show mG M 66 5 = nh0 from enh0)) ?_
    refine w_aS (kl_67 iM) (by omega) (by omega) (fun M21 hM21 => ?_)
    replace hM21 : M21 = mS M 67 nh0 l1 := hM21
    have iM21 : I n M21 := wr_Dword iM rfl ⟨by omega, by omega⟩ hM21
    have kM21 : Keep n W_X5_write M M21 := kM.st hM21 (Or.inl (Or.inl ⟨by decide, by decide⟩))
    refine w_gFc (ji := 1) rfl (congrArg Prod.fst (kl_66 iM21)) (show mG M21 66 1 = 68 from rd_Draft_1 iM21 (a := 66) rfl) ?_
    refine w_gFc (ji := 5) rfl (congrArg Prod.fst (kl_66 iM21)) (show mG M21 66 5 = nh0 from ((st_ne hM21 (fun z => ne_fam rfl rfl (by decide) z.1)).trans (show mG M 66 5 = nh0 from enh0))) ?_
    refine w_aS (kl_68 iM21) (by omega) (by omega) (fun M31 hM31 => ?_)
    replace hM31 : M31 = mS M21 68 nh0 l2 := hM31
    have iM31 : I n M31 := wr_Dof iM21 rfl ⟨by omega, by omega⟩ hM31
    have kM31 : Keep n W_X5_write M M31 := kM21.st hM31 (Or.inl (Or.inl ⟨by decide, by decide⟩))
    refine w_gFc (ji := 2) rfl (congrArg Prod.fst (kl_66 iM31)) (show mG M31 66 2 = 69 from rd_Draft_2 iM31 (a := 66) rfl) ?_
    refine w_gFc (ji := 5) rfl (congrArg Prod.fst (kl_66 iM31)) (show mG M31 66 5 = nh0 from ((st_ne hM31 (fun z => ne_fam rfl rfl (by decide) z.1)).trans ((st_ne hM21 (fun z => ne_fam rfl rfl (by decide) z.1)).trans (show mG M 66 5 = nh0 from enh0)))) ?_
    refine w_aS (kl_69 iM31) (by omega) (by omega) (fun M41 hM41 => ?_)
    replace hM41 : M41 = mS M31 69 nh0 l3 := hM41
    have iM41 : I n M41 := wr_Dfirst iM31 rfl ⟨by omega, by omega⟩ hM41
    have kM41 : Keep n W_X5_write M M41 := kM31.st hM41 (Or.inl (Or.inl ⟨by decide, by decide⟩))
    refine w_gFc (ji := 3) rfl (congrArg Prod.fst (kl_66 iM41)) (show mG M41 66 3 = 70 from rd_Draft_3 iM41 (a := 66) rfl) ?_
    refine w_gFc (ji := 5) rfl (congrArg Prod.fst (kl_66 iM41)) (show mG M41 66 5 = nh0 from ((st_ne hM41 (fun z => ne_fam rfl rfl (by decide) z.1)).trans ((st_ne hM31 (fun z => ne_fam rfl rfl (by decide) z.1)).trans ((st_ne hM21 (fun z => ne_fam rfl rfl (by decide) z.1)).trans (show mG M 66 5 = nh0 from enh0))))) ?_
    refine w_aS (kl_70 iM41) (by omega) (by omega) (fun M52 hM52 => ?_)
    replace hM52 : M52 = mS M41 70 nh0 l4 := hM52
    have iM52 : I n M52 := wr_Dsecond iM41 rfl ⟨by omega, by omega⟩ hM52
    have kM52 : Keep n W_X5_write M M52 := kM41.st hM52 (Or.inl (Or.inl ⟨by decide, by decide⟩))
    exact s_X5_write_53 (by (try rw [(show mG M52 66 5 = nh0 from ((st_ne hM52 (fun z => ne_fam rfl rfl (by decide) z.1)).trans ((st_ne hM41 (fun z => ne_fam rfl rfl (by decide) z.1)).trans ((st_ne hM31 (fun z => ne_fam rfl rfl (by decide) z.1)).trans ((st_ne hM21 (fun z => ne_fam rfl rfl (by decide) z.1)).trans (show mG M 66 5 = nh0 from enh0))))))]); all_goals omega) iM52 kM52
def W_X2_bind (b j : Int) : Prop := False
theorem s_X2_bind {n : Nat} {l0 l1 l2 l3 : Int} {M : Mem} (r_l0 : (-2147483648) ≤ l0 ∧ l0 ≤ 2147483647) (r_l1 : (-119) ≤ l1 ∧ l1 ≤ 136) (r_l2 : (-1) ≤ l2 ∧ l2 ≤ 2) (r_l3 : (-2147483648) ≤ l3 ∧ l3 ≤ 3) (iM : I n M) : wp (mX2_bind l0 l1 l2 l3 M) (fun q => I n q.2 ∧ Keep n W_X2_bind M q.2 ∧ ((-2147483648) ≤ q.1 ∧ q.1 ≤ 2147483647) ∧ True) := by
  have hn : (169 : Int) ≤ (n : Int) := by have := iM.2.2.2.2.1; omega
  have kM : Keep n W_X2_bind M M := Keep.rf
  unfold mX2_bind
  refine w_call (s_X2_depth ⟨by omega, by omega⟩ iM) ?_
  intro v6 m6 pp6
  obtain ⟨im6, kk6, e6_0, -⟩ := pp6
  try dsimp only
  replace im6 : I n m6 := im6
  replace kk6 : Keep n W_X2_depth M m6 := kk6
  have km6 : Keep n W_X2_bind M m6 := kM.tr kk6 (fun b j z => z.elim)
  replace e6_0 : (-2147483648) ≤ v6 ∧ v6 ≤ 2147483647 := e6_0
  have w1_ := And.intro (wI_lo (v6 + 1)) (wI_hi (v6 + 1))
  obtain ⟨w2_e, w2_⟩ : ∃ z, (if 4 < (wI (v6 + 1)) then 4 else (wI (v6 + 1))) = z := ⟨_, rfl⟩
  have w2_x : (4 < (wI (v6 + 1)) ∧ w2_e = 4) ∨ (¬ 4 < (wI (v6 + 1)) ∧ w2_e = (wI (v6 + 1))) := by rw [← w2_]; split <;> omega
  have w2_y : (if 4 < (wI (v6 + 1)) then 4 else (wI (v6 + 1))) = w2_e := w2_
  refine w_some (fun b15 hb15 => ?_)
  replace hb15 : b15 = (if 4 < (wI (v6 + 1)) then 4 else (wI (v6 + 1))) := hb15
  have w3_ := iand_r (x := l0) (y := 65535) (by omega) (by omega)
  have w4_ := wI_id (x := (4 * l1)) (by omega) (by omega)
  have w5_ := ishl_in 15 (wI (4 * l1))
  have w6_ := ixor_in (ishl 15 (wI (4 * l1))) (-1)
  have w7_ := iand_l (x := (iand l0 65535)) (y := (ixor (ishl 15 (wI (4 * l1))) (-1))) (by omega) (by omega)
  refine w_some (fun b29 hb29 => ?_)
  replace hb29 : b29 = (iand (iand l0 65535) (ixor (ishl 15 (wI (4 * l1))) (-1))) := hb29
  have w9_ := wI_id (x := (1 + l2)) (by omega) (by omega)
  have w10_ := And.intro (wI_lo (4 * l3)) (wI_hi (4 * l3))
  have w11_ := And.intro (wI_lo ((wI (1 + l2)) + (wI (4 * l3)))) (wI_hi ((wI (1 + l2)) + (wI (4 * l3))))
  have w12_ := ishl_in (wI ((wI (1 + l2)) + (wI (4 * l3)))) (wI (4 * l1))
  have w13_ := ior_in b29 (ishl (wI ((wI (1 + l2)) + (wI (4 * l3)))) (wI (4 * l1)))
  have w14_ := ishl_in b15 16
  have w15_ := ior_in (ior b29 (ishl (wI ((wI (1 + l2)) + (wI (4 * l3)))) (wI (4 * l1)))) (ishl b15 16)
  exact w_ret ⟨im6, km6, (show (-2147483648) ≤ (ior (ior b29 (ishl (wI ((wI (1 + l2)) + (wI (4 * l3)))) (wI (4 * l1)))) (ishl b15 16)) ∧ (ior (ior b29 (ishl (wI ((wI (1 + l2)) + (wI (4 * l3)))) (wI (4 * l1)))) (ishl b15 16)) ≤ 2147483647 from ⟨by omega, by omega⟩), trivial⟩
def W_X2_readBinder (b j : Int) : Prop := (67 ≤ b ∧ b ≤ 70) ∨ b = 72 ∨ (b = 3 ∧ j = 6) ∨ (b = 3 ∧ j = 7) ∨ (b = 65 ∧ j = 10) ∨ (b = 65 ∧ j = 11) ∨ (b = 65 ∧ j = 4) ∨ (b = 65 ∧ j = 7) ∨ (b = 65 ∧ j = 8) ∨ (b = 65 ∧ j = 9) ∨ (b = 66 ∧ j = 5)
theorem s_X2_readBinder_39 {n : Nat} {Me : Mem} {l1 l2 s0 : Int} {M : Mem} (r_l1 : 0 ≤ l1 ∧ l1 ≤ 3) (r_l2 : (-2147483648) ≤ l2 ∧ l2 ≤ 2147483647) (r_s0 : (-2147483648) ≤ s0 ∧ s0 ≤ 2147483647) (y0 : mG M 66 5 ≤ 401 ∧ mG M 66 5 = mG Me 66 5) (p_RR : RR M) (iM : I n M) (kM : Keep n W_X2_readBinder Me M) : wp (mX2_readBinder_39 65 l1 l2 s0 M) (fun q => I n q.2 ∧ Keep n W_X2_readBinder Me q.2 ∧ (mG q.2 66 5 ≤ mG Me 66 5 + 1) ∧ True) := by
  have hn : (169 : Int) ≤ (n : Int) := by have := iM.2.2.2.2.1; omega
  obtain ⟨nh0, enh0⟩ : ∃ v, Is (mG M 66 5) v := ⟨_, rfl⟩
  have rnh0 : 0 ≤ nh0 ∧ nh0 ≤ 402 := by rw [← enh0.e]; exact rd_Draft_5 iM rfl
  have qnh0 : mG M 66 5 = nh0 := enh0
  (try rw [enh0.e] at y0)
  unfold mX2_readBinder_39
  refine w_gK (congrArg Prod.fst (kl_65 iM)) ?_
  refine w_call (s_X2_takeVariable p_RR iM) ?_
  intro v41 m41 pp41
  obtain ⟨im41, kk41, e41_0, -⟩ := pp41
  try dsimp only
  replace im41 : I n m41 := im41
  replace kk41 : Keep n W_X2_takeVariable M m41 := kk41
  have km41 : Keep n W_X2_readBinder Me m41 := kM.tr kk41 (fun b j z => Or.elim z (fun z => (Or.inr (Or.inr (Or.inl z)))) (fun z => Or.elim z (fun z => (Or.inr (Or.inr (Or.inr (Or.inl z))))) (fun z => Or.elim z (fun z => (Or.inr (Or.inr (Or.inr (Or.inr (Or.inl z)))))) (fun z => Or.elim z (fun z => (Or.inr (Or.inr (Or.inr (Or.inr (Or.inr (Or.inl z))))))) (fun z => Or.elim z (fun z => (Or.inr (Or.inr (Or.inr (Or.inr (Or.inr (Or.inr (Or.inl z)))))))) (fun z => Or.elim z (fun z => (Or.inr (Or.inr (Or.inr (Or.inr (Or.inr (Or.inr (Or.inr (Or.inr (Or.inl z)))))))))) (fun z => (Or.inr (Or.inr (Or.inr (Or.inr (Or.inr (Or.inr (Or.inr (Or.inr (Or.inr (Or.inl z)))))))))))))))))
  replace e41_0 : (-119) ≤ v41 ∧ v41 ≤ 136 := e41_0
  refine w_gK (congrArg Prod.fst (kl_65 im41)) ?_
  have ppRR_m41 : RR m41 := (RR_of p_RR (kk41.2.2 65 0 (by omega) (fun z => by unfold W_X2_takeVariable at z; (try unfold isWS at z); (try unfold isShape at z); (try unfold isTold at z); (try dsimp only at z); omega)) (kk41.2.2 65 1 (by omega) (fun z => by unfold W_X2_takeVariable at z; (try unfold isWS at z); (try unfold isShape at z); (try unfold isTold at z); (try dsimp only at z); omega)) (kk41.2.2 65 3 (by omega) (fun z => by unfold W_X2_takeVariable at z; (try unfold isWS at z); (try unfold isShape at z); (try unfold isTold at z); (try dsimp only at z); omega)))
  refine w_call (s_X2_takeKind ppRR_m41 im41) ?_
  intro v47 m47 pp47
  obtain ⟨im47, kk47, e47_0, -⟩ := pp47
  try dsimp only
  replace im47 : I n m47 := im47
  replace kk47 : Keep n W_X2_takeKind m41 m47 := kk47
  have km47 : Keep n W_X2_readBinder Me m47 := km41.tr kk47 (fun b j z => Or.elim z (fun z => (Or.inr (Or.inr (Or.inl z)))) (fun z => Or.elim z (fun z => (Or.inr (Or.inr (Or.inr (Or.inl z))))) (fun z => Or.elim z (fun z => (Or.inr (Or.inr (Or.inr (Or.inr (Or.inl z)))))) (fun z => Or.elim z (fun z => (Or.inr (Or.inr (Or.inr (Or.inr (Or.inr (Or.inl z))))))) (fun z => Or.elim z (fun z => (Or.inr (Or.inr (Or.inr (Or.inr (Or.inr (Or.inr (Or.inl z)))))))) (fun z => Or.elim z (fun z => (Or.inr (Or.inr (Or.inr (Or.inr (Or.inr (Or.inr (Or.inr (Or.inr (Or.inl z)))))))))) (fun z => (Or.inr (Or.inr (Or.inr (Or.inr (Or.inr (Or.inr (Or.inr (Or.inr (Or.inr (Or.inl z)))))))))))))))))
  replace e47_0 : (-1) ≤ v47 ∧ v47 ≤ 2 := e47_0
  refine w_gF (ji := 4) rfl (congrArg Prod.fst (kl_65 im47)) (fun a53 ha53 => ?_)
  have ra53 : 0 ≤ a53 ∧ a53 ≤ 1 := ha53.tr (P := fun z => 0 ≤ z ∧ z ≤ 1) (rd_Reader_4 im47 rfl)
  refine w_if (fun c1_ => ?_) (fun c1_ => ?_)
  · skip
    refine w_call (s_X2_depth ⟨by omega, by omega⟩ im47) ?_
    intro v61 m61 pp61
    obtain ⟨im61, kk61, e61_0, -⟩ := pp61
    try dsimp only
    replace im61 : I n m61 := im61
    replace kk61 : Keep n W_X2_depth m47 m61 := kk61
    have km61 : Keep n W_X2_readBinder Me m61 := km47.tr kk61 (fun b j z => z.elim)
    replace e61_0 : (-2147483648) ≤ v61 ∧ v61 ≤ 2147483647 := e61_0
    obtain ⟨w2_e, w2_⟩ : ∃ z, (if 3 < v61 then 3 else v61) = z := ⟨_, rfl⟩
    have w2_x : (3 < v61 ∧ w2_e = 3) ∨ (¬ 3 < v61 ∧ w2_e = v61) := by rw [← w2_]; split <;> omega
    have w2_y : (if 3 < v61 then 3 else v61) = w2_e := w2_
    refine w_some (fun b68 hb68 => ?_)
    replace hb68 : b68 = (if 3 < v61 then 3 else v61) := hb68
    refine w_gFc (ji := 5) rfl (congrArg Prod.fst (kl_65 im61)) (show mG m61 65 5 = 66 from rd_Reader_5 im61 (a := 65) rfl) ?_
    refine w_gK (congrArg Prod.fst (kl_66 im61)) ?_
    have lbm80_5 : mG m61 66 5 = nh0 := (show mG m61 66 5 = nh0 from ((kk61.2.2 66 5 (by omega) (fun z => z)).trans ((kk47.2.2 66 5 (by omega) (fun z => by unfold W_X2_takeKind at z; (try unfold isWS at z); (try unfold isShape at z); (try unfold isTold at z); (try dsimp only at z); omega)).trans ((kk41.2.2 66 5 (by omega) (fun z => by unfold W_X2_takeVariable at z; (try unfold isWS at z); (try unfold isShape at z); (try unfold isTold at z); (try dsimp only at z); omega)).trans (show mG M 66 5 = nh0 from enh0)))))
    refine w_call (s_X5_write ⟨by omega, by omega⟩ ⟨by omega, by omega⟩ ⟨by omega, by omega⟩ ⟨by omega, by omega⟩ (by (try rw [(show mG m61 66 5 = nh0 from ((kk61.2.2 66 5 (by omega) (fun z => z)).trans ((kk47.2.2 66 5 (by omega) (fun z => by unfold W_X2_takeKind at z; (try unfold isWS at z); (try unfold isShape at z); (try unfold isTold at z); (try dsimp only at z); omega)).trans ((kk41.2.2 66 5 (by omega) (fun z => by unfold W_X2_takeVariable at z; (try unfold isWS at z); (try unfold isShape at z); (try unfold isTold at z); (try dsimp only at z); omega)).trans (show mG M 66 5 = nh0 from enh0)))))]); all_goals omega) im61) ?_
    intro v80 m80 pp80
    obtain ⟨im80, kk80, e80_0, -⟩ := pp80
    try dsimp only
    replace im80 : I n m80 := im80
    replace kk80 : Keep n W_X5_write m61 m80 := kk80
    have km80 : Keep n W_X2_readBinder Me m80 := km61.tr kk80 (fun b j z => Or.elim z (fun z => (Or.inl z)) (fun z => (Or.inr (Or.inr (Or.inr (Or.inr (Or.inr (Or.inr (Or.inr (Or.inr (Or.inr (Or.inr z))))))))))))
    replace e80_0 : mG m80 66 5 = mG m61 66 5 + 1 := e80_0
    obtain ⟨hv80_5, ehv80_5⟩ : ∃ v, Is (mG m80 66 5) v := ⟨_, rfl⟩
    have lhv80_5 : mG m80 66 5 = hv80_5 := ehv80_5
    have rhv80_5 : 0 ≤ hv80_5 ∧ hv80_5 ≤ 402 := by rw [← ehv80_5.e]; exact rd_Draft_5 im80 rfl
    refine w_call (s_X2_bind ⟨by omega, by omega⟩ ⟨by omega, by omega⟩ ⟨by omega, by omega⟩ ⟨by omega, by omega⟩ im80) ?_
    intro v91 m91 pp91
    obtain ⟨im91, kk91, e91_0, -⟩ := pp91
    try dsimp only
    replace im91 : I n m91 := im91
    replace kk91 : Keep n W_X2_bind m80 m91 := kk91
    have km91 : Keep n W_X2_readBinder Me m91 := km80.tr kk91 (fun b j z => z.elim)
    replace e91_0 : (-2147483648) ≤ v91 ∧ v91 ≤ 2147483647 := e91_0
    refine w_gK (congrArg Prod.fst (kl_65 im91)) ?_
    have ppRR_m91 : RR m91 := (RR_of (RR_of (RR_of (RR_of ppRR_m41 (kk47.2.2 65 0 (by omega) (fun z => by unfold W_X2_takeKind at z; (try unfold isWS at z); (try unfold isShape at z); (try unfold isTold at z); (try dsimp only at z); omega)) (kk47.2.2 65 1 (by omega) (fun z => by unfold W_X2_takeKind at z; (try unfold isWS at z); (try unfold isShape at z); (try unfold isTold at z); (try dsimp only at z); omega)) (kk47.2.2 65 3 (by omega) (fun z => by unfold W_X2_takeKind at z; (try unfold isWS at z); (try unfold isShape at z); (try unfold isTold at z); (try dsimp only at z); omega))) (kk61.2.2 65 0 (by omega) (fun z => z)) (kk61.2.2 65 1 (by omega) (fun z => z)) (kk61.2.2 65 3 (by omega) (fun z => z))) (kk80.2.2 65 0 (by omega) (fun z => by unfold W_X5_write at z; (try unfold isWS at z); (try unfold isShape at z); (try unfold isTold at z); (try dsimp only at z); omega)) (kk80.2.2 65 1 (by omega) (fun z => by unfold W_X5_write at z; (try unfold isWS at z); (try unfold isShape at z); (try unfold isTold at z); (try dsimp only at z); omega)) (kk80.2.2 65 3 (by omega) (fun z => by unfold W_X5_write at z; (try unfold isWS at z); (try unfold isShape at z); (try unfold isTold at z); (try dsimp only at z); omega))) (kk91.2.2 65 0 (by omega) (fun z => z)) (kk91.2.2 65 1 (by omega) (fun z => z)) (kk91.2.2 65 3 (by omega) (fun z => z)))
    refine w_call (s_X2_expectPart ⟨by omega, by omega⟩ ppRR_m91 im91) ?_
    intro v94 m94 pp94
    obtain ⟨im94, kk94, -⟩ := pp94
    try dsimp only
    replace im94 : I n m94 := im94
    replace kk94 : Keep n W_X2_expectPart m91 m94 := kk94
    have km94 : Keep n W_X2_readBinder Me m94 := km91.tr kk94 (fun b j z => Or.elim z (fun z => (Or.inr (Or.inl z))) (fun z => (Or.inr (Or.inr (Or.inr (Or.inr (Or.inr (Or.inr (Or.inr (Or.inl z))))))))))
    exact w_ret ⟨im94, km94, (show mG m94 66 5 ≤ mG Me 66 5 + 1 from (by rw [(show mG m94 66 5 = hv80_5 from ((kk94.2.2 66 5 (by omega) (fun z => by unfold W_X2_expectPart at z; (try unfold isWS at z); (try unfold isShape at z); (try unfold isTold at z); (try dsimp only at z); omega)).trans ((kk91.2.2 66 5 (by omega) (fun z => z)).trans (show mG m80 66 5 = hv80_5 from ehv80_5))))]; omega)), trivial⟩
  · skip
    exact w_ret ⟨im47, km47, (show mG m47 66 5 ≤ mG Me 66 5 + 1 from (by rw [(show mG m47 66 5 = nh0 from ((kk47.2.2 66 5 (by omega) (fun z => by unfold W_X2_takeKind at z; (try unfold isWS at z); (try unfold isShape at z); (try unfold isTold at z); (try dsimp only at z); omega)).trans ((kk41.2.2 66 5 (by omega) (fun z => by unfold W_X2_takeVariable at z; (try unfold isWS at z); (try unfold isShape at z); (try unfold isTold at z); (try dsimp only at z); omega)).trans (show mG M 66 5 = nh0 from enh0))))]; omega)), trivial⟩
theorem s_X2_readBinder_31 {n : Nat} {Me : Mem} {l1 l2 : Int} {M : Mem} (r_l1 : 2 ≤ l1 ∧ l1 ≤ 3) (r_l2 : (-2147483648) ≤ l2 ∧ l2 ≤ 2147483647) (y0 : mG M 66 5 ≤ 401 ∧ mG M 66 5 = mG Me 66 5) (p_RR : RR M) (iM : I n M) (kM : Keep n W_X2_readBinder Me M) : wp (mX2_readBinder_31 65 l1 l2 M) (fun q => I n q.2 ∧ Keep n W_X2_readBinder Me q.2 ∧ (mG q.2 66 5 ≤ mG Me 66 5 + 1) ∧ True) := by
  have hn : (169 : Int) ≤ (n : Int) := by have := iM.2.2.2.2.1; omega
  obtain ⟨nh0, enh0⟩ : ∃ v, Is (mG M 66 5) v := ⟨_, rfl⟩
  have rnh0 : 0 ≤ nh0 ∧ nh0 ≤ 402 := by rw [← enh0.e]; exact rd_Draft_5 iM rfl
  have qnh0 : mG M 66 5 = nh0 := enh0
  (try rw [enh0.e] at y0)
  unfold mX2_readBinder_31
  refine w_gK (congrArg Prod.fst (kl_65 iM)) ?_
  refine w_call (s_X2_takeNumber p_RR iM) ?_
  intro v32 m32 pp32
  obtain ⟨im32, kk32, e32_0, -⟩ := pp32
  try dsimp only
  replace im32 : I n m32 := im32
  replace kk32 : Keep n W_X2_takeNumber M m32 := kk32
  have km32 : Keep n W_X2_readBinder Me m32 := kM.tr kk32 (fun b j z => Or.elim z (fun z => (Or.inr (Or.inr (Or.inl z)))) (fun z => Or.elim z (fun z => (Or.inr (Or.inr (Or.inr (Or.inl z))))) (fun z => Or.elim z (fun z => (Or.inr (Or.inr (Or.inr (Or.inr (Or.inl z)))))) (fun z => Or.elim z (fun z => (Or.inr (Or.inr (Or.inr (Or.inr (Or.inr (Or.inl z))))))) (fun z => Or.elim z (fun z => (Or.inr (Or.inr (Or.inr (Or.inr (Or.inr (Or.inr (Or.inl z)))))))) (fun z => Or.elim z (fun z => (Or.inr (Or.inr (Or.inr (Or.inr (Or.inr (Or.inr (Or.inr (Or.inr (Or.inl z)))))))))) (fun z => (Or.inr (Or.inr (Or.inr (Or.inr (Or.inr (Or.inr (Or.inr (Or.inr (Or.inr (Or.inl z)))))))))))))))))
  replace e32_0 : (-2147483648) ≤ v32 ∧ v32 ≤ 2147483647 := e32_0
  have ppRR_m32 : RR m32 := (RR_of p_RR (kk32.2.2 65 0 (by omega) (fun z => by unfold W_X2_takeNumber at z; (try unfold isWS at z); (try unfold isShape at z); (try unfold isTold at z); (try dsimp only at z); omega)) (kk32.2.2 65 1 (by omega) (fun z => by unfold W_X2_takeNumber at z; (try unfold isWS at z); (try unfold isShape at z); (try unfold isTold at z); (try dsimp only at z); omega)) (kk32.2.2 65 3 (by omega) (fun z => by unfold W_X2_takeNumber at z; (try unfold isWS at z); (try unfold isShape at z); (try unfold isTold at z); (try dsimp only at z); omega)))
  exact s_X2_readBinder_39 ⟨by omega, by omega⟩ ⟨by omega, by omega⟩ ⟨by omega, by omega⟩ (by (try rw [(show mG m32 66 5 = nh0 from ((kk32.2.2 66 5 (by omega) (fun z => by unfold W_X2_takeNumber at z; (try unfold isWS at z); (try unfold isShape at z); (try unfold isTold at z); (try dsimp only at z); omega)).trans (show mG M 66 5 = nh0 from enh0)))]); all_goals omega) ppRR_m32 im32 km32
theorem s_X2_readBinder_17 {n : Nat} {Me : Mem} {l1 l2 : Int} {M : Mem} (r_l1 : 0 ≤ l1 ∧ l1 ≤ 3) (r_l2 : (-2147483648) ≤ l2 ∧ l2 ≤ 2147483647) (y0 : mG M 66 5 ≤ 401 ∧ mG M 66 5 = mG Me 66 5) (p_RR : RR M) (iM : I n M) (kM : Keep n W_X2_readBinder Me M) : wp (mX2_readBinder_17 65 l1 l2 M) (fun q => I n q.2 ∧ Keep n W_X2_readBinder Me q.2 ∧ (mG q.2 66 5 ≤ mG Me 66 5 + 1) ∧ True) := by
  have hn : (169 : Int) ≤ (n : Int) := by have := iM.2.2.2.2.1; omega
  obtain ⟨nh0, enh0⟩ : ∃ v, Is (mG M 66 5) v := ⟨_, rfl⟩
  have rnh0 : 0 ≤ nh0 ∧ nh0 ≤ 402 := by rw [← enh0.e]; exact rd_Draft_5 iM rfl
  have qnh0 : mG M 66 5 = nh0 := enh0
  (try rw [enh0.e] at y0)
  unfold mX2_readBinder_17
  refine w_gK (congrArg Prod.fst (kl_65 iM)) ?_
  refine w_call (s_X2_advance p_RR iM) ?_
  intro v18 m18 pp18
  obtain ⟨im18, kk18, -⟩ := pp18
  try dsimp only
  replace im18 : I n m18 := im18
  replace kk18 : Keep n W_X2_advance M m18 := kk18
  have km18 : Keep n W_X2_readBinder Me m18 := kM.tr kk18 (fun b j z => Or.elim z (fun z => (Or.inr (Or.inr (Or.inr (Or.inr (Or.inl z)))))) (fun z => Or.elim z (fun z => (Or.inr (Or.inr (Or.inr (Or.inr (Or.inr (Or.inl z))))))) (fun z => Or.elim z (fun z => (Or.inr (Or.inr (Or.inr (Or.inr (Or.inr (Or.inr (Or.inr (Or.inr (Or.inl z)))))))))) (fun z => (Or.inr (Or.inr (Or.inr (Or.inr (Or.inr (Or.inr (Or.inr (Or.inr (Or.inr (Or.inl z))))))))))))))
  refine w_if (fun c1_ => ?_) (fun c1_ => ?_)
  · skip
    have ppRR_m18 : RR m18 := (RR_of p_RR (kk18.2.2 65 0 (by omega) (fun z => by unfold W_X2_advance at z; (try unfold isWS at z); (try unfold isShape at z); (try unfold isTold at z); (try dsimp only at z); omega)) (kk18.2.2 65 1 (by omega) (fun z => by unfold W_X2_advance at z; (try unfold isWS at z); (try unfold isShape at z); (try unfold isTold at z); (try dsimp only at z); omega)) (kk18.2.2 65 3 (by omega) (fun z => by unfold W_X2_advance at z; (try unfold isWS at z); (try unfold isShape at z); (try unfold isTold at z); (try dsimp only at z); omega)))
    exact s_X2_readBinder_31 ⟨by omega, by omega⟩ ⟨by omega, by omega⟩ (by (try rw [(show mG m18 66 5 = nh0 from ((kk18.2.2 66 5 (by omega) (fun z => by unfold W_X2_advance at z; (try unfold isWS at z); (try unfold isShape at z); (try unfold isTold at z); (try dsimp only at z); omega)).trans (show mG M 66 5 = nh0 from enh0)))]); all_goals omega) ppRR_m18 im18 km18
  · skip
    refine w_if (fun c2_ => ?_) (fun c2_ => ?_)
    · skip
      have ppRR_m18 : RR m18 := (RR_of p_RR (kk18.2.2 65 0 (by omega) (fun z => by unfold W_X2_advance at z; (try unfold isWS at z); (try unfold isShape at z); (try unfold isTold at z); (try dsimp only at z); omega)) (kk18.2.2 65 1 (by omega) (fun z => by unfold W_X2_advance at z; (try unfold isWS at z); (try unfold isShape at z); (try unfold isTold at z); (try dsimp only at z); omega)) (kk18.2.2 65 3 (by omega) (fun z => by unfold W_X2_advance at z; (try unfold isWS at z); (try unfold isShape at z); (try unfold isTold at z); (try dsimp only at z); omega)))
      exact s_X2_readBinder_31 ⟨by omega, by omega⟩ ⟨by omega, by omega⟩ (by (try rw [(show mG m18 66 5 = nh0 from ((kk18.2.2 66 5 (by omega) (fun z => by unfold W_X2_advance at z; (try unfold isWS at z); (try unfold isShape at z); (try unfold isTold at z); (try dsimp only at z); omega)).trans (show mG M 66 5 = nh0 from enh0)))]); all_goals omega) ppRR_m18 im18 km18
    · skip
      have ppRR_m18 : RR m18 := (RR_of p_RR (kk18.2.2 65 0 (by omega) (fun z => by unfold W_X2_advance at z; (try unfold isWS at z); (try unfold isShape at z); (try unfold isTold at z); (try dsimp only at z); omega)) (kk18.2.2 65 1 (by omega) (fun z => by unfold W_X2_advance at z; (try unfold isWS at z); (try unfold isShape at z); (try unfold isTold at z); (try dsimp only at z); omega)) (kk18.2.2 65 3 (by omega) (fun z => by unfold W_X2_advance at z; (try unfold isWS at z); (try unfold isShape at z); (try unfold isTold at z); (try dsimp only at z); omega)))
      exact s_X2_readBinder_39 ⟨by omega, by omega⟩ ⟨by omega, by omega⟩ ⟨by omega, by omega⟩ (by (try rw [(show mG m18 66 5 = nh0 from ((kk18.2.2 66 5 (by omega) (fun z => by unfold W_X2_advance at z; (try unfold isWS at z); (try unfold isShape at z); (try unfold isTold at z); (try dsimp only at z); omega)).trans (show mG M 66 5 = nh0 from enh0)))]); all_goals omega) ppRR_m18 im18 km18
theorem s_X2_readBinder {n : Nat} {l1 l2 : Int} {M : Mem} (r_l1 : 0 ≤ l1 ∧ l1 ≤ 3) (r_l2 : (-2147483648) ≤ l2 ∧ l2 ≤ 2147483647) (y0 : mG M 66 5 ≤ 401) (p_RR : RR M) (iM : I n M) : wp (mX2_readBinder 65 l1 l2 M) (fun q => I n q.2 ∧ Keep n W_X2_readBinder M q.2 ∧ (mG q.2 66 5 ≤ mG M 66 5 + 1) ∧ True) := by
  have hn : (169 : Int) ≤ (n : Int) := by have := iM.2.2.2.2.1; omega
  have kM : Keep n W_X2_readBinder M M := Keep.rf
  obtain ⟨nh0, enh0⟩ : ∃ v, Is (mG M 66 5) v := ⟨_, rfl⟩
  have rnh0 : 0 ≤ nh0 ∧ nh0 ≤ 402 := by rw [← enh0.e]; exact rd_Draft_5 iM rfl
  have qnh0 : mG M 66 5 = nh0 := enh0
  (try rw [enh0.e] at y0)
  unfold mX2_readBinder
  refine w_call (s_X2_depth ⟨by omega, by omega⟩ iM) ?_
  intro v1 m1 pp1
  obtain ⟨im1, kk1, e1_0, -⟩ := pp1
  try dsimp only
  replace im1 : I n m1 := im1
  replace kk1 : Keep n W_X2_depth M m1 := kk1
  have km1 : Keep n W_X2_readBinder M m1 := kM.tr kk1 (fun b j z => z.elim)
  replace e1_0 : (-2147483648) ≤ v1 ∧ v1 ≤ 2147483647 := e1_0
  refine w_if (fun c1_ => ?_) (fun c1_ => ?_)
  · skip
    have ppRR_m1 : RR m1 := (RR_of p_RR (kk1.2.2 65 0 (by omega) (fun z => z)) (kk1.2.2 65 1 (by omega) (fun z => z)) (kk1.2.2 65 3 (by omega) (fun z => z)))
    exact s_X2_readBinder_17 ⟨by omega, by omega⟩ ⟨by omega, by omega⟩ (by (try rw [(show mG m1 66 5 = nh0 from ((kk1.2.2 66 5 (by omega) (fun z => z)).trans (show mG M 66 5 = nh0 from enh0)))]); all_goals omega) ppRR_m1 im1 km1
  · skip
    refine w_gF (ji := 9) rfl (congrArg Prod.fst (kl_65 im1)) (fun a11 ha11 => ?_)
    have ra11 : 0 ≤ a11 ∧ a11 ≤ 400 := ha11.tr (P := fun z => 0 ≤ z ∧ z ≤ 400) (rd_Reader_9 im1 rfl)
    refine w_gK (congrArg Prod.fst (kl_65 im1)) ?_
    have ppRR_m1 : RR m1 := (RR_of p_RR (kk1.2.2 65 0 (by omega) (fun z => z)) (kk1.2.2 65 1 (by omega) (fun z => z)) (kk1.2.2 65 3 (by omega) (fun z => z)))
    refine w_call (s_X2_note ⟨by omega, by omega⟩ ⟨by omega, by omega⟩ ppRR_m1 im1) ?_
    intro v14 m14 pp14
    obtain ⟨im14, kk14, -⟩ := pp14
    try dsimp only
    replace im14 : I n m14 := im14
    replace kk14 : Keep n W_X2_note m1 m14 := kk14
    have km14 : Keep n W_X2_readBinder M m14 := km1.tr kk14 (fun b j z => Or.elim z (fun z => (Or.inr (Or.inr (Or.inl z)))) (fun z => (Or.inr (Or.inr (Or.inr (Or.inl z))))))
    have ppRR_m14 : RR m14 := (RR_of ppRR_m1 (kk14.2.2 65 0 (by omega) (fun z => by unfold W_X2_note at z; (try unfold isWS at z); (try unfold isShape at z); (try unfold isTold at z); (try dsimp only at z); omega)) (kk14.2.2 65 1 (by omega) (fun z => by unfold W_X2_note at z; (try unfold isWS at z); (try unfold isShape at z); (try unfold isTold at z); (try dsimp only at z); omega)) (kk14.2.2 65 3 (by omega) (fun z => by unfold W_X2_note at z; (try unfold isWS at z); (try unfold isShape at z); (try unfold isTold at z); (try dsimp only at z); omega)))
    exact s_X2_readBinder_17 ⟨by omega, by omega⟩ ⟨by omega, by omega⟩ (by (try rw [(show mG m14 66 5 = nh0 from ((kk14.2.2 66 5 (by omega) (fun z => by unfold W_X2_note at z; (try unfold isWS at z); (try unfold isShape at z); (try unfold isTold at z); (try dsimp only at z); omega)).trans ((kk1.2.2 66 5 (by omega) (fun z => z)).trans (show mG M 66 5 = nh0 from enh0))))]); all_goals omega) ppRR_m14 im14 km14
def W_X2_readJoint (b j : Int) : Prop := (67 ≤ b ∧ b ≤ 70) ∨ b = 72 ∨ (b = 65 ∧ j = 10) ∨ (b = 65 ∧ j = 11) ∨ (b = 65 ∧ j = 7) ∨ (b = 65 ∧ j = 8) ∨ (b = 65 ∧ j = 9) ∨ (b = 66 ∧ j = 5)
theorem s_X2_readJoint {n : Nat} {l1 l2 : Int} {M : Mem} (r_l1 : 4 ≤ l1 ∧ l1 ≤ 7) (r_l2 : (-2147483648) ≤ l2 ∧ l2 ≤ 2147483647) (y0 : mG M 66 5 ≤ 401) (p_RR : RR M) (iM : I n M) : wp (mX2_readJoint 65 l1 l2 M) (fun q => I n q.2 ∧ Keep n W_X2_readJoint M q.2 ∧ (mG q.2 66 5 ≤ mG M 66 5 + 1) ∧ True) := by
  have hn : (169 : Int) ≤ (n : Int) := by have := iM.2.2.2.2.1; omega
  have kM : Keep n W_X2_readJoint M M := Keep.rf
  obtain ⟨nh0, enh0⟩ : ∃ v, Is (mG M 66 5) v := ⟨_, rfl⟩
  have rnh0 : 0 ≤ nh0 ∧ nh0 ≤ 402 := by rw [← enh0.e]; exact rd_Draft_5 iM rfl
  have qnh0 : mG M 66 5 = nh0 := enh0
  (try rw [enh0.e] at y0)
  unfold mX2_readJoint
  refine w_gK (congrArg Prod.fst (kl_65 iM)) ?_
  refine w_call (s_X2_advance p_RR iM) ?_
  intro v1 m1 pp1
  obtain ⟨im1, kk1, -⟩ := pp1
  try dsimp only
  replace im1 : I n m1 := im1
  replace kk1 : Keep n W_X2_advance M m1 := kk1
  have km1 : Keep n W_X2_readJoint M m1 := kM.tr kk1 (fun b j z => Or.elim z (fun z => (Or.inr (Or.inr (Or.inl z)))) (fun z => Or.elim z (fun z => (Or.inr (Or.inr (Or.inr (Or.inl z))))) (fun z => Or.elim z (fun z => (Or.inr (Or.inr (Or.inr (Or.inr (Or.inr (Or.inl z))))))) (fun z => (Or.inr (Or.inr (Or.inr (Or.inr (Or.inr (Or.inr (Or.inl z)))))))))))
  refine w_gFc (ji := 5) rfl (congrArg Prod.fst (kl_65 im1)) (show mG m1 65 5 = 66 from rd_Reader_5 im1 (a := 65) rfl) ?_
  refine w_gK (congrArg Prod.fst (kl_66 im1)) ?_
  have lbm12_5 : mG m1 66 5 = nh0 := (show mG m1 66 5 = nh0 from ((kk1.2.2 66 5 (by omega) (fun z => by unfold W_X2_advance at z; (try unfold isWS at z); (try unfold isShape at z); (try unfold isTold at z); (try dsimp only at z); omega)).trans (show mG M 66 5 = nh0 from enh0)))
  refine w_call (s_X5_write ⟨by omega, by omega⟩ ⟨by omega, by omega⟩ ⟨by omega, by omega⟩ ⟨by omega, by omega⟩ (by (try rw [(show mG m1 66 5 = nh0 from ((kk1.2.2 66 5 (by omega) (fun z => by unfold W_X2_advance at z; (try unfold isWS at z); (try unfold isShape at z); (try unfold isTold at z); (try dsimp only at z); omega)).trans (show mG M 66 5 = nh0 from enh0)))]); all_goals omega) im1) ?_
  intro v12 m12 pp12
  obtain ⟨im12, kk12, e12_0, -⟩ := pp12
  try dsimp only
  replace im12 : I n m12 := im12
  replace kk12 : Keep n W_X5_write m1 m12 := kk12
  have km12 : Keep n W_X2_readJoint M m12 := km1.tr kk12 (fun b j z => Or.elim z (fun z => (Or.inl z)) (fun z => (Or.inr (Or.inr (Or.inr (Or.inr (Or.inr (Or.inr (Or.inr z)))))))))
  replace e12_0 : mG m12 66 5 = mG m1 66 5 + 1 := e12_0
  obtain ⟨hv12_5, ehv12_5⟩ : ∃ v, Is (mG m12 66 5) v := ⟨_, rfl⟩
  have lhv12_5 : mG m12 66 5 = hv12_5 := ehv12_5
  have rhv12_5 : 0 ≤ hv12_5 ∧ hv12_5 ≤ 402 := by rw [← ehv12_5.e]; exact rd_Draft_5 im12 rfl
  refine w_gK (congrArg Prod.fst (kl_65 im12)) ?_
  have ppRR_m12 : RR m12 := (RR_of (RR_of p_RR (kk1.2.2 65 0 (by omega) (fun z => by unfold W_X2_advance at z; (try unfold isWS at z); (try unfold isShape at z); (try unfold isTold at z); (try dsimp only at z); omega)) (kk1.2.2 65 1 (by omega) (fun z => by unfold W_X2_advance at z; (try unfold isWS at z); (try unfold isShape at z); (try unfold isTold at z); (try dsimp only at z); omega)) (kk1.2.2 65 3 (by omega) (fun z => by unfold W_X2_advance at z; (try unfold isWS at z); (try unfold isShape at z); (try unfold isTold at z); (try dsimp only at z); omega))) (kk12.2.2 65 0 (by omega) (fun z => by unfold W_X5_write at z; (try unfold isWS at z); (try unfold isShape at z); (try unfold isTold at z); (try dsimp only at z); omega)) (kk12.2.2 65 1 (by omega) (fun z => by unfold W_X5_write at z; (try unfold isWS at z); (try unfold isShape at z); (try unfold isTold at z); (try dsimp only at z); omega)) (kk12.2.2 65 3 (by omega) (fun z => by unfold W_X5_write at z; (try unfold isWS at z); (try unfold isShape at z); (try unfold isTold at z); (try dsimp only at z); omega)))
  refine w_call (s_X2_expectPart ⟨by omega, by omega⟩ ppRR_m12 im12) ?_
  intro v17 m17 pp17
  obtain ⟨im17, kk17, -⟩ := pp17
  try dsimp only
  replace im17 : I n m17 := im17
  replace kk17 : Keep n W_X2_expectPart m12 m17 := kk17
  have km17 : Keep n W_X2_readJoint M m17 := km12.tr kk17 (fun b j z => Or.elim z (fun z => (Or.inr (Or.inl z))) (fun z => (Or.inr (Or.inr (Or.inr (Or.inr (Or.inl z)))))))
  exact w_ret ⟨im17, km17, (show mG m17 66 5 ≤ mG M 66 5 + 1 from (by rw [(show mG m17 66 5 = hv12_5 from ((kk17.2.2 66 5 (by omega) (fun z => by unfold W_X2_expectPart at z; (try unfold isWS at z); (try unfold isShape at z); (try unfold isTold at z); (try dsimp only at z); omega)).trans (show mG m12 66 5 = hv12_5 from ehv12_5)))]; omega)), trivial⟩
def W_X2_kindOf (b j : Int) : Prop := False
theorem s_X2_kindOf {n : Nat} {l0 : Int} {M : Mem} (r_l0 : 0 ≤ l0 ∧ l0 ≤ 15) (iM : I n M) : wp (mX2_kindOf l0 M) (fun q => I n q.2 ∧ Keep n W_X2_kindOf M q.2 ∧ ((-1) ≤ q.1 ∧ q.1 ≤ 3) ∧ True) := by
  have hn : (169 : Int) ≤ (n : Int) := by have := iM.2.2.2.2.1; omega
  have kM : Keep n W_X2_kindOf M M := Keep.rf
  unfold mX2_kindOf
  refine w_if (fun c1_ => ?_) (fun c1_ => ?_)
  · skip
    exact w_ret ⟨iM, kM, (show (-1) ≤ (-1) ∧ (-1) ≤ 3 from ⟨by omega, by omega⟩), trivial⟩
  · skip
    have w2_ := wI_id (x := (l0 - 1)) (by omega) (by omega)
    have w3_ := iand_l (x := (wI (l0 - 1))) (y := 3) (by omega) (by omega)
    have w4_ := iand_r (x := (wI (l0 - 1))) (y := 3) (by omega) (by omega)
    exact w_ret ⟨iM, kM, (show (-1) ≤ (iand (wI (l0 - 1)) 3) ∧ (iand (wI (l0 - 1)) 3) ≤ 3 from ⟨by omega, by omega⟩), trivial⟩
