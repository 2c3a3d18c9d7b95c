def W_X9_later (b j : Int) : Prop := (b = 126 ∧ j = 36) ∨ (b = 126 ∧ j = 37)
theorem s_X9_later_31 {n : Nat} {Me : Mem} {l1 l2 : Int} {M : Mem} (r_l1 : 2 ≤ l1 ∧ l1 ≤ 5) (r_l2 : 0 ≤ l2 ∧ l2 ≤ 400) (iM : I n M) (kM : Keep n W_X9_later Me M) : wp (mX9_later_31 126 l1 l2 M) (fun q => I n q.2 ∧ Keep n W_X9_later Me q.2 ∧ True) := by
  have hn : (169 : Int) ≤ (n : Int) := by have := iM.2.2.2.2.1; omega
  unfold mX9_later_31
  refine w_pF (ji := 36) rfl (congrArg Prod.fst (kl_126 iM)) (fun M33 hM33 => ?_)
  replace hM33 : M33 = mS M 126 36 l1 := hM33
  have iM33 : I n M33 := wr_Model_36 iM rfl ⟨by omega, by omega⟩ hM33
  have kM33 : Keep n W_X9_later Me M33 := kM.st hM33 (Or.inl (Or.inl ⟨rfl, rfl⟩))
  refine w_pF (ji := 37) rfl (congrArg Prod.fst (kl_126 iM33)) (fun M38 hM38 => ?_)
  replace hM38 : M38 = mS M33 126 37 l2 := hM38
  have iM38 : I n M38 := wr_Model_37 iM33 rfl ⟨by omega, by omega⟩ hM38
  have kM38 : Keep n W_X9_later Me M38 := kM33.st hM38 (Or.inl (Or.inr ⟨rfl, rfl⟩))
  exact w_ret ⟨iM38, kM38, trivial⟩
theorem s_X9_later {n : Nat} {l1 l2 : Int} {M : Mem} (r_l1 : 2 ≤ l1 ∧ l1 ≤ 5) (r_l2 : 0 ≤ l2 ∧ l2 ≤ 400) (iM : I n M) : wp (mX9_later 126 l1 l2 M) (fun q => I n q.2 ∧ Keep n W_X9_later M q.2 ∧ True) := by
  have hn : (169 : Int) ≤ (n : Int) := by have := iM.2.2.2.2.1; omega
  have kM : Keep n W_X9_later M M := Keep.rf
  unfold mX9_later
  refine w_gF (ji := 36) rfl (congrArg Prod.fst (kl_126 iM)) (fun a1 ha1 => ?_)
  have ra1 : 0 ≤ a1 ∧ a1 ≤ 5 := ha1.tr (P := fun z => 0 ≤ z ∧ z ≤ 5) (rd_Model_36 iM rfl)
  refine w_if (fun c1_ => ?_) (fun c1_ => ?_)
  · skip
    exact s_X9_later_31 ⟨by omega, by omega⟩ ⟨by omega, by omega⟩ iM kM
  · skip
    refine w_gF (ji := 37) rfl (congrArg Prod.fst (kl_126 iM)) (fun a9 ha9 => ?_)
    have ra9 : 0 ≤ a9 ∧ a9 ≤ 400 := ha9.tr (P := fun z => 0 ≤ z ∧ z ≤ 400) (rd_Model_37 iM rfl)
    refine w_if (fun c2_ => ?_) (fun c2_ => ?_)
    · skip
      exact s_X9_later_31 ⟨by omega, by omega⟩ ⟨by omega, by omega⟩ iM kM
    · skip
      refine w_gFc (ji := 37) rfl (congrArg Prod.fst (kl_126 iM)) (show mG M 126 37 = a9 from (show mG M 126 37 = a9 from ha9)) ?_
      refine w_if (fun c3_ => ?_) (fun c3_ => ?_)
      · skip
        refine w_gFc (ji := 36) rfl (congrArg Prod.fst (kl_126 iM)) (show mG M 126 36 = a1 from (show mG M 126 36 = a1 from ha1)) ?_
        refine w_if (fun c4_ => ?_) (fun c4_ => ?_)
        · skip
          exact w_ret ⟨iM, kM, trivial⟩
        · skip
          exact s_X9_later_31 ⟨by omega, by omega⟩ ⟨by omega, by omega⟩ iM kM
      · skip
        exact w_ret ⟨iM, kM, trivial⟩
def W_X9_isWord (b j : Int) : Prop := False
theorem s_X9_isWord {n : Nat} {l1 : Int} {M : Mem} (r_l1 : 114 ≤ l1 ∧ l1 ≤ 491327153000) (y0 : mG M 126 34 = mG M 126 34) (iM : I n M) : wp (mX9_isWord 126 l1 M) (fun q => I n q.2 ∧ Keep n W_X9_isWord M q.2 ∧ (0 ≤ q.1 ∧ q.1 ≤ 1) ∧ (q.1 = 1 → mG q.2 126 34 = l1) ∧ True) := by
  have hn : (169 : Int) ≤ (n : Int) := by have := iM.2.2.2.2.1; omega
  have kM : Keep n W_X9_isWord M M := Keep.rf
  obtain ⟨nh0, enh0⟩ : ∃ v, Is (mG M 126 34) v := ⟨_, rfl⟩
  have qnh0 : mG M 126 34 = nh0 := enh0
  (try rw [enh0.e] at y0)
  unfold mX9_isWord
  refine w_gF (ji := 32) rfl (congrArg Prod.fst (kl_126 iM)) (fun a1 ha1 => ?_)
  have ra1 : 0 ≤ a1 ∧ a1 ≤ 3 := ha1.tr (P := fun z => 0 ≤ z ∧ z ≤ 3) (rd_Model_32 iM rfl)
  refine w_if (fun c1_ => ?_) (fun c1_ => ?_)
  · skip
    refine w_gFc (ji := 34) rfl (congrArg Prod.fst (kl_126 iM)) (show mG M 126 34 = nh0 from (show mG M 126 34 = nh0 from enh0)) ?_
    have w2_ := lcmp_0 (nh0) (l1)
    refine w_if (fun c3_ => ?_) (fun c3_ => ?_)
    · skip
      exact w_ret ⟨iM, kM, (show 0 ≤ 1 ∧ 1 ≤ 1 from ⟨by omega, by omega⟩), (show 1 = 1 → mG M 126 34 = l1 from (by (try rw [(show mG M 126 34 = nh0 from (show mG M 126 34 = nh0 from enh0))]); all_goals omega)), trivial⟩
    · skip
      exact w_ret ⟨iM, kM, (show 0 ≤ 0 ∧ 0 ≤ 1 from ⟨by omega, by omega⟩), (show 0 = 1 → mG M 126 34 = l1 from (by (try rw [(show mG M 126 34 = nh0 from (show mG M 126 34 = nh0 from enh0))]); all_goals omega)), trivial⟩
  · skip
    exact w_ret ⟨iM, kM, (show 0 ≤ 0 ∧ 0 ≤ 1 from ⟨by omega, by omega⟩), (show 0 = 1 → mG M 126 34 = l1 from (by (try rw [(show mG M 126 34 = nh0 from (show mG M 126 34 = nh0 from enh0))]); all_goals omega)), trivial⟩
def W_X9_actOf (b j : Int) : Prop := False
theorem s_X9_actOf {n : Nat} {M : Mem} (y0 : mG M 126 34 = mG M 126 34) (iM : I n M) : wp (mX9_actOf 126 M) (fun q => I n q.2 ∧ Keep n W_X9_actOf M q.2 ∧ ((-1) ≤ q.1 ∧ q.1 ≤ 10) ∧ (q.1 = -1 ∨ ¬ mG q.2 126 34 = 0) ∧ True) := by
  have hn : (169 : Int) ≤ (n : Int) := by have := iM.2.2.2.2.1; omega
  have kM : Keep n W_X9_actOf M M := Keep.rf
  obtain ⟨nh0, enh0⟩ : ∃ v, Is (mG M 126 34) v := ⟨_, rfl⟩
  have qnh0 : mG M 126 34 = nh0 := enh0
  (try rw [enh0.e] at y0)
  unfold mX9_actOf
  refine w_gK (congrArg Prod.fst (kl_126 iM)) ?_
  refine w_call (s_X9_isWord ⟨by omega, by omega⟩ (by (try rw [(show mG M 126 34 = nh0 from (show mG M 126 34 = nh0 from enh0))]); all_goals omega) iM) ?_
  intro v4 m4 pp4
  obtain ⟨im4, kk4, e4_0, e4_1, -⟩ := pp4
  try dsimp only
  replace im4 : I n m4 := im4
  replace kk4 : Keep n W_X9_isWord M m4 := kk4
  have km4 : Keep n W_X9_actOf M m4 := kM.tr kk4 (fun b j z => z.elim)
  replace e4_0 : 0 ≤ v4 ∧ v4 ≤ 1 := e4_0
  replace e4_1 : v4 = 1 → mG m4 126 34 = 6384748 := e4_1
  have lk4 : mG m4 126 34 = nh0 := ((kk4.2.2 126 34 (by omega) (fun z => z)).trans (show mG M 126 34 = nh0 from enh0))
  refine w_if (fun c1_ => ?_) (fun c1_ => ?_)
  · skip
    refine w_gK (congrArg Prod.fst (kl_126 im4)) ?_
    refine w_call (s_X9_isWord ⟨by omega, by omega⟩ (by (try rw [(show mG m4 126 34 = nh0 from ((kk4.2.2 126 34 (by omega) (fun z => z)).trans (show mG M 126 34 = nh0 from enh0)))]); all_goals omega) im4) ?_
    intro v18 m18 pp18
    obtain ⟨im18, kk18, e18_0, e18_1, -⟩ := pp18
    try dsimp only
    replace im18 : I n m18 := im18
    replace kk18 : Keep n W_X9_isWord m4 m18 := kk18
    have km18 : Keep n W_X9_actOf M m18 := km4.tr kk18 (fun b j z => z.elim)
    replace e18_0 : 0 ≤ v18 ∧ v18 ≤ 1 := e18_0
    replace e18_1 : v18 = 1 → mG m18 126 34 = 1936682341 := e18_1
    have lk18 : mG m18 126 34 = nh0 := ((kk18.2.2 126 34 (by omega) (fun z => z)).trans ((kk4.2.2 126 34 (by omega) (fun z => z)).trans (show mG M 126 34 = nh0 from enh0)))
    refine w_if (fun c2_ => ?_) (fun c2_ => ?_)
    · skip
      refine w_gK (congrArg Prod.fst (kl_126 im18)) ?_
      refine w_call (s_X9_isWord ⟨by omega, by omega⟩ (by (try rw [(show mG m18 126 34 = nh0 from ((kk18.2.2 126 34 (by omega) (fun z => z)).trans ((kk4.2.2 126 34 (by omega) (fun z => z)).trans (show mG M 126 34 = nh0 from enh0))))]); all_goals omega) im18) ?_
      intro v32 m32 pp32
      obtain ⟨im32, kk32, e32_0, e32_1, -⟩ := pp32
      try dsimp only
      replace im32 : I n m32 := im32
      replace kk32 : Keep n W_X9_isWord m18 m32 := kk32
      have km32 : Keep n W_X9_actOf M m32 := km18.tr kk32 (fun b j z => z.elim)
      replace e32_0 : 0 ≤ v32 ∧ v32 ≤ 1 := e32_0
      replace e32_1 : v32 = 1 → mG m32 126 34 = 465557353332 := e32_1
      have lk32 : mG m32 126 34 = nh0 := ((kk32.2.2 126 34 (by omega) (fun z => z)).trans ((kk18.2.2 126 34 (by omega) (fun z => z)).trans ((kk4.2.2 126 34 (by omega) (fun z => z)).trans (show mG M 126 34 = nh0 from enh0))))
      refine w_if (fun c3_ => ?_) (fun c3_ => ?_)
      · skip
        refine w_gK (congrArg Prod.fst (kl_126 im32)) ?_
        refine w_call (s_X9_isWord ⟨by omega, by omega⟩ (by (try rw [(show mG m32 126 34 = nh0 from ((kk32.2.2 126 34 (by omega) (fun z => z)).trans ((kk18.2.2 126 34 (by omega) (fun z => z)).trans ((kk4.2.2 126 34 (by omega) (fun z => z)).trans (show mG M 126 34 = nh0 from enh0)))))]); all_goals omega) im32) ?_
        intro v46 m46 pp46
        obtain ⟨im46, kk46, e46_0, e46_1, -⟩ := pp46
        try dsimp only
        replace im46 : I n m46 := im46
        replace kk46 : Keep n W_X9_isWord m32 m46 := kk46
        have km46 : Keep n W_X9_actOf M m46 := km32.tr kk46 (fun b j z => z.elim)
        replace e46_0 : 0 ≤ v46 ∧ v46 ≤ 1 := e46_0
        replace e46_1 : v46 = 1 → mG m46 126 34 = 1836020596 := e46_1
        have lk46 : mG m46 126 34 = nh0 := ((kk46.2.2 126 34 (by omega) (fun z => z)).trans ((kk32.2.2 126 34 (by omega) (fun z => z)).trans ((kk18.2.2 126 34 (by omega) (fun z => z)).trans ((kk4.2.2 126 34 (by omega) (fun z => z)).trans (show mG M 126 34 = nh0 from enh0)))))
        refine w_if (fun c4_ => ?_) (fun c4_ => ?_)
        · skip
          refine w_gK (congrArg Prod.fst (kl_126 im46)) ?_
          refine w_call (s_X9_isWord ⟨by omega, by omega⟩ (by (try rw [(show mG m46 126 34 = nh0 from ((kk46.2.2 126 34 (by omega) (fun z => z)).trans ((kk32.2.2 126 34 (by omega) (fun z => z)).trans ((kk18.2.2 126 34 (by omega) (fun z => z)).trans ((kk4.2.2 126 34 (by omega) (fun z => z)).trans (show mG M 126 34 = nh0 from enh0))))))]); all_goals omega) im46) ?_
          intro v60 m60 pp60
          obtain ⟨im60, kk60, e60_0, e60_1, -⟩ := pp60
          try dsimp only
          replace im60 : I n m60 := im60
          replace kk60 : Keep n W_X9_isWord m46 m60 := kk60
          have km60 : Keep n W_X9_actOf M m60 := km46.tr kk60 (fun b j z => z.elim)
          replace e60_0 : 0 ≤ v60 ∧ v60 ≤ 1 := e60_0
          replace e60_1 : v60 = 1 → mG m60 126 34 = 7237492 := e60_1
          have lk60 : mG m60 126 34 = nh0 := ((kk60.2.2 126 34 (by omega) (fun z => z)).trans ((kk46.2.2 126 34 (by omega) (fun z => z)).trans ((kk32.2.2 126 34 (by omega) (fun z => z)).trans ((kk18.2.2 126 34 (by omega) (fun z => z)).trans ((kk4.2.2 126 34 (by omega) (fun z => z)).trans (show mG M 126 34 = nh0 from enh0))))))
          refine w_if (fun c5_ => ?_) (fun c5_ => ?_)
          · skip
            refine w_gK (congrArg Prod.fst (kl_126 im60)) ?_
            refine w_call (s_X9_isWord ⟨by omega, by omega⟩ (by (try rw [(show mG m60 126 34 = nh0 from ((kk60.2.2 126 34 (by omega) (fun z => z)).trans ((kk46.2.2 126 34 (by omega) (fun z => z)).trans ((kk32.2.2 126 34 (by omega) (fun z => z)).trans ((kk18.2.2 126 34 (by omega) (fun z => z)).trans ((kk4.2.2 126 34 (by omega) (fun z => z)).trans (show mG M 126 34 = nh0 from enh0)))))))]); all_goals omega) im60) ?_
            intro v74 m74 pp74
            obtain ⟨im74, kk74, e74_0, e74_1, -⟩ := pp74
            try dsimp only
            replace im74 : I n m74 := im74
            replace kk74 : Keep n W_X9_isWord m60 m74 := kk74
            have km74 : Keep n W_X9_actOf M m74 := km60.tr kk74 (fun b j z => z.elim)
            replace e74_0 : 0 ≤ v74 ∧ v74 ≤ 1 := e74_0
            replace e74_1 : v74 = 1 → mG m74 126 34 = 6385252 := e74_1
            have lk74 : mG m74 126 34 = nh0 := ((kk74.2.2 126 34 (by omega) (fun z => z)).trans ((kk60.2.2 126 34 (by omega) (fun z => z)).trans ((kk46.2.2 126 34 (by omega) (fun z => z)).trans ((kk32.2.2 126 34 (by omega) (fun z => z)).trans ((kk18.2.2 126 34 (by omega) (fun z => z)).trans ((kk4.2.2 126 34 (by omega) (fun z => z)).trans (show mG M 126 34 = nh0 from enh0)))))))
            refine w_if (fun c6_ => ?_) (fun c6_ => ?_)
            · skip
              refine w_gK (congrArg Prod.fst (kl_126 im74)) ?_
              refine w_call (s_X9_isWord ⟨by omega, by omega⟩ (by (try rw [(show mG m74 126 34 = nh0 from ((kk74.2.2 126 34 (by omega) (fun z => z)).trans ((kk60.2.2 126 34 (by omega) (fun z => z)).trans ((kk46.2.2 126 34 (by omega) (fun z => z)).trans ((kk32.2.2 126 34 (by omega) (fun z => z)).trans ((kk18.2.2 126 34 (by omega) (fun z => z)).trans ((kk4.2.2 126 34 (by omega) (fun z => z)).trans (show mG M 126 34 = nh0 from enh0))))))))]); all_goals omega) im74) ?_
              intro v88 m88 pp88
              obtain ⟨im88, kk88, e88_0, e88_1, -⟩ := pp88
              try dsimp only
              replace im88 : I n m88 := im88
              replace kk88 : Keep n W_X9_isWord m74 m88 := kk88
              have km88 : Keep n W_X9_actOf M m88 := km74.tr kk88 (fun b j z => z.elim)
              replace e88_0 : 0 ≤ v88 ∧ v88 ≤ 1 := e88_0
              replace e88_1 : v88 = 1 → mG m88 126 34 = 28530 := e88_1
              have lk88 : mG m88 126 34 = nh0 := ((kk88.2.2 126 34 (by omega) (fun z => z)).trans ((kk74.2.2 126 34 (by omega) (fun z => z)).trans ((kk60.2.2 126 34 (by omega) (fun z => z)).trans ((kk46.2.2 126 34 (by omega) (fun z => z)).trans ((kk32.2.2 126 34 (by omega) (fun z => z)).trans ((kk18.2.2 126 34 (by omega) (fun z => z)).trans ((kk4.2.2 126 34 (by omega) (fun z => z)).trans (show mG M 126 34 = nh0 from enh0))))))))
              refine w_if (fun c7_ => ?_) (fun c7_ => ?_)
              · skip
                refine w_gK (congrArg Prod.fst (kl_126 im88)) ?_
                refine w_call (s_X9_isWord ⟨by omega, by omega⟩ (by (try rw [(show mG m88 126 34 = nh0 from ((kk88.2.2 126 34 (by omega) (fun z => z)).trans ((kk74.2.2 126 34 (by omega) (fun z => z)).trans ((kk60.2.2 126 34 (by omega) (fun z => z)).trans ((kk46.2.2 126 34 (by omega) (fun z => z)).trans ((kk32.2.2 126 34 (by omega) (fun z => z)).trans ((kk18.2.2 126 34 (by omega) (fun z => z)).trans ((kk4.2.2 126 34 (by omega) (fun z => z)).trans (show mG M 126 34 = nh0 from enh0)))))))))]); all_goals omega) im88) ?_
                intro v103 m103 pp103
                obtain ⟨im103, kk103, e103_0, e103_1, -⟩ := pp103
                try dsimp only
                replace im103 : I n m103 := im103
                replace kk103 : Keep n W_X9_isWord m88 m103 := kk103
                have km103 : Keep n W_X9_actOf M m103 := km88.tr kk103 (fun b j z => z.elim)
                replace e103_0 : 0 ≤ v103 ∧ v103 ≤ 1 := e103_0
                replace e103_1 : v103 = 1 → mG m103 126 34 = 26982 := e103_1
                have lk103 : mG m103 126 34 = nh0 := ((kk103.2.2 126 34 (by omega) (fun z => z)).trans ((kk88.2.2 126 34 (by omega) (fun z => z)).trans ((kk74.2.2 126 34 (by omega) (fun z => z)).trans ((kk60.2.2 126 34 (by omega) (fun z => z)).trans ((kk46.2.2 126 34 (by omega) (fun z => z)).trans ((kk32.2.2 126 34 (by omega) (fun z => z)).trans ((kk18.2.2 126 34 (by omega) (fun z => z)).trans ((kk4.2.2 126 34 (by omega) (fun z => z)).trans (show mG M 126 34 = nh0 from enh0)))))))))
                refine w_if (fun c8_ => ?_) (fun c8_ => ?_)
                · skip
                  refine w_gK (congrArg Prod.fst (kl_126 im103)) ?_
                  refine w_call (s_X9_isWord ⟨by omega, by omega⟩ (by (try rw [(show mG m103 126 34 = nh0 from ((kk103.2.2 126 34 (by omega) (fun z => z)).trans ((kk88.2.2 126 34 (by omega) (fun z => z)).trans ((kk74.2.2 126 34 (by omega) (fun z => z)).trans ((kk60.2.2 126 34 (by omega) (fun z => z)).trans ((kk46.2.2 126 34 (by omega) (fun z => z)).trans ((kk32.2.2 126 34 (by omega) (fun z => z)).trans ((kk18.2.2 126 34 (by omega) (fun z => z)).trans ((kk4.2.2 126 34 (by omega) (fun z => z)).trans (show mG M 126 34 = nh0 from enh0))))))))))]); all_goals omega) im103) ?_
                  intro v118 m118 pp118
                  obtain ⟨im118, kk118, e118_0, e118_1, -⟩ := pp118
                  try dsimp only
                  replace im118 : I n m118 := im118
                  replace kk118 : Keep n W_X9_isWord m103 m118 := kk118
                  have km118 : Keep n W_X9_actOf M m118 := km103.tr kk118 (fun b j z => z.elim)
                  replace e118_0 : 0 ≤ v118 ∧ v118 ≤ 1 := e118_0
                  replace e118_1 : v118 = 1 → mG m118 126 34 = 1935764837 := e118_1
                  have lk118 : mG m118 126 34 = nh0 := ((kk118.2.2 126 34 (by omega) (fun z => z)).trans ((kk103.2.2 126 34 (by omega) (fun z => z)).trans ((kk88.2.2 126 34 (by omega) (fun z => z)).trans ((kk74.2.2 126 34 (by omega) (fun z => z)).trans ((kk60.2.2 126 34 (by omega) (fun z => z)).trans ((kk46.2.2 126 34 (by omega) (fun z => z)).trans ((kk32.2.2 126 34 (by omega) (fun z => z)).trans ((kk18.2.2 126 34 (by omega) (fun z => z)).trans ((kk4.2.2 126 34 (by omega) (fun z => z)).trans (show mG M 126 34 = nh0 from enh0))))))))))
                  refine w_if (fun c9_ => ?_) (fun c9_ => ?_)
                  · skip
                    refine w_gK (congrArg Prod.fst (kl_126 im118)) ?_
                    refine w_call (s_X9_isWord ⟨by omega, by omega⟩ (by (try rw [(show mG m118 126 34 = nh0 from ((kk118.2.2 126 34 (by omega) (fun z => z)).trans ((kk103.2.2 126 34 (by omega) (fun z => z)).trans ((kk88.2.2 126 34 (by omega) (fun z => z)).trans ((kk74.2.2 126 34 (by omega) (fun z => z)).trans ((kk60.2.2 126 34 (by omega) (fun z => z)).trans ((kk46.2.2 126 34 (by omega) (fun z => z)).trans ((kk32.2.2 126 34 (by omega) (fun z => z)).trans ((kk18.2.2 126 34 (by omega) (fun z => z)).trans ((kk4.2.2 126 34 (by omega) (fun z => z)).trans (show mG M 126 34 = nh0 from enh0)))))))))))]); all_goals omega) im118) ?_
                    intro v133 m133 pp133
                    obtain ⟨im133, kk133, e133_0, e133_1, -⟩ := pp133
                    try dsimp only
                    replace im133 : I n m133 := im133
                    replace kk133 : Keep n W_X9_isWord m118 m133 := kk133
                    have km133 : Keep n W_X9_actOf M m133 := km118.tr kk133 (fun b j z => z.elim)
                    replace e133_0 : 0 ≤ v133 ∧ v133 ≤ 1 := e133_0
                    replace e133_1 : v133 = 1 → mG m133 126 34 = 491327153000 := e133_1
                    have lk133 : mG m133 126 34 = nh0 := ((kk133.2.2 126 34 (by omega) (fun z => z)).trans ((kk118.2.2 126 34 (by omega) (fun z => z)).trans ((kk103.2.2 126 34 (by omega) (fun z => z)).trans ((kk88.2.2 126 34 (by omega) (fun z => z)).trans ((kk74.2.2 126 34 (by omega) (fun z => z)).trans ((kk60.2.2 126 34 (by omega) (fun z => z)).trans ((kk46.2.2 126 34 (by omega) (fun z => z)).trans ((kk32.2.2 126 34 (by omega) (fun z => z)).trans ((kk18.2.2 126 34 (by omega) (fun z => z)).trans ((kk4.2.2 126 34 (by omega) (fun z => z)).trans (show mG M 126 34 = nh0 from enh0)))))))))))
                    refine w_if (fun c10_ => ?_) (fun c10_ => ?_)
                    · skip
                      refine w_gK (congrArg Prod.fst (kl_126 im133)) ?_
                      refine w_call (s_X9_isWord ⟨by omega, by omega⟩ (by (try rw [(show mG m133 126 34 = nh0 from ((kk133.2.2 126 34 (by omega) (fun z => z)).trans ((kk118.2.2 126 34 (by omega) (fun z => z)).trans ((kk103.2.2 126 34 (by omega) (fun z => z)).trans ((kk88.2.2 126 34 (by omega) (fun z => z)).trans ((kk74.2.2 126 34 (by omega) (fun z => z)).trans ((kk60.2.2 126 34 (by omega) (fun z => z)).trans ((kk46.2.2 126 34 (by omega) (fun z => z)).trans ((kk32.2.2 126 34 (by omega) (fun z => z)).trans ((kk18.2.2 126 34 (by omega) (fun z => z)).trans ((kk4.2.2 126 34 (by omega) (fun z => z)).trans (show mG M 126 34 = nh0 from enh0))))))))))))]); all_goals omega) im133) ?_
                      intro v148 m148 pp148
                      obtain ⟨im148, kk148, e148_0, e148_1, -⟩ := pp148
                      try dsimp only
                      replace im148 : I n m148 := im148
                      replace kk148 : Keep n W_X9_isWord m133 m148 := kk148
                      have km148 : Keep n W_X9_actOf M m148 := km133.tr kk148 (fun b j z => z.elim)
                      replace e148_0 : 0 ≤ v148 ∧ v148 ≤ 1 := e148_0
                      replace e148_1 : v148 = 1 → mG m148 126 34 = 1953654117 := e148_1
                      have lk148 : mG m148 126 34 = nh0 := ((kk148.2.2 126 34 (by omega) (fun z => z)).trans ((kk133.2.2 126 34 (by omega) (fun z => z)).trans ((kk118.2.2 126 34 (by omega) (fun z => z)).trans ((kk103.2.2 126 34 (by omega) (fun z => z)).trans ((kk88.2.2 126 34 (by omega) (fun z => z)).trans ((kk74.2.2 126 34 (by omega) (fun z => z)).trans ((kk60.2.2 126 34 (by omega) (fun z => z)).trans ((kk46.2.2 126 34 (by omega) (fun z => z)).trans ((kk32.2.2 126 34 (by omega) (fun z => z)).trans ((kk18.2.2 126 34 (by omega) (fun z => z)).trans ((kk4.2.2 126 34 (by omega) (fun z => z)).trans (show mG M 126 34 = nh0 from enh0))))))))))))
                      refine w_if (fun c11_ => ?_) (fun c11_ => ?_)
                      · skip
                        exact w_ret ⟨im148, km148, (show (-1) ≤ (-1) ∧ (-1) ≤ 10 from ⟨by omega, by omega⟩), (show (-1) = -1 ∨ ¬ mG m148 126 34 = 0 from (by (try rw [(show mG m148 126 34 = nh0 from ((kk148.2.2 126 34 (by omega) (fun z => z)).trans ((kk133.2.2 126 34 (by omega) (fun z => z)).trans ((kk118.2.2 126 34 (by omega) (fun z => z)).trans ((kk103.2.2 126 34 (by omega) (fun z => z)).trans ((kk88.2.2 126 34 (by omega) (fun z => z)).trans ((kk74.2.2 126 34 (by omega) (fun z => z)).trans ((kk60.2.2 126 34 (by omega) (fun z => z)).trans ((kk46.2.2 126 34 (by omega) (fun z => z)).trans ((kk32.2.2 126 34 (by omega) (fun z => z)).trans ((kk18.2.2 126 34 (by omega) (fun z => z)).trans ((kk4.2.2 126 34 (by omega) (fun z => z)).trans (show mG M 126 34 = nh0 from enh0)))))))))))))]); all_goals omega)), trivial⟩
                      · skip
                        exact w_ret ⟨im148, km148, (show (-1) ≤ 10 ∧ 10 ≤ 10 from ⟨by omega, by omega⟩), (show 10 = -1 ∨ ¬ mG m148 126 34 = 0 from (by (try rw [(show mG m148 126 34 = nh0 from ((kk148.2.2 126 34 (by omega) (fun z => z)).trans ((kk133.2.2 126 34 (by omega) (fun z => z)).trans ((kk118.2.2 126 34 (by omega) (fun z => z)).trans ((kk103.2.2 126 34 (by omega) (fun z => z)).trans ((kk88.2.2 126 34 (by omega) (fun z => z)).trans ((kk74.2.2 126 34 (by omega) (fun z => z)).trans ((kk60.2.2 126 34 (by omega) (fun z => z)).trans ((kk46.2.2 126 34 (by omega) (fun z => z)).trans ((kk32.2.2 126 34 (by omega) (fun z => z)).trans ((kk18.2.2 126 34 (by omega) (fun z => z)).trans ((kk4.2.2 126 34 (by omega) (fun z => z)).trans (show mG M 126 34 = nh0 from enh0)))))))))))))]); all_goals omega)), trivial⟩
                    · skip
                      exact w_ret ⟨im133, km133, (show (-1) ≤ 9 ∧ 9 ≤ 10 from ⟨by omega, by omega⟩), (show 9 = -1 ∨ ¬ mG m133 126 34 = 0 from (by (try rw [(show mG m133 126 34 = nh0 from ((kk133.2.2 126 34 (by omega) (fun z => z)).trans ((kk118.2.2 126 34 (by omega) (fun z => z)).trans ((kk103.2.2 126 34 (by omega) (fun z => z)).trans ((kk88.2.2 126 34 (by omega) (fun z => z)).trans ((kk74.2.2 126 34 (by omega) (fun z => z)).trans ((kk60.2.2 126 34 (by omega) (fun z => z)).trans ((kk46.2.2 126 34 (by omega) (fun z => z)).trans ((kk32.2.2 126 34 (by omega) (fun z => z)).trans ((kk18.2.2 126 34 (by omega) (fun z => z)).trans ((kk4.2.2 126 34 (by omega) (fun z => z)).trans (show mG M 126 34 = nh0 from enh0))))))))))))]); all_goals omega)), trivial⟩
                  · skip
                    exact w_ret ⟨im118, km118, (show (-1) ≤ 8 ∧ 8 ≤ 10 from ⟨by omega, by omega⟩), (show 8 = -1 ∨ ¬ mG m118 126 34 = 0 from (by (try rw [(show mG m118 126 34 = nh0 from ((kk118.2.2 126 34 (by omega) (fun z => z)).trans ((kk103.2.2 126 34 (by omega) (fun z => z)).trans ((kk88.2.2 126 34 (by omega) (fun z => z)).trans ((kk74.2.2 126 34 (by omega) (fun z => z)).trans ((kk60.2.2 126 34 (by omega) (fun z => z)).trans ((kk46.2.2 126 34 (by omega) (fun z => z)).trans ((kk32.2.2 126 34 (by omega) (fun z => z)).trans ((kk18.2.2 126 34 (by omega) (fun z => z)).trans ((kk4.2.2 126 34 (by omega) (fun z => z)).trans (show mG M 126 34 = nh0 from enh0)))))))))))]); all_goals omega)), trivial⟩
                · skip
                  exact w_ret ⟨im103, km103, (show (-1) ≤ 7 ∧ 7 ≤ 10 from ⟨by omega, by omega⟩), (show 7 = -1 ∨ ¬ mG m103 126 34 = 0 from (by (try rw [(show mG m103 126 34 = nh0 from ((kk103.2.2 126 34 (by omega) (fun z => z)).trans ((kk88.2.2 126 34 (by omega) (fun z => z)).trans ((kk74.2.2 126 34 (by omega) (fun z => z)).trans ((kk60.2.2 126 34 (by omega) (fun z => z)).trans ((kk46.2.2 126 34 (by omega) (fun z => z)).trans ((kk32.2.2 126 34 (by omega) (fun z => z)).trans ((kk18.2.2 126 34 (by omega) (fun z => z)).trans ((kk4.2.2 126 34 (by omega) (fun z => z)).trans (show mG M 126 34 = nh0 from enh0))))))))))]); all_goals omega)), trivial⟩
              · skip
                exact w_ret ⟨im88, km88, (show (-1) ≤ 6 ∧ 6 ≤ 10 from ⟨by omega, by omega⟩), (show 6 = -1 ∨ ¬ mG m88 126 34 = 0 from (by (try rw [(show mG m88 126 34 = nh0 from ((kk88.2.2 126 34 (by omega) (fun z => z)).trans ((kk74.2.2 126 34 (by omega) (fun z => z)).trans ((kk60.2.2 126 34 (by omega) (fun z => z)).trans ((kk46.2.2 126 34 (by omega) (fun z => z)).trans ((kk32.2.2 126 34 (by omega) (fun z => z)).trans ((kk18.2.2 126 34 (by omega) (fun z => z)).trans ((kk4.2.2 126 34 (by omega) (fun z => z)).trans (show mG M 126 34 = nh0 from enh0)))))))))]); all_goals omega)), trivial⟩
            · skip
              exact w_ret ⟨im74, km74, (show (-1) ≤ 5 ∧ 5 ≤ 10 from ⟨by omega, by omega⟩), (show 5 = -1 ∨ ¬ mG m74 126 34 = 0 from (by (try rw [(show mG m74 126 34 = nh0 from ((kk74.2.2 126 34 (by omega) (fun z => z)).trans ((kk60.2.2 126 34 (by omega) (fun z => z)).trans ((kk46.2.2 126 34 (by omega) (fun z => z)).trans ((kk32.2.2 126 34 (by omega) (fun z => z)).trans ((kk18.2.2 126 34 (by omega) (fun z => z)).trans ((kk4.2.2 126 34 (by omega) (fun z => z)).trans (show mG M 126 34 = nh0 from enh0))))))))]); all_goals omega)), trivial⟩
          · skip
            exact w_ret ⟨im60, km60, (show (-1) ≤ 4 ∧ 4 ≤ 10 from ⟨by omega, by omega⟩), (show 4 = -1 ∨ ¬ mG m60 126 34 = 0 from (by (try rw [(show mG m60 126 34 = nh0 from ((kk60.2.2 126 34 (by omega) (fun z => z)).trans ((kk46.2.2 126 34 (by omega) (fun z => z)).trans ((kk32.2.2 126 34 (by omega) (fun z => z)).trans ((kk18.2.2 126 34 (by omega) (fun z => z)).trans ((kk4.2.2 126 34 (by omega) (fun z => z)).trans (show mG M 126 34 = nh0 from enh0)))))))]); all_goals omega)), trivial⟩
        · skip
          exact w_ret ⟨im46, km46, (show (-1) ≤ 3 ∧ 3 ≤ 10 from ⟨by omega, by omega⟩), (show 3 = -1 ∨ ¬ mG m46 126 34 = 0 from (by (try rw [(show mG m46 126 34 = nh0 from ((kk46.2.2 126 34 (by omega) (fun z => z)).trans ((kk32.2.2 126 34 (by omega) (fun z => z)).trans ((kk18.2.2 126 34 (by omega) (fun z => z)).trans ((kk4.2.2 126 34 (by omega) (fun z => z)).trans (show mG M 126 34 = nh0 from enh0))))))]); all_goals omega)), trivial⟩
      · skip
        exact w_ret ⟨im32, km32, (show (-1) ≤ 2 ∧ 2 ≤ 10 from ⟨by omega, by omega⟩), (show 2 = -1 ∨ ¬ mG m32 126 34 = 0 from (by (try rw [(show mG m32 126 34 = nh0 from ((kk32.2.2 126 34 (by omega) (fun z => z)).trans ((kk18.2.2 126 34 (by omega) (fun z => z)).trans ((kk4.2.2 126 34 (by omega) (fun z => z)).trans (show mG M 126 34 = nh0 from enh0)))))]); all_goals omega)), trivial⟩
    · skip
      exact w_ret ⟨im18, km18, (show (-1) ≤ 1 ∧ 1 ≤ 10 from ⟨by omega, by omega⟩), (show 1 = -1 ∨ ¬ mG m18 126 34 = 0 from (by (try rw [(show mG m18 126 34 = nh0 from ((kk18.2.2 126 34 (by omega) (fun z => z)).trans ((kk4.2.2 126 34 (by omega) (fun z => z)).trans (show mG M 126 34 = nh0 from enh0))))]); all_goals omega)), trivial⟩
  · skip
    exact w_ret ⟨im4, km4, (show (-1) ≤ 0 ∧ 0 ≤ 10 from ⟨by omega, by omega⟩), (show 0 = -1 ∨ ¬ mG m4 126 34 = 0 from (by (try rw [(show mG m4 126 34 = nh0 from ((kk4.2.2 126 34 (by omega) (fun z => z)).trans (show mG M 126 34 = nh0 from enh0)))]); all_goals omega)), trivial⟩
def W_X9_relOf (b j : Int) : Prop := False
theorem s_X9_relOf_57 {n : Nat} {Me : Mem} {s0 : Int} {M : Mem} (r_s0 : (-1) ≤ s0 ∧ s0 ≤ 3) (y0 : s0 = -1 ∨ ¬ mG M 126 34 = 0) (iM : I n M) (kM : Keep n W_X9_relOf Me M) : wp (mX9_relOf_57 126 s0 M) (fun q => I n q.2 ∧ Keep n W_X9_relOf Me q.2 ∧ ((-1) ≤ q.1 ∧ q.1 ≤ 3) ∧ (q.1 = -1 ∨ ¬ mG q.2 126 34 = 0) ∧ True) := by
  have hn : (169 : Int) ≤ (n : Int) := by have := iM.2.2.2.2.1; omega
  obtain ⟨nh0, enh0⟩ : ∃ v, Is (mG M 126 34) v := ⟨_, rfl⟩
  have qnh0 : mG M 126 34 = nh0 := enh0
  (try rw [enh0.e] at y0)
  unfold mX9_relOf_57
  refine w_gFc (ji := 8) rfl (congrArg Prod.fst (kl_126 iM)) (show mG M 126 8 = 134 from rd_Model_8 iM (a := 126) rfl) ?_
  refine w_aG (kl_134 iM) (by decide) (by decide) (fun a64 ha64 => ?_)
  have ra64 : 0 ≤ a64 ∧ a64 ≤ 4 := ha64.tr (P := fun z => 0 ≤ z ∧ z ≤ 4) (rd_Mrelations iM rfl)
  refine w_if (fun c1_ => ?_) (fun c1_ => ?_)
  · skip
    exact w_ret ⟨iM, kM, (show (-1) ≤ (-1) ∧ (-1) ≤ 3 from ⟨by omega, by omega⟩), (show (-1) = -1 ∨ ¬ mG M 126 34 = 0 from (by (try rw [(show mG M 126 34 = nh0 from (show mG M 126 34 = nh0 from enh0))]); all_goals omega)), trivial⟩
  · skip
    exact w_ret ⟨iM, kM, (show (-1) ≤ s0 ∧ s0 ≤ 3 from ⟨by omega, by omega⟩), (show s0 = -1 ∨ ¬ mG M 126 34 = 0 from (by (try rw [(show mG M 126 34 = nh0 from (show mG M 126 34 = nh0 from enh0))]); all_goals omega)), trivial⟩
theorem s_X9_relOf {n : Nat} {M : Mem} (y0 : mG M 126 34 = mG M 126 34) (iM : I n M) : wp (mX9_relOf 126 M) (fun q => I n q.2 ∧ Keep n W_X9_relOf M q.2 ∧ ((-1) ≤ q.1 ∧ q.1 ≤ 3) ∧ (q.1 = -1 ∨ ¬ mG q.2 126 34 = 0) ∧ True) := by
  have hn : (169 : Int) ≤ (n : Int) := by have := iM.2.2.2.2.1; omega
  have kM : Keep n W_X9_relOf M M := Keep.rf
  obtain ⟨nh0, enh0⟩ : ∃ v, Is (mG M 126 34) v := ⟨_, rfl⟩
  have qnh0 : mG M 126 34 = nh0 := enh0
  (try rw [enh0.e] at y0)
  unfold mX9_relOf
  refine w_gK (congrArg Prod.fst (kl_126 iM)) ?_
  refine w_call (s_X9_isWord ⟨by omega, by omega⟩ (by (try rw [(show mG M 126 34 = nh0 from (show mG M 126 34 = nh0 from enh0))]); all_goals omega) iM) ?_
  intro v4 m4 pp4
  obtain ⟨im4, kk4, e4_0, e4_1, -⟩ := pp4
  try dsimp only
  replace im4 : I n m4 := im4
  replace kk4 : Keep n W_X9_isWord M m4 := kk4
  have km4 : Keep n W_X9_relOf M m4 := kM.tr kk4 (fun b j z => z.elim)
  replace e4_0 : 0 ≤ v4 ∧ v4 ≤ 1 := e4_0
  replace e4_1 : v4 = 1 → mG m4 126 34 = 114 := e4_1
  have lk4 : mG m4 126 34 = nh0 := ((kk4.2.2 126 34 (by omega) (fun z => z)).trans (show mG M 126 34 = nh0 from enh0))
  refine w_if (fun c1_ => ?_) (fun c1_ => ?_)
  · skip
    refine w_gK (congrArg Prod.fst (kl_126 im4)) ?_
    refine w_call (s_X9_isWord ⟨by omega, by omega⟩ (by (try rw [(show mG m4 126 34 = nh0 from ((kk4.2.2 126 34 (by omega) (fun z => z)).trans (show mG M 126 34 = nh0 from enh0)))]); all_goals omega) im4) ?_
    intro v18 m18 pp18
    obtain ⟨im18, kk18, e18_0, e18_1, -⟩ := pp18
    try dsimp only
    replace im18 : I n m18 := im18
    replace kk18 : Keep n W_X9_isWord m4 m18 := kk18
    have km18 : Keep n W_X9_relOf M m18 := km4.tr kk18 (fun b j z => z.elim)
    replace e18_0 : 0 ≤ v18 ∧ v18 ≤ 1 := e18_0
    replace e18_1 : v18 = 1 → mG m18 126 34 = 115 := e18_1
    have lk18 : mG m18 126 34 = nh0 := ((kk18.2.2 126 34 (by omega) (fun z => z)).trans ((kk4.2.2 126 34 (by omega) (fun z => z)).trans (show mG M 126 34 = nh0 from enh0)))
    refine w_if (fun c2_ => ?_) (fun c2_ => ?_)
    · skip
      refine w_gK (congrArg Prod.fst (kl_126 im18)) ?_
      refine w_call (s_X9_isWord ⟨by omega, by omega⟩ (by (try rw [(show mG m18 126 34 = nh0 from ((kk18.2.2 126 34 (by omega) (fun z => z)).trans ((kk4.2.2 126 34 (by omega) (fun z => z)).trans (show mG M 126 34 = nh0 from enh0))))]); all_goals omega) im18) ?_
      intro v32 m32 pp32
      obtain ⟨im32, kk32, e32_0, e32_1, -⟩ := pp32
      try dsimp only
      replace im32 : I n m32 := im32
      replace kk32 : Keep n W_X9_isWord m18 m32 := kk32
      have km32 : Keep n W_X9_relOf M m32 := km18.tr kk32 (fun b j z => z.elim)
      replace e32_0 : 0 ≤ v32 ∧ v32 ≤ 1 := e32_0
      replace e32_1 : v32 = 1 → mG m32 126 34 = 116 := e32_1
      have lk32 : mG m32 126 34 = nh0 := ((kk32.2.2 126 34 (by omega) (fun z => z)).trans ((kk18.2.2 126 34 (by omega) (fun z => z)).trans ((kk4.2.2 126 34 (by omega) (fun z => z)).trans (show mG M 126 34 = nh0 from enh0))))
      refine w_if (fun c3_ => ?_) (fun c3_ => ?_)
      · skip
        refine w_gK (congrArg Prod.fst (kl_126 im32)) ?_
        refine w_call (s_X9_isWord ⟨by omega, by omega⟩ (by (try rw [(show mG m32 126 34 = nh0 from ((kk32.2.2 126 34 (by omega) (fun z => z)).trans ((kk18.2.2 126 34 (by omega) (fun z => z)).trans ((kk4.2.2 126 34 (by omega) (fun z => z)).trans (show mG M 126 34 = nh0 from enh0)))))]); all_goals omega) im32) ?_
        intro v46 m46 pp46
        obtain ⟨im46, kk46, e46_0, e46_1, -⟩ := pp46
        try dsimp only
        replace im46 : I n m46 := im46
        replace kk46 : Keep n W_X9_isWord m32 m46 := kk46
        have km46 : Keep n W_X9_relOf M m46 := km32.tr kk46 (fun b j z => z.elim)
        replace e46_0 : 0 ≤ v46 ∧ v46 ≤ 1 := e46_0
        replace e46_1 : v46 = 1 → mG m46 126 34 = 117 := e46_1
        have lk46 : mG m46 126 34 = nh0 := ((kk46.2.2 126 34 (by omega) (fun z => z)).trans ((kk32.2.2 126 34 (by omega) (fun z => z)).trans ((kk18.2.2 126 34 (by omega) (fun z => z)).trans ((kk4.2.2 126 34 (by omega) (fun z => z)).trans (show mG M 126 34 = nh0 from enh0)))))
        refine w_if (fun c4_ => ?_) (fun c4_ => ?_)
        · skip
          exact s_X9_relOf_57 ⟨by omega, by omega⟩ (by (try rw [(show mG m46 126 34 = nh0 from ((kk46.2.2 126 34 (by omega) (fun z => z)).trans ((kk32.2.2 126 34 (by omega) (fun z => z)).trans ((kk18.2.2 126 34 (by omega) (fun z => z)).trans ((kk4.2.2 126 34 (by omega) (fun z => z)).trans (show mG M 126 34 = nh0 from enh0))))))]); all_goals omega) im46 km46
        · skip
          exact s_X9_relOf_57 ⟨by omega, by omega⟩ (by (try rw [(show mG m46 126 34 = nh0 from ((kk46.2.2 126 34 (by omega) (fun z => z)).trans ((kk32.2.2 126 34 (by omega) (fun z => z)).trans ((kk18.2.2 126 34 (by omega) (fun z => z)).trans ((kk4.2.2 126 34 (by omega) (fun z => z)).trans (show mG M 126 34 = nh0 from enh0))))))]); all_goals omega) im46 km46
      · skip
        exact s_X9_relOf_57 ⟨by omega, by omega⟩ (by (try rw [(show mG m32 126 34 = nh0 from ((kk32.2.2 126 34 (by omega) (fun z => z)).trans ((kk18.2.2 126 34 (by omega) (fun z => z)).trans ((kk4.2.2 126 34 (by omega) (fun z => z)).trans (show mG M 126 34 = nh0 from enh0)))))]); all_goals omega) im32 km32
    · skip
      exact s_X9_relOf_57 ⟨by omega, by omega⟩ (by (try rw [(show mG m18 126 34 = nh0 from ((kk18.2.2 126 34 (by omega) (fun z => z)).trans ((kk4.2.2 126 34 (by omega) (fun z => z)).trans (show mG M 126 34 = nh0 from enh0))))]); all_goals omega) im18 km18
  · skip
    exact s_X9_relOf_57 ⟨by omega, by omega⟩ (by (try rw [(show mG m4 126 34 = nh0 from ((kk4.2.2 126 34 (by omega) (fun z => z)).trans (show mG M 126 34 = nh0 from enh0)))]); all_goals omega) im4 km4
def W_X9_varOf (b j : Int) : Prop := False
theorem s_X9_varOf {n : Nat} {M : Mem} (y0 : mG M 126 34 = mG M 126 34) (iM : I n M) : wp (mX9_varOf 126 M) (fun q => I n q.2 ∧ Keep n W_X9_varOf M q.2 ∧ ((-1) ≤ q.1 ∧ q.1 ≤ 3) ∧ (q.1 = -1 ∨ ¬ mG q.2 126 34 = 0) ∧ True) := by
  have hn : (169 : Int) ≤ (n : Int) := by have := iM.2.2.2.2.1; omega
  have kM : Keep n W_X9_varOf M M := Keep.rf
  obtain ⟨nh0, enh0⟩ : ∃ v, Is (mG M 126 34) v := ⟨_, rfl⟩
  have qnh0 : mG M 126 34 = nh0 := enh0
  (try rw [enh0.e] at y0)
  unfold mX9_varOf
  refine w_gK (congrArg Prod.fst (kl_126 iM)) ?_
  refine w_call (s_X9_isWord ⟨by omega, by omega⟩ (by (try rw [(show mG M 126 34 = nh0 from (show mG M 126 34 = nh0 from enh0))]); all_goals omega) iM) ?_
  intro v4 m4 pp4
  obtain ⟨im4, kk4, e4_0, e4_1, -⟩ := pp4
  try dsimp only
  replace im4 : I n m4 := im4
  replace kk4 : Keep n W_X9_isWord M m4 := kk4
  have km4 : Keep n W_X9_varOf M m4 := kM.tr kk4 (fun b j z => z.elim)
  replace e4_0 : 0 ≤ v4 ∧ v4 ≤ 1 := e4_0
  replace e4_1 : v4 = 1 → mG m4 126 34 = 120 := e4_1
  have lk4 : mG m4 126 34 = nh0 := ((kk4.2.2 126 34 (by omega) (fun z => z)).trans (show mG M 126 34 = nh0 from enh0))
  refine w_if (fun c1_ => ?_) (fun c1_ => ?_)
  · skip
    refine w_gK (congrArg Prod.fst (kl_126 im4)) ?_
    refine w_call (s_X9_isWord ⟨by omega, by omega⟩ (by (try rw [(show mG m4 126 34 = nh0 from ((kk4.2.2 126 34 (by omega) (fun z => z)).trans (show mG M 126 34 = nh0 from enh0)))]); all_goals omega) im4) ?_
    intro v18 m18 pp18
    obtain ⟨im18, kk18, e18_0, e18_1, -⟩ := pp18
    try dsimp only
    replace im18 : I n m18 := im18
    replace kk18 : Keep n W_X9_isWord m4 m18 := kk18
    have km18 : Keep n W_X9_varOf M m18 := km4.tr kk18 (fun b j z => z.elim)
    replace e18_0 : 0 ≤ v18 ∧ v18 ≤ 1 := e18_0
    replace e18_1 : v18 = 1 → mG m18 126 34 = 121 := e18_1
    have lk18 : mG m18 126 34 = nh0 := ((kk18.2.2 126 34 (by omega) (fun z => z)).trans ((kk4.2.2 126 34 (by omega) (fun z => z)).trans (show mG M 126 34 = nh0 from enh0)))
    refine w_if (fun c2_ => ?_) (fun c2_ => ?_)
    · skip
      refine w_gK (congrArg Prod.fst (kl_126 im18)) ?_
      refine w_call (s_X9_isWord ⟨by omega, by omega⟩ (by (try rw [(show mG m18 126 34 = nh0 from ((kk18.2.2 126 34 (by omega) (fun z => z)).trans ((kk4.2.2 126 34 (by omega) (fun z => z)).trans (show mG M 126 34 = nh0 from enh0))))]); all_goals omega) im18) ?_
      intro v32 m32 pp32
      obtain ⟨im32, kk32, e32_0, e32_1, -⟩ := pp32
      try dsimp only
      replace im32 : I n m32 := im32
      replace kk32 : Keep n W_X9_isWord m18 m32 := kk32
      have km32 : Keep n W_X9_varOf M m32 := km18.tr kk32 (fun b j z => z.elim)
      replace e32_0 : 0 ≤ v32 ∧ v32 ≤ 1 := e32_0
      replace e32_1 : v32 = 1 → mG m32 126 34 = 122 := e32_1
      have lk32 : mG m32 126 34 = nh0 := ((kk32.2.2 126 34 (by omega) (fun z => z)).trans ((kk18.2.2 126 34 (by omega) (fun z => z)).trans ((kk4.2.2 126 34 (by omega) (fun z => z)).trans (show mG M 126 34 = nh0 from enh0))))
      refine w_if (fun c3_ => ?_) (fun c3_ => ?_)
      · skip
        refine w_gK (congrArg Prod.fst (kl_126 im32)) ?_
        refine w_call (s_X9_isWord ⟨by omega, by omega⟩ (by (try rw [(show mG m32 126 34 = nh0 from ((kk32.2.2 126 34 (by omega) (fun z => z)).trans ((kk18.2.2 126 34 (by omega) (fun z => z)).trans ((kk4.2.2 126 34 (by omega) (fun z => z)).trans (show mG M 126 34 = nh0 from enh0)))))]); all_goals omega) im32) ?_
        intro v46 m46 pp46
        obtain ⟨im46, kk46, e46_0, e46_1, -⟩ := pp46
        try dsimp only
        replace im46 : I n m46 := im46
        replace kk46 : Keep n W_X9_isWord m32 m46 := kk46
        have km46 : Keep n W_X9_varOf M m46 := km32.tr kk46 (fun b j z => z.elim)
        replace e46_0 : 0 ≤ v46 ∧ v46 ≤ 1 := e46_0
        replace e46_1 : v46 = 1 → mG m46 126 34 = 119 := e46_1
        have lk46 : mG m46 126 34 = nh0 := ((kk46.2.2 126 34 (by omega) (fun z => z)).trans ((kk32.2.2 126 34 (by omega) (fun z => z)).trans ((kk18.2.2 126 34 (by omega) (fun z => z)).trans ((kk4.2.2 126 34 (by omega) (fun z => z)).trans (show mG M 126 34 = nh0 from enh0)))))
        refine w_if (fun c4_ => ?_) (fun c4_ => ?_)
        · skip
          exact w_ret ⟨im46, km46, (show (-1) ≤ (-1) ∧ (-1) ≤ 3 from ⟨by omega, by omega⟩), (show (-1) = -1 ∨ ¬ mG m46 126 34 = 0 from (by (try rw [(show mG m46 126 34 = nh0 from ((kk46.2.2 126 34 (by omega) (fun z => z)).trans ((kk32.2.2 126 34 (by omega) (fun z => z)).trans ((kk18.2.2 126 34 (by omega) (fun z => z)).trans ((kk4.2.2 126 34 (by omega) (fun z => z)).trans (show mG M 126 34 = nh0 from enh0))))))]); all_goals omega)), trivial⟩
        · skip
          exact w_ret ⟨im46, km46, (show (-1) ≤ 3 ∧ 3 ≤ 3 from ⟨by omega, by omega⟩), (show 3 = -1 ∨ ¬ mG m46 126 34 = 0 from (by (try rw [(show mG m46 126 34 = nh0 from ((kk46.2.2 126 34 (by omega) (fun z => z)).trans ((kk32.2.2 126 34 (by omega) (fun z => z)).trans ((kk18.2.2 126 34 (by omega) (fun z => z)).trans ((kk4.2.2 126 34 (by omega) (fun z => z)).trans (show mG M 126 34 = nh0 from enh0))))))]); all_goals omega)), trivial⟩
      · skip
        exact w_ret ⟨im32, km32, (show (-1) ≤ 2 ∧ 2 ≤ 3 from ⟨by omega, by omega⟩), (show 2 = -1 ∨ ¬ mG m32 126 34 = 0 from (by (try rw [(show mG m32 126 34 = nh0 from ((kk32.2.2 126 34 (by omega) (fun z => z)).trans ((kk18.2.2 126 34 (by omega) (fun z => z)).trans ((kk4.2.2 126 34 (by omega) (fun z => z)).trans (show mG M 126 34 = nh0 from enh0)))))]); all_goals omega)), trivial⟩
    · skip
      exact w_ret ⟨im18, km18, (show (-1) ≤ 1 ∧ 1 ≤ 3 from ⟨by omega, by omega⟩), (show 1 = -1 ∨ ¬ mG m18 126 34 = 0 from (by (try rw [(show mG m18 126 34 = nh0 from ((kk18.2.2 126 34 (by omega) (fun z => z)).trans ((kk4.2.2 126 34 (by omega) (fun z => z)).trans (show mG M 126 34 = nh0 from enh0))))]); all_goals omega)), trivial⟩
  · skip
    exact w_ret ⟨im4, km4, (show (-1) ≤ 0 ∧ 0 ≤ 3 from ⟨by omega, by omega⟩), (show 0 = -1 ∨ ¬ mG m4 126 34 = 0 from (by (try rw [(show mG m4 126 34 = nh0 from ((kk4.2.2 126 34 (by omega) (fun z => z)).trans (show mG M 126 34 = nh0 from enh0)))]); all_goals omega)), trivial⟩
def W_X9_wrong (b j : Int) : Prop := (b = 126 ∧ j = 35)
theorem s_X9_wrong {n : Nat} {M : Mem} (iM : I n M) : wp (mX9_wrong 126 M) (fun q => I n q.2 ∧ Keep n W_X9_wrong M q.2 ∧ ((-1) ≤ q.1 ∧ q.1 ≤ (-1)) ∧ True) := by
  have hn : (169 : Int) ≤ (n : Int) := by have := iM.2.2.2.2.1; omega
  have kM : Keep n W_X9_wrong M M := Keep.rf
  unfold mX9_wrong
  refine w_gF (ji := 31) rfl (congrArg Prod.fst (kl_126 iM)) (fun a2 ha2 => ?_)
  have ra2 : 0 ≤ a2 ∧ a2 ≤ 400 := ha2.tr (P := fun z => 0 ≤ z ∧ z ≤ 400) (rd_Model_31 iM rfl)
  refine w_pF (ji := 35) rfl (congrArg Prod.fst (kl_126 iM)) (fun M5 hM5 => ?_)
  replace hM5 : M5 = mS M 126 35 a2 := hM5
  have iM5 : I n M5 := wr_Model_35 iM rfl ⟨by omega, by omega⟩ hM5
  have kM5 : Keep n W_X9_wrong M M5 := kM.st hM5 (Or.inl ⟨rfl, rfl⟩)
  exact w_ret ⟨iM5, kM5, (show (-1) ≤ (-1) ∧ (-1) ≤ (-1) from ⟨by omega, by omega⟩), trivial⟩
def W_X9_bound (b j : Int) : Prop := False
theorem s_X9_bound {n : Nat} {l0 l1 : Int} {M : Mem} (r_l0 : (-2147483648) ≤ l0 ∧ l0 ≤ 2147483647) (r_l1 : 0 ≤ l1 ∧ l1 ≤ 3) (iM : I n M) : wp (mX9_bound l0 l1 M) (fun q => I n q.2 ∧ Keep n W_X9_bound M q.2 ∧ ((-1) ≤ q.1 ∧ q.1 ≤ 2) ∧ True) := by
  have hn : (169 : Int) ≤ (n : Int) := by have := iM.2.2.2.2.1; omega
  have kM : Keep n W_X9_bound M M := Keep.rf
  unfold mX9_bound
  have w1_ := wI_id (x := (2 * l1)) (by omega) (by omega)
  have w2_ := ishr_in l0 (wI (2 * l1))
  have w3_ := iand_r (x := (ishr l0 (wI (2 * l1)))) (y := 3) (by omega) (by omega)
  refine w_some (fun b7 hb7 => ?_)
  replace hb7 : b7 = (iand (ishr l0 (wI (2 * l1))) 3) := hb7
  refine w_if (fun c4_ => ?_) (fun c4_ => ?_)
  · skip
    exact w_ret ⟨iM, kM, (show (-1) ≤ (-1) ∧ (-1) ≤ 2 from ⟨by omega, by omega⟩), trivial⟩
  · skip
    exact w_ret ⟨iM, kM, (show (-1) ≤ b7 ∧ b7 ≤ 2 from ⟨by omega, by omega⟩), trivial⟩
def W_X9_readVar (b j : Int) : Prop := (b = 126 ∧ j = 29) ∨ (b = 126 ∧ j = 31) ∨ (b = 126 ∧ j = 32) ∨ (b = 126 ∧ j = 33) ∨ (b = 126 ∧ j = 34) ∨ (b = 126 ∧ j = 35) ∨ (b = 126 ∧ j = 36) ∨ (b = 126 ∧ j = 37)
theorem s_X9_readVar_59 {n : Nat} {Me : Mem} {l3 : Int} {M : Mem} (r_l3 : 0 ≤ l3 ∧ l3 ≤ 3) (y0 : mG M 126 29 = mG M 126 29) (y1 : mG M 126 31 ≤ mG M 126 29 ∧ mG Me 126 31 ≤ mG M 126 31) (y2 : (mG M 126 34 = 0 ∨ mG M 126 31 < mG M 126 29)) (iM : I n M) (kM : Keep n W_X9_readVar Me M) : wp (mX9_readVar_59 126 l3 M) (fun q => I n q.2 ∧ Keep n W_X9_readVar Me q.2 ∧ ((-1) ≤ q.1 ∧ q.1 ≤ 3) ∧ (mG Me 126 31 ≤ mG q.2 126 31 ∧ mG q.2 126 31 ≤ mG q.2 126 29 ∧ (mG q.2 126 34 = 0 ∨ mG q.2 126 31 < mG q.2 126 29)) ∧ True) := by
  have hn : (169 : Int) ≤ (n : Int) := by have := iM.2.2.2.2.1; omega
  obtain ⟨nh0, enh0⟩ : ∃ v, Is (mG M 126 29) v := ⟨_, rfl⟩
  have rnh0 : 0 ≤ nh0 ∧ nh0 ≤ 400 := by rw [← enh0.e]; exact rd_Model_29 iM rfl
  have qnh0 : mG M 126 29 = nh0 := enh0
  (try rw [enh0.e] at y0); (try rw [enh0.e] at y1); (try rw [enh0.e] at y2)
  obtain ⟨nh1, enh1⟩ : ∃ v, Is (mG M 126 31) v := ⟨_, rfl⟩
  have rnh1 : 0 ≤ nh1 ∧ nh1 ≤ 400 := by rw [← enh1.e]; exact rd_Model_31 iM rfl
  have qnh1 : mG M 126 31 = nh1 := enh1
  (try rw [enh1.e] at y0); (try rw [enh1.e] at y1); (try rw [enh1.e] at y2)
  obtain ⟨nh2, enh2⟩ : ∃ v, Is (mG M 126 34) v := ⟨_, rfl⟩
  have qnh2 : mG M 126 34 = nh2 := enh2
  (try rw [enh2.e] at y0); (try rw [enh2.e] at y1); (try rw [enh2.e] at y2)
  unfold mX9_readVar_59
  refine w_gK (congrArg Prod.fst (kl_126 iM)) ?_
  have lbm60_29 : mG M 126 29 = nh0 := (show mG M 126 29 = nh0 from (show mG M 126 29 = nh0 from enh0))
  have lbm60_31 : mG M 126 31 = nh1 := (show mG M 126 31 = nh1 from (show mG M 126 31 = nh1 from enh1))
  have lbm60_34 : mG M 126 34 = nh2 := (show mG M 126 34 = nh2 from (show mG M 126 34 = nh2 from enh2))
  refine w_call (s_X9_token iM) ?_
  intro v60 m60 pp60
  obtain ⟨im60, kk60, e60_0, -⟩ := pp60
  try dsimp only
  replace im60 : I n m60 := im60
  replace kk60 : Keep n W_X9_token M m60 := kk60
  have km60 : Keep n W_X9_readVar Me m60 := kM.tr kk60 (fun b j z => Or.elim z (fun z => (Or.inl z)) (fun z => Or.elim z (fun z => (Or.inr (Or.inl z))) (fun z => Or.elim z (fun z => (Or.inr (Or.inr (Or.inl z)))) (fun z => Or.elim z (fun z => (Or.inr (Or.inr (Or.inr (Or.inl z))))) (fun z => (Or.inr (Or.inr (Or.inr (Or.inr (Or.inl z))))))))))
  replace e60_0 : mG M 126 29 ≤ mG m60 126 31 ∧ mG m60 126 31 ≤ mG m60 126 29 ∧ (mG m60 126 34 = 0 ∨ mG m60 126 31 < mG m60 126 29) := e60_0
  obtain ⟨hv60_29, ehv60_29⟩ : ∃ v, Is (mG m60 126 29) v := ⟨_, rfl⟩
  have lhv60_29 : mG m60 126 29 = hv60_29 := ehv60_29
  have rhv60_29 : 0 ≤ hv60_29 ∧ hv60_29 ≤ 400 := by rw [← ehv60_29.e]; exact rd_Model_29 im60 rfl
  obtain ⟨hv60_31, ehv60_31⟩ : ∃ v, Is (mG m60 126 31) v := ⟨_, rfl⟩
  have lhv60_31 : mG m60 126 31 = hv60_31 := ehv60_31
  have rhv60_31 : 0 ≤ hv60_31 ∧ hv60_31 ≤ 400 := by rw [← ehv60_31.e]; exact rd_Model_31 im60 rfl
  obtain ⟨hv60_34, ehv60_34⟩ : ∃ v, Is (mG m60 126 34) v := ⟨_, rfl⟩
  have lhv60_34 : mG m60 126 34 = hv60_34 := ehv60_34
  skip
  exact w_ret ⟨im60, km60, (show (-1) ≤ l3 ∧ l3 ≤ 3 from ⟨by omega, by omega⟩), (show mG Me 126 31 ≤ mG m60 126 31 ∧ mG m60 126 31 ≤ mG m60 126 29 ∧ (mG m60 126 34 = 0 ∨ mG m60 126 31 < mG m60 126 29) from (by (try rw [(show mG m60 126 29 = hv60_29 from (show mG m60 126 29 = hv60_29 from ehv60_29))]); (try rw [(show mG m60 126 31 = hv60_31 from (show mG m60 126 31 = hv60_31 from ehv60_31))]); (try rw [(show mG m60 126 34 = hv60_34 from (show mG m60 126 34 = hv60_34 from ehv60_34))]); all_goals omega)), trivial⟩
theorem s_X9_readVar {n : Nat} {l1 l2 : Int} {M : Mem} (r_l1 : (-2147483648) ≤ l1 ∧ l1 ≤ 2147483647) (r_l2 : (-1) ≤ l2 ∧ l2 ≤ 2) (y0 : mG M 126 29 = mG M 126 29) (y1 : mG M 126 31 ≤ mG M 126 29) (y2 : mG M 126 34 = 0 ∨ mG M 126 31 < mG M 126 29) (iM : I n M) : wp (mX9_readVar 126 l1 l2 M) (fun q => I n q.2 ∧ Keep n W_X9_readVar M q.2 ∧ ((-1) ≤ q.1 ∧ q.1 ≤ 3) ∧ (mG M 126 31 ≤ mG q.2 126 31 ∧ mG q.2 126 31 ≤ mG q.2 126 29 ∧ (mG q.2 126 34 = 0 ∨ mG q.2 126 31 < mG q.2 126 29)) ∧ True) := by
  have hn : (169 : Int) ≤ (n : Int) := by have := iM.2.2.2.2.1; omega
  have kM : Keep n W_X9_readVar M M := Keep.rf
  obtain ⟨nh0, enh0⟩ : ∃ v, Is (mG M 126 29) v := ⟨_, rfl⟩
  have rnh0 : 0 ≤ nh0 ∧ nh0 ≤ 400 := by rw [← enh0.e]; exact rd_Model_29 iM rfl
  have qnh0 : mG M 126 29 = nh0 := enh0
  (try rw [enh0.e] at y0); (try rw [enh0.e] at y1); (try rw [enh0.e] at y2)
  obtain ⟨nh1, enh1⟩ : ∃ v, Is (mG M 126 31) v := ⟨_, rfl⟩
  have rnh1 : 0 ≤ nh1 ∧ nh1 ≤ 400 := by rw [← enh1.e]; exact rd_Model_31 iM rfl
  have qnh1 : mG M 126 31 = nh1 := enh1
  (try rw [enh1.e] at y0); (try rw [enh1.e] at y1); (try rw [enh1.e] at y2)
  obtain ⟨nh2, enh2⟩ : ∃ v, Is (mG M 126 34) v := ⟨_, rfl⟩
  have qnh2 : mG M 126 34 = nh2 := enh2
  (try rw [enh2.e] at y0); (try rw [enh2.e] at y1); (try rw [enh2.e] at y2)
  unfold mX9_readVar
  refine w_gK (congrArg Prod.fst (kl_126 iM)) ?_
  refine w_call (s_X9_varOf (by (try rw [(show mG M 126 34 = nh2 from (show mG M 126 34 = nh2 from enh2))]); all_goals omega) iM) ?_
  intro v1 m1 pp1
  obtain ⟨im1, kk1, e1_0, e1_1, -⟩ := pp1
  try dsimp only
  replace im1 : I n m1 := im1
  replace kk1 : Keep n W_X9_varOf M m1 := kk1
  have km1 : Keep n W_X9_readVar M m1 := kM.tr kk1 (fun b j z => z.elim)
  replace e1_0 : (-1) ≤ v1 ∧ v1 ≤ 3 := e1_0
  replace e1_1 : v1 = -1 ∨ ¬ mG m1 126 34 = 0 := e1_1
  have lk1 : mG m1 126 34 = nh2 := ((kk1.2.2 126 34 (by omega) (fun z => z)).trans (show mG M 126 34 = nh2 from enh2))
  refine w_if (fun c1_ => ?_) (fun c1_ => ?_)
  · skip
    refine w_gK (congrArg Prod.fst (kl_126 im1)) ?_
    refine w_call (s_X9_wrong im1) ?_
    intro v11 m11 pp11
    obtain ⟨im11, kk11, e11_0, -⟩ := pp11
    try dsimp only
    replace im11 : I n m11 := im11
    replace kk11 : Keep n W_X9_wrong m1 m11 := kk11
    have km11 : Keep n W_X9_readVar M m11 := km1.tr kk11 (fun b j z => by unfold W_X9_wrong at z; exact (Or.inr (Or.inr (Or.inr (Or.inr (Or.inr (Or.inl z)))))))
    replace e11_0 : (-1) ≤ v11 ∧ v11 ≤ (-1) := e11_0
    exact w_ret ⟨im11, km11, (show (-1) ≤ v11 ∧ v11 ≤ 3 from ⟨by omega, by omega⟩), (show mG M 126 31 ≤ mG m11 126 31 ∧ mG m11 126 31 ≤ mG m11 126 29 ∧ (mG m11 126 34 = 0 ∨ mG m11 126 31 < mG m11 126 29) from (by (try rw [(show mG m11 126 29 = nh0 from ((kk11.2.2 126 29 (by omega) (fun z => by unfold W_X9_wrong at z; (try unfold isWS at z); (try unfold isShape at z); (try unfold isTold at z); (try dsimp only at z); omega)).trans ((kk1.2.2 126 29 (by omega) (fun z => z)).trans (show mG M 126 29 = nh0 from enh0))))]); (try rw [(show mG m11 126 31 = nh1 from ((kk11.2.2 126 31 (by omega) (fun z => by unfold W_X9_wrong at z; (try unfold isWS at z); (try unfold isShape at z); (try unfold isTold at z); (try dsimp only at z); omega)).trans ((kk1.2.2 126 31 (by omega) (fun z => z)).trans (show mG M 126 31 = nh1 from enh1))))]); (try rw [(show mG m11 126 34 = nh2 from ((kk11.2.2 126 34 (by omega) (fun z => by unfold W_X9_wrong at z; (try unfold isWS at z); (try unfold isShape at z); (try unfold isTold at z); (try dsimp only at z); omega)).trans ((kk1.2.2 126 34 (by omega) (fun z => z)).trans (show mG M 126 34 = nh2 from enh2))))]); all_goals omega)), trivial⟩
  · skip
    refine w_call (s_X9_bound ⟨by omega, by omega⟩ ⟨by omega, by omega⟩ im1) ?_
    intro v17 m17 pp17
    obtain ⟨im17, kk17, e17_0, -⟩ := pp17
    try dsimp only
    replace im17 : I n m17 := im17
    replace kk17 : Keep n W_X9_bound m1 m17 := kk17
    have km17 : Keep n W_X9_readVar M m17 := km1.tr kk17 (fun b j z => z.elim)
    replace e17_0 : (-1) ≤ v17 ∧ v17 ≤ 2 := e17_0
    refine w_if (fun c2_ => ?_) (fun c2_ => ?_)
    · skip
      refine w_gFc (ji := 31) rfl (congrArg Prod.fst (kl_126 im17)) (show mG m17 126 31 = nh1 from ((kk17.2.2 126 31 (by omega) (fun z => z)).trans ((kk1.2.2 126 31 (by omega) (fun z => z)).trans (show mG M 126 31 = nh1 from enh1)))) ?_
      refine w_gK (congrArg Prod.fst (kl_126 im17)) ?_
      refine w_call (s_X9_later ⟨by omega, by omega⟩ ⟨by omega, by omega⟩ im17) ?_
      intro v30 m30 pp30
      obtain ⟨im30, kk30, -⟩ := pp30
      try dsimp only
      replace im30 : I n m30 := im30
      replace kk30 : Keep n W_X9_later m17 m30 := kk30
      have km30 : Keep n W_X9_readVar M m30 := km17.tr kk30 (fun b j z => Or.elim z (fun z => (Or.inr (Or.inr (Or.inr (Or.inr (Or.inr (Or.inr (Or.inl z)))))))) (fun z => (Or.inr (Or.inr (Or.inr (Or.inr (Or.inr (Or.inr (Or.inr z)))))))))
      exact s_X9_readVar_59 ⟨by omega, by omega⟩ (by (try rw [(show mG m30 126 29 = nh0 from ((kk30.2.2 126 29 (by omega) (fun z => by unfold W_X9_later at z; (try unfold isWS at z); (try unfold isShape at z); (try unfold isTold at z); (try dsimp only at z); omega)).trans ((kk17.2.2 126 29 (by omega) (fun z => z)).trans ((kk1.2.2 126 29 (by omega) (fun z => z)).trans (show mG M 126 29 = nh0 from enh0)))))]); (try rw [(show mG m30 126 31 = nh1 from ((kk30.2.2 126 31 (by omega) (fun z => by unfold W_X9_later at z; (try unfold isWS at z); (try unfold isShape at z); (try unfold isTold at z); (try dsimp only at z); omega)).trans ((kk17.2.2 126 31 (by omega) (fun z => z)).trans ((kk1.2.2 126 31 (by omega) (fun z => z)).trans (show mG M 126 31 = nh1 from enh1)))))]); (try rw [(show mG m30 126 34 = nh2 from ((kk30.2.2 126 34 (by omega) (fun z => by unfold W_X9_later at z; (try unfold isWS at z); (try unfold isShape at z); (try unfold isTold at z); (try dsimp only at z); omega)).trans ((kk17.2.2 126 34 (by omega) (fun z => z)).trans ((kk1.2.2 126 34 (by omega) (fun z => z)).trans (show mG M 126 34 = nh2 from enh2)))))]); all_goals omega) (by (try rw [(show mG m30 126 29 = nh0 from ((kk30.2.2 126 29 (by omega) (fun z => by unfold W_X9_later at z; (try unfold isWS at z); (try unfold isShape at z); (try unfold isTold at z); (try dsimp only at z); omega)).trans ((kk17.2.2 126 29 (by omega) (fun z => z)).trans ((kk1.2.2 126 29 (by omega) (fun z => z)).trans (show mG M 126 29 = nh0 from enh0)))))]); (try rw [(show mG m30 126 31 = nh1 from ((kk30.2.2 126 31 (by omega) (fun z => by unfold W_X9_later at z; (try unfold isWS at z); (try unfold isShape at z); (try unfold isTold at z); (try dsimp only at z); omega)).trans ((kk17.2.2 126 31 (by omega) (fun z => z)).trans ((kk1.2.2 126 31 (by omega) (fun z => z)).trans (show mG M 126 31 = nh1 from enh1)))))]); (try rw [(show mG m30 126 34 = nh2 from ((kk30.2.2 126 34 (by omega) (fun z => by unfold W_X9_later at z; (try unfold isWS at z); (try unfold isShape at z); (try unfold isTold at z); (try dsimp only at z); omega)).trans ((kk17.2.2 126 34 (by omega) (fun z => z)).trans ((kk1.2.2 126 34 (by omega) (fun z => z)).trans (show mG M 126 34 = nh2 from enh2)))))]); all_goals omega) (by (try rw [(show mG m30 126 29 = nh0 from ((kk30.2.2 126 29 (by omega) (fun z => by unfold W_X9_later at z; (try unfold isWS at z); (try unfold isShape at z); (try unfold isTold at z); (try dsimp only at z); omega)).trans ((kk17.2.2 126 29 (by omega) (fun z => z)).trans ((kk1.2.2 126 29 (by omega) (fun z => z)).trans (show mG M 126 29 = nh0 from enh0)))))]); (try rw [(show mG m30 126 31 = nh1 from ((kk30.2.2 126 31 (by omega) (fun z => by unfold W_X9_later at z; (try unfold isWS at z); (try unfold isShape at z); (try unfold isTold at z); (try dsimp only at z); omega)).trans ((kk17.2.2 126 31 (by omega) (fun z => z)).trans ((kk1.2.2 126 31 (by omega) (fun z => z)).trans (show mG M 126 31 = nh1 from enh1)))))]); (try rw [(show mG m30 126 34 = nh2 from ((kk30.2.2 126 34 (by omega) (fun z => by unfold W_X9_later at z; (try unfold isWS at z); (try unfold isShape at z); (try unfold isTold at z); (try dsimp only at z); omega)).trans ((kk17.2.2 126 34 (by omega) (fun z => z)).trans ((kk1.2.2 126 34 (by omega) (fun z => z)).trans (show mG M 126 34 = nh2 from enh2)))))]); all_goals omega) im30 km30
    · skip
      refine w_if (fun c3_ => ?_) (fun c3_ => ?_)
      · skip
        exact s_X9_readVar_59 ⟨by omega, by omega⟩ (by (try rw [(show mG m17 126 29 = nh0 from ((kk17.2.2 126 29 (by omega) (fun z => z)).trans ((kk1.2.2 126 29 (by omega) (fun z => z)).trans (show mG M 126 29 = nh0 from enh0))))]); (try rw [(show mG m17 126 31 = nh1 from ((kk17.2.2 126 31 (by omega) (fun z => z)).trans ((kk1.2.2 126 31 (by omega) (fun z => z)).trans (show mG M 126 31 = nh1 from enh1))))]); (try rw [(show mG m17 126 34 = nh2 from ((kk17.2.2 126 34 (by omega) (fun z => z)).trans ((kk1.2.2 126 34 (by omega) (fun z => z)).trans (show mG M 126 34 = nh2 from enh2))))]); all_goals omega) (by (try rw [(show mG m17 126 29 = nh0 from ((kk17.2.2 126 29 (by omega) (fun z => z)).trans ((kk1.2.2 126 29 (by omega) (fun z => z)).trans (show mG M 126 29 = nh0 from enh0))))]); (try rw [(show mG m17 126 31 = nh1 from ((kk17.2.2 126 31 (by omega) (fun z => z)).trans ((kk1.2.2 126 31 (by omega) (fun z => z)).trans (show mG M 126 31 = nh1 from enh1))))]); (try rw [(show mG m17 126 34 = nh2 from ((kk17.2.2 126 34 (by omega) (fun z => z)).trans ((kk1.2.2 126 34 (by omega) (fun z => z)).trans (show mG M 126 34 = nh2 from enh2))))]); all_goals omega) (by (try rw [(show mG m17 126 29 = nh0 from ((kk17.2.2 126 29 (by omega) (fun z => z)).trans ((kk1.2.2 126 29 (by omega) (fun z => z)).trans (show mG M 126 29 = nh0 from enh0))))]); (try rw [(show mG m17 126 31 = nh1 from ((kk17.2.2 126 31 (by omega) (fun z => z)).trans ((kk1.2.2 126 31 (by omega) (fun z => z)).trans (show mG M 126 31 = nh1 from enh1))))]); (try rw [(show mG m17 126 34 = nh2 from ((kk17.2.2 126 34 (by omega) (fun z => z)).trans ((kk1.2.2 126 34 (by omega) (fun z => z)).trans (show mG M 126 34 = nh2 from enh2))))]); all_goals omega) im17 km17
      · skip
        refine w_call (s_X9_bound ⟨by omega, by omega⟩ ⟨by omega, by omega⟩ im17) ?_
        intro v43 m43 pp43
        obtain ⟨im43, kk43, e43_0, -⟩ := pp43
        try dsimp only
        replace im43 : I n m43 := im43
        replace kk43 : Keep n W_X9_bound m17 m43 := kk43
        have km43 : Keep n W_X9_readVar M m43 := km17.tr kk43 (fun b j z => z.elim)
        replace e43_0 : (-1) ≤ v43 ∧ v43 ≤ 2 := e43_0
        refine w_if (fun c4_ => ?_) (fun c4_ => ?_)
        · skip
          exact s_X9_readVar_59 ⟨by omega, by omega⟩ (by (try rw [(show mG m43 126 29 = nh0 from ((kk43.2.2 126 29 (by omega) (fun z => z)).trans ((kk17.2.2 126 29 (by omega) (fun z => z)).trans ((kk1.2.2 126 29 (by omega) (fun z => z)).trans (show mG M 126 29 = nh0 from enh0)))))]); (try rw [(show mG m43 126 31 = nh1 from ((kk43.2.2 126 31 (by omega) (fun z => z)).trans ((kk17.2.2 126 31 (by omega) (fun z => z)).trans ((kk1.2.2 126 31 (by omega) (fun z => z)).trans (show mG M 126 31 = nh1 from enh1)))))]); (try rw [(show mG m43 126 34 = nh2 from ((kk43.2.2 126 34 (by omega) (fun z => z)).trans ((kk17.2.2 126 34 (by omega) (fun z => z)).trans ((kk1.2.2 126 34 (by omega) (fun z => z)).trans (show mG M 126 34 = nh2 from enh2)))))]); all_goals omega) (by (try rw [(show mG m43 126 29 = nh0 from ((kk43.2.2 126 29 (by omega) (fun z => z)).trans ((kk17.2.2 126 29 (by omega) (fun z => z)).trans ((kk1.2.2 126 29 (by omega) (fun z => z)).trans (show mG M 126 29 = nh0 from enh0)))))]); (try rw [(show mG m43 126 31 = nh1 from ((kk43.2.2 126 31 (by omega) (fun z => z)).trans ((kk17.2.2 126 31 (by omega) (fun z => z)).trans ((kk1.2.2 126 31 (by omega) (fun z => z)).trans (show mG M 126 31 = nh1 from enh1)))))]); (try rw [(show mG m43 126 34 = nh2 from ((kk43.2.2 126 34 (by omega) (fun z => z)).trans ((kk17.2.2 126 34 (by omega) (fun z => z)).trans ((kk1.2.2 126 34 (by omega) (fun z => z)).trans (show mG M 126 34 = nh2 from enh2)))))]); all_goals omega) (by (try rw [(show mG m43 126 29 = nh0 from ((kk43.2.2 126 29 (by omega) (fun z => z)).trans ((kk17.2.2 126 29 (by omega) (fun z => z)).trans ((kk1.2.2 126 29 (by omega) (fun z => z)).trans (show mG M 126 29 = nh0 from enh0)))))]); (try rw [(show mG m43 126 31 = nh1 from ((kk43.2.2 126 31 (by omega) (fun z => z)).trans ((kk17.2.2 126 31 (by omega) (fun z => z)).trans ((kk1.2.2 126 31 (by omega) (fun z => z)).trans (show mG M 126 31 = nh1 from enh1)))))]); (try rw [(show mG m43 126 34 = nh2 from ((kk43.2.2 126 34 (by omega) (fun z => z)).trans ((kk17.2.2 126 34 (by omega) (fun z => z)).trans ((kk1.2.2 126 34 (by omega) (fun z => z)).trans (show mG M 126 34 = nh2 from enh2)))))]); all_goals omega) im43 km43
        · skip
          refine w_gFc (ji := 31) rfl (congrArg Prod.fst (kl_126 im43)) (show mG m43 126 31 = nh1 from ((kk43.2.2 126 31 (by omega) (fun z => z)).trans ((kk17.2.2 126 31 (by omega) (fun z => z)).trans ((kk1.2.2 126 31 (by omega) (fun z => z)).trans (show mG M 126 31 = nh1 from enh1))))) ?_
          refine w_gK (congrArg Prod.fst (kl_126 im43)) ?_
          refine w_call (s_X9_later ⟨by omega, by omega⟩ ⟨by omega, by omega⟩ im43) ?_
          intro v56 m56 pp56
          obtain ⟨im56, kk56, -⟩ := pp56
          try dsimp only
          replace im56 : I n m56 := im56
          replace kk56 : Keep n W_X9_later m43 m56 := kk56
          have km56 : Keep n W_X9_readVar M m56 := km43.tr kk56 (fun b j z => Or.elim z (fun z => (Or.inr (Or.inr (Or.inr (Or.inr (Or.inr (Or.inr (Or.inl z)))))))) (fun z => (Or.inr (Or.inr (Or.inr (Or.inr (Or.inr (Or.inr (Or.inr z)))))))))
          exact s_X9_readVar_59 ⟨by omega, by omega⟩ (by (try rw [(show mG m56 126 29 = nh0 from ((kk56.2.2 126 29 (by omega) (fun z => by unfold W_X9_later at z; (try unfold isWS at z); (try unfold isShape at z); (try unfold isTold at z); (try dsimp only at z); omega)).trans ((kk43.2.2 126 29 (by omega) (fun z => z)).trans ((kk17.2.2 126 29 (by omega) (fun z => z)).trans ((kk1.2.2 126 29 (by omega) (fun z => z)).trans (show mG M 126 29 = nh0 from enh0))))))]); (try rw [(show mG m56 126 31 = nh1 from ((kk56.2.2 126 31 (by omega) (fun z => by unfold W_X9_later at z; (try unfold isWS at z); (try unfold isShape at z); (try unfold isTold at z); (try dsimp only at z); omega)).trans ((kk43.2.2 126 31 (by omega) (fun z => z)).trans ((kk17.2.2 126 31 (by omega) (fun z => z)).trans ((kk1.2.2 126 31 (by omega) (fun z => z)).trans (show mG M 126 31 = nh1 from enh1))))))]); (try rw [(show mG m56 126 34 = nh2 from ((kk56.2.2 126 34 (by omega) (fun z => by unfold W_X9_later at z; (try unfold isWS at z); (try unfold isShape at z); (try unfold isTold at z); (try dsimp only at z); omega)).trans ((kk43.2.2 126 34 (by omega) (fun z => z)).trans ((kk17.2.2 126 34 (by omega) (fun z => z)).trans ((kk1.2.2 126 34 (by omega) (fun z => z)).trans (show mG M 126 34 = nh2 from enh2))))))]); all_goals omega) (by (try rw [(show mG m56 126 29 = nh0 from ((kk56.2.2 126 29 (by omega) (fun z => by unfold W_X9_later at z; (try unfold isWS at z); (try unfold isShape at z); (try unfold isTold at z); (try dsimp only at z); omega)).trans ((kk43.2.2 126 29 (by omega) (fun z => z)).trans ((kk17.2.2 126 29 (by omega) (fun z => z)).trans ((kk1.2.2 126 29 (by omega) (fun z => z)).trans (show mG M 126 29 = nh0 from enh0))))))]); (try rw [(show mG m56 126 31 = nh1 from ((kk56.2.2 126 31 (by omega) (fun z => by unfold W_X9_later at z; (try unfold isWS at z); (try unfold isShape at z); (try unfold isTold at z); (try dsimp only at z); omega)).trans ((kk43.2.2 126 31 (by omega) (fun z => z)).trans ((kk17.2.2 126 31 (by omega) (fun z => z)).trans ((kk1.2.2 126 31 (by omega) (fun z => z)).trans (show mG M 126 31 = nh1 from enh1))))))]); (try rw [(show mG m56 126 34 = nh2 from ((kk56.2.2 126 34 (by omega) (fun z => by unfold W_X9_later at z; (try unfold isWS at z); (try unfold isShape at z); (try unfold isTold at z); (try dsimp only at z); omega)).trans ((kk43.2.2 126 34 (by omega) (fun z => z)).trans ((kk17.2.2 126 34 (by omega) (fun z => z)).trans ((kk1.2.2 126 34 (by omega) (fun z => z)).trans (show mG M 126 34 = nh2 from enh2))))))]); all_goals omega) (by (try rw [(show mG m56 126 29 = nh0 from ((kk56.2.2 126 29 (by omega) (fun z => by unfold W_X9_later at z; (try unfold isWS at z); (try unfold isShape at z); (try unfold isTold at z); (try dsimp only at z); omega)).trans ((kk43.2.2 126 29 (by omega) (fun z => z)).trans ((kk17.2.2 126 29 (by omega) (fun z => z)).trans ((kk1.2.2 126 29 (by omega) (fun z => z)).trans (show mG M 126 29 = nh0 from enh0))))))]); (try rw [(show mG m56 126 31 = nh1 from ((kk56.2.2 126 31 (by omega) (fun z => by unfold W_X9_later at z; (try unfold isWS at z); (try unfold isShape at z); (try unfold isTold at z); (try dsimp only at z); omega)).trans ((kk43.2.2 126 31 (by omega) (fun z => z)).trans ((kk17.2.2 126 31 (by omega) (fun z => z)).trans ((kk1.2.2 126 31 (by omega) (fun z => z)).trans (show mG M 126 31 = nh1 from enh1))))))]); (try rw [(show mG m56 126 34 = nh2 from ((kk56.2.2 126 34 (by omega) (fun z => by unfold W_X9_later at z; (try unfold isWS at z); (try unfold isShape at z); (try unfold isTold at z); (try dsimp only at z); omega)).trans ((kk43.2.2 126 34 (by omega) (fun z => z)).trans ((kk17.2.2 126 34 (by omega) (fun z => z)).trans ((kk1.2.2 126 34 (by omega) (fun z => z)).trans (show mG M 126 34 = nh2 from enh2))))))]); all_goals omega) im56 km56
def W_X9_readRelation (b j : Int) : Prop := (156 ≤ b ∧ b ≤ 159) ∨ (b = 126 ∧ j = 29) ∨ (b = 126 ∧ j = 31) ∨ (b = 126 ∧ j = 32) ∨ (b = 126 ∧ j = 33) ∨ (b = 126 ∧ j = 34) ∨ (b = 126 ∧ j = 35) ∨ (b = 126 ∧ j = 36) ∨ (b = 126 ∧ j = 37)
theorem s_X9_readRelation_236 {n : Nat} {Me : Mem} {l1 s1 s3 s4 : Int} {M : Mem} (r_l1 : 0 ≤ l1 ∧ l1 ≤ 40) (r_s1 : 0 ≤ s1 ∧ s1 ≤ 40) (r_s3 : (-2147483648) ≤ s3 ∧ s3 ≤ 2147483647) (r_s4 : (-1) ≤ s4 ∧ s4 ≤ 2) (y0 : mG M 126 29 = mG M 126 29) (y1 : mG M 126 31 ≤ mG M 126 29 ∧ mG Me 126 31 < mG M 126 31) (y2 : (mG M 126 34 = 0 ∨ mG M 126 31 < mG M 126 29)) (iM : I n M) (kM : Keep n W_X9_readRelation Me M) : wp (mX9_readRelation_236 126 l1 159 s1 126 s3 s4 M) (fun q => I n q.2 ∧ Keep n W_X9_readRelation Me q.2 ∧ (0 ≤ q.1 ∧ q.1 ≤ 1) ∧ (mG Me 126 31 ≤ mG q.2 126 31 ∧ mG q.2 126 31 ≤ mG q.2 126 29 ∧ (mG q.2 126 34 = 0 ∨ mG q.2 126 31 < mG q.2 126 29)) ∧ (q.1 = 1 → mG Me 126 31 < mG q.2 126 31) ∧ True) := by
  have hn : (169 : Int) ≤ (n : Int) := by have := iM.2.2.2.2.1; omega
  obtain ⟨nh0, enh0⟩ : ∃ v, Is (mG M 126 29) v := ⟨_, rfl⟩
  have rnh0 : 0 ≤ nh0 ∧ nh0 ≤ 400 := by rw [← enh0.e]; exact rd_Model_29 iM rfl
  have qnh0 : mG M 126 29 = nh0 := enh0
  (try rw [enh0.e] at y0); (try rw [enh0.e] at y1); (try rw [enh0.e] at y2)
  obtain ⟨nh1, enh1⟩ : ∃ v, Is (mG M 126 31) v := ⟨_, rfl⟩
  have rnh1 : 0 ≤ nh1 ∧ nh1 ≤ 400 := by rw [← enh1.e]; exact rd_Model_31 iM rfl
  have qnh1 : mG M 126 31 = nh1 := enh1
  (try rw [enh1.e] at y0); (try rw [enh1.e] at y1); (try rw [enh1.e] at y2)
  obtain ⟨nh2, enh2⟩ : ∃ v, Is (mG M 126 34) v := ⟨_, rfl⟩
  have qnh2 : mG M 126 34 = nh2 := enh2
  (try rw [enh2.e] at y0); (try rw [enh2.e] at y1); (try rw [enh2.e] at y2)
  unfold mX9_readRelation_236
  refine w_gK (congrArg Prod.fst (kl_126 iM)) ?_
  have lbm236_29 : mG M 126 29 = nh0 := (show mG M 126 29 = nh0 from (show mG M 126 29 = nh0 from enh0))
  have lbm236_31 : mG M 126 31 = nh1 := (show mG M 126 31 = nh1 from (show mG M 126 31 = nh1 from enh1))
  have lbm236_34 : mG M 126 34 = nh2 := (show mG M 126 34 = nh2 from (show mG M 126 34 = nh2 from enh2))
  refine w_call (s_X9_readVar ⟨by omega, by omega⟩ ⟨by omega, by omega⟩ (by (try rw [(show mG M 126 29 = nh0 from (show mG M 126 29 = nh0 from enh0))]); (try rw [(show mG M 126 31 = nh1 from (show mG M 126 31 = nh1 from enh1))]); (try rw [(show mG M 126 34 = nh2 from (show mG M 126 34 = nh2 from enh2))]); all_goals omega) (by (try rw [(show mG M 126 29 = nh0 from (show mG M 126 29 = nh0 from enh0))]); (try rw [(show mG M 126 31 = nh1 from (show mG M 126 31 = nh1 from enh1))]); (try rw [(show mG M 126 34 = nh2 from (show mG M 126 34 = nh2 from enh2))]); all_goals omega) (by (try rw [(show mG M 126 29 = nh0 from (show mG M 126 29 = nh0 from enh0))]); (try rw [(show mG M 126 31 = nh1 from (show mG M 126 31 = nh1 from enh1))]); (try rw [(show mG M 126 34 = nh2 from (show mG M 126 34 = nh2 from enh2))]); all_goals omega) iM) ?_
  intro v236 m236 pp236
  obtain ⟨im236, kk236, e236_0, e236_1, -⟩ := pp236
  try dsimp only
  replace im236 : I n m236 := im236
  replace kk236 : Keep n W_X9_readVar M m236 := kk236
  have km236 : Keep n W_X9_readRelation Me m236 := kM.tr kk236 (fun b j z => Or.elim z (fun z => (Or.inr (Or.inl z))) (fun z => Or.elim z (fun z => (Or.inr (Or.inr (Or.inl z)))) (fun z => Or.elim z (fun z => (Or.inr (Or.inr (Or.inr (Or.inl z))))) (fun z => Or.elim z (fun z => (Or.inr (Or.inr (Or.inr (Or.inr (Or.inl z)))))) (fun z => Or.elim z (fun z => (Or.inr (Or.inr (Or.inr (Or.inr (Or.inr (Or.inl z))))))) (fun z => Or.elim z (fun z => (Or.inr (Or.inr (Or.inr (Or.inr (Or.inr (Or.inr (Or.inl z)))))))) (fun z => Or.elim z (fun z => (Or.inr (Or.inr (Or.inr (Or.inr (Or.inr (Or.inr (Or.inr (Or.inl z))))))))) (fun z => (Or.inr (Or.inr (Or.inr (Or.inr (Or.inr (Or.inr (Or.inr (Or.inr z))))))))))))))))
  replace e236_0 : (-1) ≤ v236 ∧ v236 ≤ 3 := e236_0
  replace e236_1 : mG M 126 31 ≤ mG m236 126 31 ∧ mG m236 126 31 ≤ mG m236 126 29 ∧ (mG m236 126 34 = 0 ∨ mG m236 126 31 < mG m236 126 29) := e236_1
  obtain ⟨hv236_29, ehv236_29⟩ : ∃ v, Is (mG m236 126 29) v := ⟨_, rfl⟩
  have lhv236_29 : mG m236 126 29 = hv236_29 := ehv236_29
  have rhv236_29 : 0 ≤ hv236_29 ∧ hv236_29 ≤ 400 := by rw [← ehv236_29.e]; exact rd_Model_29 im236 rfl
  obtain ⟨hv236_31, ehv236_31⟩ : ∃ v, Is (mG m236 126 31) v := ⟨_, rfl⟩
  have lhv236_31 : mG m236 126 31 = hv236_31 := ehv236_31
  have rhv236_31 : 0 ≤ hv236_31 ∧ hv236_31 ≤ 400 := by rw [← ehv236_31.e]; exact rd_Model_31 im236 rfl
  obtain ⟨hv236_34, ehv236_34⟩ : ∃ v, Is (mG m236 126 34) v := ⟨_, rfl⟩
  have lhv236_34 : mG m236 126 34 = hv236_34 := ehv236_34
  skip
  refine w_aS (kl_159 im236) (by omega) (by omega) (fun M239 hM239 => ?_)
  replace hM239 : M239 = mS m236 159 s1 v236 := hM239
  have iM239 : I n M239 := wr_MnewThree im236 rfl ⟨by omega, by omega⟩ hM239
  have kM239 : Keep n W_X9_readRelation Me M239 := km236.st hM239 (Or.inl (Or.inl ⟨by decide, by decide⟩))
  refine w_gFc (ji := 44) rfl (congrArg Prod.fst (kl_126 iM239)) (show mG M239 126 44 = 159 from rd_Model_44 iM239 (a := 126) rfl) ?_
  refine w_aG (kl_159 iM239) (by omega) (by omega) (fun a245 ha245 => ?_)
  have ra245 : (-2147483648) ≤ a245 ∧ a245 ≤ 2147483647 := ha245.tr (P := fun z => (-2147483648) ≤ z ∧ z ≤ 2147483647) (rd_MnewThree iM239 rfl)
  refine w_if (fun c1_ => ?_) (fun c1_ => ?_)
  · skip
    exact w_ret ⟨iM239, kM239, (show 0 ≤ 0 ∧ 0 ≤ 1 from ⟨by omega, by omega⟩), (show mG Me 126 31 ≤ mG M239 126 31 ∧ mG M239 126 31 ≤ mG M239 126 29 ∧ (mG M239 126 34 = 0 ∨ mG M239 126 31 < mG M239 126 29) from (by (try rw [(show mG M239 126 29 = hv236_29 from ((st_ne hM239 (fun z => ne_fam rfl rfl (by decide) z.1)).trans (show mG m236 126 29 = hv236_29 from ehv236_29)))]); (try rw [(show mG M239 126 31 = hv236_31 from ((st_ne hM239 (fun z => ne_fam rfl rfl (by decide) z.1)).trans (show mG m236 126 31 = hv236_31 from ehv236_31)))]); (try rw [(show mG M239 126 34 = hv236_34 from ((st_ne hM239 (fun z => ne_fam rfl rfl (by decide) z.1)).trans (show mG m236 126 34 = hv236_34 from ehv236_34)))]); all_goals omega)), (show 0 = 1 → mG Me 126 31 < mG M239 126 31 from (fun z => (by (try rw [(show mG M239 126 29 = hv236_29 from ((st_ne hM239 (fun z => ne_fam rfl rfl (by decide) z.1)).trans (show mG m236 126 29 = hv236_29 from ehv236_29)))]); (try rw [(show mG M239 126 31 = hv236_31 from ((st_ne hM239 (fun z => ne_fam rfl rfl (by decide) z.1)).trans (show mG m236 126 31 = hv236_31 from ehv236_31)))]); (try rw [(show mG M239 126 34 = hv236_34 from ((st_ne hM239 (fun z => ne_fam rfl rfl (by decide) z.1)).trans (show mG m236 126 34 = hv236_34 from ehv236_34)))]); all_goals omega))), trivial⟩
  · skip
    exact w_ret ⟨iM239, kM239, (show 0 ≤ 1 ∧ 1 ≤ 1 from ⟨by omega, by omega⟩), (show mG Me 126 31 ≤ mG M239 126 31 ∧ mG M239 126 31 ≤ mG M239 126 29 ∧ (mG M239 126 34 = 0 ∨ mG M239 126 31 < mG M239 126 29) from (by (try rw [(show mG M239 126 29 = hv236_29 from ((st_ne hM239 (fun z => ne_fam rfl rfl (by decide) z.1)).trans (show mG m236 126 29 = hv236_29 from ehv236_29)))]); (try rw [(show mG M239 126 31 = hv236_31 from ((st_ne hM239 (fun z => ne_fam rfl rfl (by decide) z.1)).trans (show mG m236 126 31 = hv236_31 from ehv236_31)))]); (try rw [(show mG M239 126 34 = hv236_34 from ((st_ne hM239 (fun z => ne_fam rfl rfl (by decide) z.1)).trans (show mG m236 126 34 = hv236_34 from ehv236_34)))]); all_goals omega)), (show 1 = 1 → mG Me 126 31 < mG M239 126 31 from (fun z => (by (try rw [(show mG M239 126 29 = hv236_29 from ((st_ne hM239 (fun z => ne_fam rfl rfl (by decide) z.1)).trans (show mG m236 126 29 = hv236_29 from ehv236_29)))]); (try rw [(show mG M239 126 31 = hv236_31 from ((st_ne hM239 (fun z => ne_fam rfl rfl (by decide) z.1)).trans (show mG m236 126 31 = hv236_31 from ehv236_31)))]); (try rw [(show mG M239 126 34 = hv236_34 from ((st_ne hM239 (fun z => ne_fam rfl rfl (by decide) z.1)).trans (show mG m236 126 34 = hv236_34 from ehv236_34)))]); all_goals omega))), trivial⟩
theorem s_X9_readRelation_198 {n : Nat} {Me : Mem} {l1 : Int} {M : Mem} (r_l1 : 0 ≤ l1 ∧ l1 ≤ 40) (y0 : mG M 126 29 = mG M 126 29) (y1 : mG M 126 31 ≤ mG M 126 29 ∧ mG Me 126 31 < mG M 126 31) (y2 : (mG M 126 34 = 0 ∨ mG M 126 31 < mG M 126 29)) (iM : I n M) (kM : Keep n W_X9_readRelation Me M) : wp (mX9_readRelation_198 126 l1 M) (fun q => I n q.2 ∧ Keep n W_X9_readRelation Me q.2 ∧ (0 ≤ q.1 ∧ q.1 ≤ 1) ∧ (mG Me 126 31 ≤ mG q.2 126 31 ∧ mG q.2 126 31 ≤ mG q.2 126 29 ∧ (mG q.2 126 34 = 0 ∨ mG q.2 126 31 < mG q.2 126 29)) ∧ (q.1 = 1 → mG Me 126 31 < mG q.2 126 31) ∧ True) := by
  have hn : (169 : Int) ≤ (n : Int) := by have := iM.2.2.2.2.1; omega
  obtain ⟨nh0, enh0⟩ : ∃ v, Is (mG M 126 29) v := ⟨_, rfl⟩
  have rnh0 : 0 ≤ nh0 ∧ nh0 ≤ 400 := by rw [← enh0.e]; exact rd_Model_29 iM rfl
  have qnh0 : mG M 126 29 = nh0 := enh0
  (try rw [enh0.e] at y0); (try rw [enh0.e] at y1); (try rw [enh0.e] at y2)
  obtain ⟨nh1, enh1⟩ : ∃ v, Is (mG M 126 31) v := ⟨_, rfl⟩
  have rnh1 : 0 ≤ nh1 ∧ nh1 ≤ 400 := by rw [← enh1.e]; exact rd_Model_31 iM rfl
  have qnh1 : mG M 126 31 = nh1 := enh1
  (try rw [enh1.e] at y0); (try rw [enh1.e] at y1); (try rw [enh1.e] at y2)
  obtain ⟨nh2, enh2⟩ : ∃ v, Is (mG M 126 34) v := ⟨_, rfl⟩
  have qnh2 : mG M 126 34 = nh2 := enh2
  (try rw [enh2.e] at y0); (try rw [enh2.e] at y1); (try rw [enh2.e] at y2)
  unfold mX9_readRelation_198
  refine w_gFc (ji := 43) rfl (congrArg Prod.fst (kl_126 iM)) (show mG M 126 43 = 158 from rd_Model_43 iM (a := 126) rfl) ?_
  refine w_aG (kl_158 iM) (by omega) (by omega) (fun a203 ha203 => ?_)
  have ra203 : (-1) ≤ a203 ∧ a203 ≤ 3 := ha203.tr (P := fun z => (-1) ≤ z ∧ z ≤ 3) (rd_MnewTwo iM rfl)
  refine w_if (fun c1_ => ?_) (fun c1_ => ?_)
  · skip
    exact w_ret ⟨iM, kM, (show 0 ≤ 0 ∧ 0 ≤ 1 from ⟨by omega, by omega⟩), (show mG Me 126 31 ≤ mG M 126 31 ∧ mG M 126 31 ≤ mG M 126 29 ∧ (mG M 126 34 = 0 ∨ mG M 126 31 < mG M 126 29) from (by (try rw [(show mG M 126 29 = nh0 from (show mG M 126 29 = nh0 from enh0))]); (try rw [(show mG M 126 31 = nh1 from (show mG M 126 31 = nh1 from enh1))]); (try rw [(show mG M 126 34 = nh2 from (show mG M 126 34 = nh2 from enh2))]); all_goals omega)), (show 0 = 1 → mG Me 126 31 < mG M 126 31 from (fun z => (by (try rw [(show mG M 126 29 = nh0 from (show mG M 126 29 = nh0 from enh0))]); (try rw [(show mG M 126 31 = nh1 from (show mG M 126 31 = nh1 from enh1))]); (try rw [(show mG M 126 34 = nh2 from (show mG M 126 34 = nh2 from enh2))]); all_goals omega))), trivial⟩
  · skip
    exact w_ret ⟨iM, kM, (show 0 ≤ 1 ∧ 1 ≤ 1 from ⟨by omega, by omega⟩), (show mG Me 126 31 ≤ mG M 126 31 ∧ mG M 126 31 ≤ mG M 126 29 ∧ (mG M 126 34 = 0 ∨ mG M 126 31 < mG M 126 29) from (by (try rw [(show mG M 126 29 = nh0 from (show mG M 126 29 = nh0 from enh0))]); (try rw [(show mG M 126 31 = nh1 from (show mG M 126 31 = nh1 from enh1))]); (try rw [(show mG M 126 34 = nh2 from (show mG M 126 34 = nh2 from enh2))]); all_goals omega)), (show 1 = 1 → mG Me 126 31 < mG M 126 31 from (fun z => (by (try rw [(show mG M 126 29 = nh0 from (show mG M 126 29 = nh0 from enh0))]); (try rw [(show mG M 126 31 = nh1 from (show mG M 126 31 = nh1 from enh1))]); (try rw [(show mG M 126 34 = nh2 from (show mG M 126 34 = nh2 from enh2))]); all_goals omega))), trivial⟩
theorem s_X9_readRelation_173 {n : Nat} {Me : Mem} {l1 l2 l3 l5 s1 s3 s4 : Int} {M : Mem} (r_l1 : 0 ≤ l1 ∧ l1 ≤ 40) (r_l2 : (-2147483648) ≤ l2 ∧ l2 ≤ 2147483647) (r_l3 : 0 ≤ l3 ∧ l3 ≤ 3) (r_l5 : 0 ≤ l5 ∧ l5 ≤ 1) (r_s1 : 0 ≤ s1 ∧ s1 ≤ 40) (r_s3 : (-2147483648) ≤ s3 ∧ s3 ≤ 2147483647) (r_s4 : (-1) ≤ s4 ∧ s4 ≤ 2) (y0 : mG M 126 29 = mG M 126 29) (y1 : mG M 126 31 ≤ mG M 126 29 ∧ mG Me 126 31 < mG M 126 31) (y2 : (mG M 126 34 = 0 ∨ mG M 126 31 < mG M 126 29)) (iM : I n M) (kM : Keep n W_X9_readRelation Me M) : wp (mX9_readRelation_173 126 l1 l2 l3 l5 158 s1 126 s3 s4 M) (fun q => I n q.2 ∧ Keep n W_X9_readRelation Me q.2 ∧ (0 ≤ q.1 ∧ q.1 ≤ 1) ∧ (mG Me 126 31 ≤ mG q.2 126 31 ∧ mG q.2 126 31 ≤ mG q.2 126 29 ∧ (mG q.2 126 34 = 0 ∨ mG q.2 126 31 < mG q.2 126 29)) ∧ (q.1 = 1 → mG Me 126 31 < mG q.2 126 31) ∧ True) := by
  have hn : (169 : Int) ≤ (n : Int) := by have := iM.2.2.2.2.1; omega
  obtain ⟨nh0, enh0⟩ : ∃ v, Is (mG M 126 29) v := ⟨_, rfl⟩
  have rnh0 : 0 ≤ nh0 ∧ nh0 ≤ 400 := by rw [← enh0.e]; exact rd_Model_29 iM rfl
  have qnh0 : mG M 126 29 = nh0 := enh0
  (try rw [enh0.e] at y0); (try rw [enh0.e] at y1); (try rw [enh0.e] at y2)
  obtain ⟨nh1, enh1⟩ : ∃ v, Is (mG M 126 31) v := ⟨_, rfl⟩
  have rnh1 : 0 ≤ nh1 ∧ nh1 ≤ 400 := by rw [← enh1.e]; exact rd_Model_31 iM rfl
  have qnh1 : mG M 126 31 = nh1 := enh1
  (try rw [enh1.e] at y0); (try rw [enh1.e] at y1); (try rw [enh1.e] at y2)
  obtain ⟨nh2, enh2⟩ : ∃ v, Is (mG M 126 34) v := ⟨_, rfl⟩
  have qnh2 : mG M 126 34 = nh2 := enh2
  (try rw [enh2.e] at y0); (try rw [enh2.e] at y1); (try rw [enh2.e] at y2)
  unfold mX9_readRelation_173
  refine w_gK (congrArg Prod.fst (kl_126 iM)) ?_
  have lbm173_29 : mG M 126 29 = nh0 := (show mG M 126 29 = nh0 from (show mG M 126 29 = nh0 from enh0))
  have lbm173_31 : mG M 126 31 = nh1 := (show mG M 126 31 = nh1 from (show mG M 126 31 = nh1 from enh1))
  have lbm173_34 : mG M 126 34 = nh2 := (show mG M 126 34 = nh2 from (show mG M 126 34 = nh2 from enh2))
  refine w_call (s_X9_readVar ⟨by omega, by omega⟩ ⟨by omega, by omega⟩ (by (try rw [(show mG M 126 29 = nh0 from (show mG M 126 29 = nh0 from enh0))]); (try rw [(show mG M 126 31 = nh1 from (show mG M 126 31 = nh1 from enh1))]); (try rw [(show mG M 126 34 = nh2 from (show mG M 126 34 = nh2 from enh2))]); all_goals omega) (by (try rw [(show mG M 126 29 = nh0 from (show mG M 126 29 = nh0 from enh0))]); (try rw [(show mG M 126 31 = nh1 from (show mG M 126 31 = nh1 from enh1))]); (try rw [(show mG M 126 34 = nh2 from (show mG M 126 34 = nh2 from enh2))]); all_goals omega) (by (try rw [(show mG M 126 29 = nh0 from (show mG M 126 29 = nh0 from enh0))]); (try rw [(show mG M 126 31 = nh1 from (show mG M 126 31 = nh1 from enh1))]); (try rw [(show mG M 126 34 = nh2 from (show mG M 126 34 = nh2 from enh2))]); all_goals omega) iM) ?_
  intro v173 m173 pp173
  obtain ⟨im173, kk173, e173_0, e173_1, -⟩ := pp173
  try dsimp only
  replace im173 : I n m173 := im173
  replace kk173 : Keep n W_X9_readVar M m173 := kk173
  have km173 : Keep n W_X9_readRelation Me m173 := kM.tr kk173 (fun b j z => Or.elim z (fun z => (Or.inr (Or.inl z))) (fun z => Or.elim z (fun z => (Or.inr (Or.inr (Or.inl z)))) (fun z => Or.elim z (fun z => (Or.inr (Or.inr (Or.inr (Or.inl z))))) (fun z => Or.elim z (fun z => (Or.inr (Or.inr (Or.inr (Or.inr (Or.inl z)))))) (fun z => Or.elim z (fun z => (Or.inr (Or.inr (Or.inr (Or.inr (Or.inr (Or.inl z))))))) (fun z => Or.elim z (fun z => (Or.inr (Or.inr (Or.inr (Or.inr (Or.inr (Or.inr (Or.inl z)))))))) (fun z => Or.elim z (fun z => (Or.inr (Or.inr (Or.inr (Or.inr (Or.inr (Or.inr (Or.inr (Or.inl z))))))))) (fun z => (Or.inr (Or.inr (Or.inr (Or.inr (Or.inr (Or.inr (Or.inr (Or.inr z))))))))))))))))
  replace e173_0 : (-1) ≤ v173 ∧ v173 ≤ 3 := e173_0
  replace e173_1 : mG M 126 31 ≤ mG m173 126 31 ∧ mG m173 126 31 ≤ mG m173 126 29 ∧ (mG m173 126 34 = 0 ∨ mG m173 126 31 < mG m173 126 29) := e173_1
  obtain ⟨hv173_29, ehv173_29⟩ : ∃ v, Is (mG m173 126 29) v := ⟨_, rfl⟩
  have lhv173_29 : mG m173 126 29 = hv173_29 := ehv173_29
  have rhv173_29 : 0 ≤ hv173_29 ∧ hv173_29 ≤ 400 := by rw [← ehv173_29.e]; exact rd_Model_29 im173 rfl
  obtain ⟨hv173_31, ehv173_31⟩ : ∃ v, Is (mG m173 126 31) v := ⟨_, rfl⟩
  have lhv173_31 : mG m173 126 31 = hv173_31 := ehv173_31
  have rhv173_31 : 0 ≤ hv173_31 ∧ hv173_31 ≤ 400 := by rw [← ehv173_31.e]; exact rd_Model_31 im173 rfl
  obtain ⟨hv173_34, ehv173_34⟩ : ∃ v, Is (mG m173 126 34) v := ⟨_, rfl⟩
  have lhv173_34 : mG m173 126 34 = hv173_34 := ehv173_34
  skip
  refine w_aS (kl_158 im173) (by omega) (by omega) (fun M176 hM176 => ?_)
  replace hM176 : M176 = mS m173 158 s1 v173 := hM176
  have iM176 : I n M176 := wr_MnewTwo im173 rfl ⟨by omega, by omega⟩ hM176
  have kM176 : Keep n W_X9_readRelation Me M176 := km173.st hM176 (Or.inl (Or.inl ⟨by decide, by decide⟩))
  refine w_gFc (ji := 43) rfl (congrArg Prod.fst (kl_126 iM176)) (show mG M176 126 43 = 158 from rd_Model_43 iM176 (a := 126) rfl) ?_
  refine w_aG (kl_158 iM176) (by omega) (by omega) (fun a182 ha182 => ?_)
  have ra182 : (-1) ≤ a182 ∧ a182 ≤ 3 := ha182.tr (P := fun z => (-1) ≤ z ∧ z ≤ 3) (rd_MnewTwo iM176 rfl)
  refine w_if (fun c1_ => ?_) (fun c1_ => ?_)
  · skip
    exact s_X9_readRelation_198 ⟨by omega, by omega⟩ (by (try rw [(show mG M176 126 29 = hv173_29 from ((st_ne hM176 (fun z => ne_fam rfl rfl (by decide) z.1)).trans (show mG m173 126 29 = hv173_29 from ehv173_29)))]); (try rw [(show mG M176 126 31 = hv173_31 from ((st_ne hM176 (fun z => ne_fam rfl rfl (by decide) z.1)).trans (show mG m173 126 31 = hv173_31 from ehv173_31)))]); (try rw [(show mG M176 126 34 = hv173_34 from ((st_ne hM176 (fun z => ne_fam rfl rfl (by decide) z.1)).trans (show mG m173 126 34 = hv173_34 from ehv173_34)))]); all_goals omega) (by (try rw [(show mG M176 126 29 = hv173_29 from ((st_ne hM176 (fun z => ne_fam rfl rfl (by decide) z.1)).trans (show mG m173 126 29 = hv173_29 from ehv173_29)))]); (try rw [(show mG M176 126 31 = hv173_31 from ((st_ne hM176 (fun z => ne_fam rfl rfl (by decide) z.1)).trans (show mG m173 126 31 = hv173_31 from ehv173_31)))]); (try rw [(show mG M176 126 34 = hv173_34 from ((st_ne hM176 (fun z => ne_fam rfl rfl (by decide) z.1)).trans (show mG m173 126 34 = hv173_34 from ehv173_34)))]); all_goals omega) (by (try rw [(show mG M176 126 29 = hv173_29 from ((st_ne hM176 (fun z => ne_fam rfl rfl (by decide) z.1)).trans (show mG m173 126 29 = hv173_29 from ehv173_29)))]); (try rw [(show mG M176 126 31 = hv173_31 from ((st_ne hM176 (fun z => ne_fam rfl rfl (by decide) z.1)).trans (show mG m173 126 31 = hv173_31 from ehv173_31)))]); (try rw [(show mG M176 126 34 = hv173_34 from ((st_ne hM176 (fun z => ne_fam rfl rfl (by decide) z.1)).trans (show mG m173 126 34 = hv173_34 from ehv173_34)))]); all_goals omega) iM176 kM176
  · skip
    refine w_gFc (ji := 41) rfl (congrArg Prod.fst (kl_126 iM176)) (show mG M176 126 41 = 156 from rd_Model_41 iM176 (a := 126) rfl) ?_
    refine w_aG (kl_156 iM176) (by omega) (by omega) (fun a192 ha192 => ?_)
    have ra192 : (-1) ≤ a192 ∧ a192 ≤ 12 := ha192.tr (P := fun z => (-1) ≤ z ∧ z ≤ 12) (rd_MnewAct iM176 rfl)
    refine w_if (fun c2_ => ?_) (fun c2_ => ?_)
    · skip
      exact s_X9_readRelation_198 ⟨by omega, by omega⟩ (by (try rw [(show mG M176 126 29 = hv173_29 from ((st_ne hM176 (fun z => ne_fam rfl rfl (by decide) z.1)).trans (show mG m173 126 29 = hv173_29 from ehv173_29)))]); (try rw [(show mG M176 126 31 = hv173_31 from ((st_ne hM176 (fun z => ne_fam rfl rfl (by decide) z.1)).trans (show mG m173 126 31 = hv173_31 from ehv173_31)))]); (try rw [(show mG M176 126 34 = hv173_34 from ((st_ne hM176 (fun z => ne_fam rfl rfl (by decide) z.1)).trans (show mG m173 126 34 = hv173_34 from ehv173_34)))]); all_goals omega) (by (try rw [(show mG M176 126 29 = hv173_29 from ((st_ne hM176 (fun z => ne_fam rfl rfl (by decide) z.1)).trans (show mG m173 126 29 = hv173_29 from ehv173_29)))]); (try rw [(show mG M176 126 31 = hv173_31 from ((st_ne hM176 (fun z => ne_fam rfl rfl (by decide) z.1)).trans (show mG m173 126 31 = hv173_31 from ehv173_31)))]); (try rw [(show mG M176 126 34 = hv173_34 from ((st_ne hM176 (fun z => ne_fam rfl rfl (by decide) z.1)).trans (show mG m173 126 34 = hv173_34 from ehv173_34)))]); all_goals omega) (by (try rw [(show mG M176 126 29 = hv173_29 from ((st_ne hM176 (fun z => ne_fam rfl rfl (by decide) z.1)).trans (show mG m173 126 29 = hv173_29 from ehv173_29)))]); (try rw [(show mG M176 126 31 = hv173_31 from ((st_ne hM176 (fun z => ne_fam rfl rfl (by decide) z.1)).trans (show mG m173 126 31 = hv173_31 from ehv173_31)))]); (try rw [(show mG M176 126 34 = hv173_34 from ((st_ne hM176 (fun z => ne_fam rfl rfl (by decide) z.1)).trans (show mG m173 126 34 = hv173_34 from ehv173_34)))]); all_goals omega) iM176 kM176
    · skip
      refine w_gFc (ji := 44) rfl (congrArg Prod.fst (kl_126 iM176)) (show mG M176 126 44 = 159 from rd_Model_44 iM176 (a := 126) rfl) ?_
      refine w_if (fun c3_ => ?_) (fun c3_ => ?_)
      · skip
        exact s_X9_readRelation_236 ⟨by omega, by omega⟩ ⟨by omega, by omega⟩ ⟨by omega, by omega⟩ ⟨by omega, by omega⟩ (by (try rw [(show mG M176 126 29 = hv173_29 from ((st_ne hM176 (fun z => ne_fam rfl rfl (by decide) z.1)).trans (show mG m173 126 29 = hv173_29 from ehv173_29)))]); (try rw [(show mG M176 126 31 = hv173_31 from ((st_ne hM176 (fun z => ne_fam rfl rfl (by decide) z.1)).trans (show mG m173 126 31 = hv173_31 from ehv173_31)))]); (try rw [(show mG M176 126 34 = hv173_34 from ((st_ne hM176 (fun z => ne_fam rfl rfl (by decide) z.1)).trans (show mG m173 126 34 = hv173_34 from ehv173_34)))]); all_goals omega) (by (try rw [(show mG M176 126 29 = hv173_29 from ((st_ne hM176 (fun z => ne_fam rfl rfl (by decide) z.1)).trans (show mG m173 126 29 = hv173_29 from ehv173_29)))]); (try rw [(show mG M176 126 31 = hv173_31 from ((st_ne hM176 (fun z => ne_fam rfl rfl (by decide) z.1)).trans (show mG m173 126 31 = hv173_31 from ehv173_31)))]); (try rw [(show mG M176 126 34 = hv173_34 from ((st_ne hM176 (fun z => ne_fam rfl rfl (by decide) z.1)).trans (show mG m173 126 34 = hv173_34 from ehv173_34)))]); all_goals omega) (by (try rw [(show mG M176 126 29 = hv173_29 from ((st_ne hM176 (fun z => ne_fam rfl rfl (by decide) z.1)).trans (show mG m173 126 29 = hv173_29 from ehv173_29)))]); (try rw [(show mG M176 126 31 = hv173_31 from ((st_ne hM176 (fun z => ne_fam rfl rfl (by decide) z.1)).trans (show mG m173 126 31 = hv173_31 from ehv173_31)))]); (try rw [(show mG M176 126 34 = hv173_34 from ((st_ne hM176 (fun z => ne_fam rfl rfl (by decide) z.1)).trans (show mG m173 126 34 = hv173_34 from ehv173_34)))]); all_goals omega) iM176 kM176
      · skip
        refine w_gFc (ji := 10) rfl (congrArg Prod.fst (kl_126 iM176)) (show mG M176 126 10 = 136 from rd_Model_10 iM176 (a := 126) rfl) ?_
        refine w_aG (kl_136 iM176) (by omega) (by omega) (fun a231 ha231 => ?_)
        have ra231 : (-1) ≤ a231 ∧ a231 ≤ 2 := ha231.tr (P := fun z => (-1) ≤ z ∧ z ≤ 2) (rd_MsecondKind iM176 rfl)
        exact s_X9_readRelation_236 ⟨by omega, by omega⟩ ⟨by omega, by omega⟩ ⟨by omega, by omega⟩ ⟨by omega, by omega⟩ (by (try rw [(show mG M176 126 29 = hv173_29 from ((st_ne hM176 (fun z => ne_fam rfl rfl (by decide) z.1)).trans (show mG m173 126 29 = hv173_29 from ehv173_29)))]); (try rw [(show mG M176 126 31 = hv173_31 from ((st_ne hM176 (fun z => ne_fam rfl rfl (by decide) z.1)).trans (show mG m173 126 31 = hv173_31 from ehv173_31)))]); (try rw [(show mG M176 126 34 = hv173_34 from ((st_ne hM176 (fun z => ne_fam rfl rfl (by decide) z.1)).trans (show mG m173 126 34 = hv173_34 from ehv173_34)))]); all_goals omega) (by (try rw [(show mG M176 126 29 = hv173_29 from ((st_ne hM176 (fun z => ne_fam rfl rfl (by decide) z.1)).trans (show mG m173 126 29 = hv173_29 from ehv173_29)))]); (try rw [(show mG M176 126 31 = hv173_31 from ((st_ne hM176 (fun z => ne_fam rfl rfl (by decide) z.1)).trans (show mG m173 126 31 = hv173_31 from ehv173_31)))]); (try rw [(show mG M176 126 34 = hv173_34 from ((st_ne hM176 (fun z => ne_fam rfl rfl (by decide) z.1)).trans (show mG m173 126 34 = hv173_34 from ehv173_34)))]); all_goals omega) (by (try rw [(show mG M176 126 29 = hv173_29 from ((st_ne hM176 (fun z => ne_fam rfl rfl (by decide) z.1)).trans (show mG m173 126 29 = hv173_29 from ehv173_29)))]); (try rw [(show mG M176 126 31 = hv173_31 from ((st_ne hM176 (fun z => ne_fam rfl rfl (by decide) z.1)).trans (show mG m173 126 31 = hv173_31 from ehv173_31)))]); (try rw [(show mG M176 126 34 = hv173_34 from ((st_ne hM176 (fun z => ne_fam rfl rfl (by decide) z.1)).trans (show mG m173 126 34 = hv173_34 from ehv173_34)))]); all_goals omega) iM176 kM176
theorem s_X9_readRelation_126 {n : Nat} {Me : Mem} {l1 l2 l3 l5 s1 s2 : Int} {M : Mem} (r_l1 : 0 ≤ l1 ∧ l1 ≤ 40) (r_l2 : (-2147483648) ≤ l2 ∧ l2 ≤ 2147483647) (r_l3 : 0 ≤ l3 ∧ l3 ≤ 3) (r_l5 : 0 ≤ l5 ∧ l5 ≤ 1) (r_s1 : 0 ≤ s1 ∧ s1 ≤ 40) (r_s2 : (-1) ≤ s2 ∧ s2 ≤ 12) (y0 : mG M 126 29 = mG M 126 29) (y1 : mG M 126 31 ≤ mG M 126 29 ∧ mG Me 126 31 ≤ mG M 126 31) (y2 : ¬ mG M 126 34 = 0 ∧ (mG M 126 34 = 0 ∨ mG M 126 31 < mG M 126 29)) (iM : I n M) (kM : Keep n W_X9_readRelation Me M) : wp (mX9_readRelation_126 126 l1 l2 l3 l5 156 s1 s2 M) (fun q => I n q.2 ∧ Keep n W_X9_readRelation Me q.2 ∧ (0 ≤ q.1 ∧ q.1 ≤ 1) ∧ (mG Me 126 31 ≤ mG q.2 126 31 ∧ mG q.2 126 31 ≤ mG q.2 126 29 ∧ (mG q.2 126 34 = 0 ∨ mG q.2 126 31 < mG q.2 126 29)) ∧ (q.1 = 1 → mG Me 126 31 < mG q.2 126 31) ∧ True) := by
  have hn : (169 : Int) ≤ (n : Int) := by have := iM.2.2.2.2.1; omega
  obtain ⟨nh0, enh0⟩ : ∃ v, Is (mG M 126 29) v := ⟨_, rfl⟩
  have rnh0 : 0 ≤ nh0 ∧ nh0 ≤ 400 := by rw [← enh0.e]; exact rd_Model_29 iM rfl
  have qnh0 : mG M 126 29 = nh0 := enh0
  (try rw [enh0.e] at y0); (try rw [enh0.e] at y1); (try rw [enh0.e] at y2)
  obtain ⟨nh1, enh1⟩ : ∃ v, Is (mG M 126 31) v := ⟨_, rfl⟩
  have rnh1 : 0 ≤ nh1 ∧ nh1 ≤ 400 := by rw [← enh1.e]; exact rd_Model_31 iM rfl
  have qnh1 : mG M 126 31 = nh1 := enh1
  (try rw [enh1.e] at y0); (try rw [enh1.e] at y1); (try rw [enh1.e] at y2)
  obtain ⟨nh2, enh2⟩ : ∃ v, Is (mG M 126 34) v := ⟨_, rfl⟩
  have qnh2 : mG M 126 34 = nh2 := enh2
  (try rw [enh2.e] at y0); (try rw [enh2.e] at y1); (try rw [enh2.e] at y2)
  unfold mX9_readRelation_126
  refine w_aS (kl_156 iM) (by omega) (by omega) (fun M126 hM126 => ?_)
  replace hM126 : M126 = mS M 156 s1 s2 := hM126
  have iM126 : I n M126 := wr_MnewAct iM rfl ⟨by omega, by omega⟩ hM126
  have kM126 : Keep n W_X9_readRelation Me M126 := kM.st hM126 (Or.inl (Or.inl ⟨by decide, by decide⟩))
  refine w_gFc (ji := 42) rfl (congrArg Prod.fst (kl_126 iM126)) (show mG M126 126 42 = 157 from rd_Model_42 iM126 (a := 126) rfl) ?_
  refine w_aS (kl_157 iM126) (by omega) (by omega) (fun M133 hM133 => ?_)
  replace hM133 : M133 = mS M126 157 l1 l3 := hM133
  have iM133 : I n M133 := wr_MnewOne iM126 rfl ⟨by omega, by omega⟩ hM133
  have kM133 : Keep n W_X9_readRelation Me M133 := kM126.st hM133 (Or.inl (Or.inl ⟨by decide, by decide⟩))
  refine w_gK (congrArg Prod.fst (kl_126 iM133)) ?_
  have lbm135_29 : mG M133 126 29 = nh0 := (show mG M133 126 29 = nh0 from ((st_ne hM133 (fun z => ne_fam rfl rfl (by decide) z.1)).trans ((st_ne hM126 (fun z => ne_fam rfl rfl (by decide) z.1)).trans (show mG M 126 29 = nh0 from enh0))))
  have lbm135_31 : mG M133 126 31 = nh1 := (show mG M133 126 31 = nh1 from ((st_ne hM133 (fun z => ne_fam rfl rfl (by decide) z.1)).trans ((st_ne hM126 (fun z => ne_fam rfl rfl (by decide) z.1)).trans (show mG M 126 31 = nh1 from enh1))))
  have lbm135_34 : mG M133 126 34 = nh2 := (show mG M133 126 34 = nh2 from ((st_ne hM133 (fun z => ne_fam rfl rfl (by decide) z.1)).trans ((st_ne hM126 (fun z => ne_fam rfl rfl (by decide) z.1)).trans (show mG M 126 34 = nh2 from enh2))))
  refine w_call (s_X9_token iM133) ?_
  intro v135 m135 pp135
  obtain ⟨im135, kk135, e135_0, -⟩ := pp135
  try dsimp only
  replace im135 : I n m135 := im135
  replace kk135 : Keep n W_X9_token M133 m135 := kk135
  have km135 : Keep n W_X9_readRelation Me m135 := kM133.tr kk135 (fun b j z => Or.elim z (fun z => (Or.inr (Or.inl z))) (fun z => Or.elim z (fun z => (Or.inr (Or.inr (Or.inl z)))) (fun z => Or.elim z (fun z => (Or.inr (Or.inr (Or.inr (Or.inl z))))) (fun z => Or.elim z (fun z => (Or.inr (Or.inr (Or.inr (Or.inr (Or.inl z)))))) (fun z => (Or.inr (Or.inr (Or.inr (Or.inr (Or.inr (Or.inl z)))))))))))
  replace e135_0 : mG M133 126 29 ≤ mG m135 126 31 ∧ mG m135 126 31 ≤ mG m135 126 29 ∧ (mG m135 126 34 = 0 ∨ mG m135 126 31 < mG m135 126 29) := e135_0
  obtain ⟨hv135_29, ehv135_29⟩ : ∃ v, Is (mG m135 126 29) v := ⟨_, rfl⟩
  have lhv135_29 : mG m135 126 29 = hv135_29 := ehv135_29
  have rhv135_29 : 0 ≤ hv135_29 ∧ hv135_29 ≤ 400 := by rw [← ehv135_29.e]; exact rd_Model_29 im135 rfl
  obtain ⟨hv135_31, ehv135_31⟩ : ∃ v, Is (mG m135 126 31) v := ⟨_, rfl⟩
  have lhv135_31 : mG m135 126 31 = hv135_31 := ehv135_31
  have rhv135_31 : 0 ≤ hv135_31 ∧ hv135_31 ≤ 400 := by rw [← ehv135_31.e]; exact rd_Model_31 im135 rfl
  obtain ⟨hv135_34, ehv135_34⟩ : ∃ v, Is (mG m135 126 34) v := ⟨_, rfl⟩
  have lhv135_34 : mG m135 126 34 = hv135_34 := ehv135_34
  skip
  refine w_gFc (ji := 41) rfl (congrArg Prod.fst (kl_126 im135)) (show mG m135 126 41 = 156 from rd_Model_41 im135 (a := 126) rfl) ?_
  refine w_aG (kl_156 im135) (by omega) (by omega) (fun a143 ha143 => ?_)
  have ra143 : (-1) ≤ a143 ∧ a143 ≤ 12 := ha143.tr (P := fun z => (-1) ≤ z ∧ z ≤ 12) (rd_MnewAct im135 rfl)
  refine w_if (fun c1_ => ?_) (fun c1_ => ?_)
  · skip
    exact w_ret ⟨im135, km135, (show 0 ≤ 1 ∧ 1 ≤ 1 from ⟨by omega, by omega⟩), (show mG Me 126 31 ≤ mG m135 126 31 ∧ mG m135 126 31 ≤ mG m135 126 29 ∧ (mG m135 126 34 = 0 ∨ mG m135 126 31 < mG m135 126 29) from (by (try rw [(show mG m135 126 29 = hv135_29 from (show mG m135 126 29 = hv135_29 from ehv135_29))]); (try rw [(show mG m135 126 31 = hv135_31 from (show mG m135 126 31 = hv135_31 from ehv135_31))]); (try rw [(show mG m135 126 34 = hv135_34 from (show mG m135 126 34 = hv135_34 from ehv135_34))]); all_goals omega)), (show 1 = 1 → mG Me 126 31 < mG m135 126 31 from (fun z => (by (try rw [(show mG m135 126 29 = hv135_29 from (show mG m135 126 29 = hv135_29 from ehv135_29))]); (try rw [(show mG m135 126 31 = hv135_31 from (show mG m135 126 31 = hv135_31 from ehv135_31))]); (try rw [(show mG m135 126 34 = hv135_34 from (show mG m135 126 34 = hv135_34 from ehv135_34))]); all_goals omega))), trivial⟩
  · skip
    refine w_gFc (ji := 43) rfl (congrArg Prod.fst (kl_126 im135)) (show mG m135 126 43 = 158 from rd_Model_43 im135 (a := 126) rfl) ?_
    refine w_if (fun c2_ => ?_) (fun c2_ => ?_)
    · skip
      exact s_X9_readRelation_173 ⟨by omega, by omega⟩ ⟨by omega, by omega⟩ ⟨by omega, by omega⟩ ⟨by omega, by omega⟩ ⟨by omega, by omega⟩ ⟨by omega, by omega⟩ ⟨by omega, by omega⟩ (by (try rw [(show mG m135 126 29 = hv135_29 from (show mG m135 126 29 = hv135_29 from ehv135_29))]); (try rw [(show mG m135 126 31 = hv135_31 from (show mG m135 126 31 = hv135_31 from ehv135_31))]); (try rw [(show mG m135 126 34 = hv135_34 from (show mG m135 126 34 = hv135_34 from ehv135_34))]); all_goals omega) (by (try rw [(show mG m135 126 29 = hv135_29 from (show mG m135 126 29 = hv135_29 from ehv135_29))]); (try rw [(show mG m135 126 31 = hv135_31 from (show mG m135 126 31 = hv135_31 from ehv135_31))]); (try rw [(show mG m135 126 34 = hv135_34 from (show mG m135 126 34 = hv135_34 from ehv135_34))]); all_goals omega) (by (try rw [(show mG m135 126 29 = hv135_29 from (show mG m135 126 29 = hv135_29 from ehv135_29))]); (try rw [(show mG m135 126 31 = hv135_31 from (show mG m135 126 31 = hv135_31 from ehv135_31))]); (try rw [(show mG m135 126 34 = hv135_34 from (show mG m135 126 34 = hv135_34 from ehv135_34))]); all_goals omega) im135 km135
    · skip
      refine w_gFc (ji := 9) rfl (congrArg Prod.fst (kl_126 im135)) (show mG m135 126 9 = 135 from rd_Model_9 im135 (a := 126) rfl) ?_
      refine w_aG (kl_135 im135) (by omega) (by omega) (fun a168 ha168 => ?_)
      have ra168 : 0 ≤ a168 ∧ a168 ≤ 2 := ha168.tr (P := fun z => 0 ≤ z ∧ z ≤ 2) (rd_MfirstKind im135 rfl)
      exact s_X9_readRelation_173 ⟨by omega, by omega⟩ ⟨by omega, by omega⟩ ⟨by omega, by omega⟩ ⟨by omega, by omega⟩ ⟨by omega, by omega⟩ ⟨by omega, by omega⟩ ⟨by omega, by omega⟩ (by (try rw [(show mG m135 126 29 = hv135_29 from (show mG m135 126 29 = hv135_29 from ehv135_29))]); (try rw [(show mG m135 126 31 = hv135_31 from (show mG m135 126 31 = hv135_31 from ehv135_31))]); (try rw [(show mG m135 126 34 = hv135_34 from (show mG m135 126 34 = hv135_34 from ehv135_34))]); all_goals omega) (by (try rw [(show mG m135 126 29 = hv135_29 from (show mG m135 126 29 = hv135_29 from ehv135_29))]); (try rw [(show mG m135 126 31 = hv135_31 from (show mG m135 126 31 = hv135_31 from ehv135_31))]); (try rw [(show mG m135 126 34 = hv135_34 from (show mG m135 126 34 = hv135_34 from ehv135_34))]); all_goals omega) (by (try rw [(show mG m135 126 29 = hv135_29 from (show mG m135 126 29 = hv135_29 from ehv135_29))]); (try rw [(show mG m135 126 31 = hv135_31 from (show mG m135 126 31 = hv135_31 from ehv135_31))]); (try rw [(show mG m135 126 34 = hv135_34 from (show mG m135 126 34 = hv135_34 from ehv135_34))]); all_goals omega) im135 km135
theorem s_X9_readRelation_90 {n : Nat} {Me : Mem} {l1 l2 l3 l4 l5 : Int} {M : Mem} (r_l1 : 0 ≤ l1 ∧ l1 ≤ 40) (r_l2 : (-2147483648) ≤ l2 ∧ l2 ≤ 2147483647) (r_l3 : 0 ≤ l3 ∧ l3 ≤ 3) (r_l4 : 0 ≤ l4 ∧ l4 ≤ 1) (r_l5 : 0 ≤ l5 ∧ l5 ≤ 1) (y0 : mG M 126 29 = mG M 126 29) (y1 : mG M 126 31 ≤ mG M 126 29 ∧ mG Me 126 31 ≤ mG M 126 31) (y2 : ¬ mG M 126 34 = 0 ∧ (mG M 126 34 = 0 ∨ mG M 126 31 < mG M 126 29)) (iM : I n M) (kM : Keep n W_X9_readRelation Me M) : wp (mX9_readRelation_90 126 l1 l2 l3 l4 l5 M) (fun q => I n q.2 ∧ Keep n W_X9_readRelation Me q.2 ∧ (0 ≤ q.1 ∧ q.1 ≤ 1) ∧ (mG Me 126 31 ≤ mG q.2 126 31 ∧ mG q.2 126 31 ≤ mG q.2 126 29 ∧ (mG q.2 126 34 = 0 ∨ mG q.2 126 31 < mG q.2 126 29)) ∧ (q.1 = 1 → mG Me 126 31 < mG q.2 126 31) ∧ True) := by
  have hn : (169 : Int) ≤ (n : Int) := by have := iM.2.2.2.2.1; omega
  obtain ⟨nh0, enh0⟩ : ∃ v, Is (mG M 126 29) v := ⟨_, rfl⟩
  have rnh0 : 0 ≤ nh0 ∧ nh0 ≤ 400 := by rw [← enh0.e]; exact rd_Model_29 iM rfl
  have qnh0 : mG M 126 29 = nh0 := enh0
  (try rw [enh0.e] at y0); (try rw [enh0.e] at y1); (try rw [enh0.e] at y2)
  obtain ⟨nh1, enh1⟩ : ∃ v, Is (mG M 126 31) v := ⟨_, rfl⟩
  have rnh1 : 0 ≤ nh1 ∧ nh1 ≤ 400 := by rw [← enh1.e]; exact rd_Model_31 iM rfl
  have qnh1 : mG M 126 31 = nh1 := enh1
  (try rw [enh1.e] at y0); (try rw [enh1.e] at y1); (try rw [enh1.e] at y2)
  obtain ⟨nh2, enh2⟩ : ∃ v, Is (mG M 126 34) v := ⟨_, rfl⟩
  have qnh2 : mG M 126 34 = nh2 := enh2
  (try rw [enh2.e] at y0); (try rw [enh2.e] at y1); (try rw [enh2.e] at y2)
  unfold mX9_readRelation_90
  refine w_gFc (ji := 41) rfl (congrArg Prod.fst (kl_126 iM)) (show mG M 126 41 = 156 from rd_Model_41 iM (a := 126) rfl) ?_
  refine w_if (fun c1_ => ?_) (fun c1_ => ?_)
  · skip
    refine w_gFc (ji := 10) rfl (congrArg Prod.fst (kl_126 iM)) (show mG M 126 10 = 136 from rd_Model_10 iM (a := 126) rfl) ?_
    refine w_aG (kl_136 iM) (by omega) (by omega) (fun a114 ha114 => ?_)
    have ra114 : (-1) ≤ a114 ∧ a114 ≤ 2 := ha114.tr (P := fun z => (-1) ≤ z ∧ z ≤ 2) (rd_MsecondKind iM rfl)
    refine w_if (fun c2_ => ?_) (fun c2_ => ?_)
    · skip
      exact s_X9_readRelation_126 ⟨by omega, by omega⟩ ⟨by omega, by omega⟩ ⟨by omega, by omega⟩ ⟨by omega, by omega⟩ ⟨by omega, by omega⟩ ⟨by omega, by omega⟩ (by (try rw [(show mG M 126 29 = nh0 from (show mG M 126 29 = nh0 from enh0))]); (try rw [(show mG M 126 31 = nh1 from (show mG M 126 31 = nh1 from enh1))]); (try rw [(show mG M 126 34 = nh2 from (show mG M 126 34 = nh2 from enh2))]); all_goals omega) (by (try rw [(show mG M 126 29 = nh0 from (show mG M 126 29 = nh0 from enh0))]); (try rw [(show mG M 126 31 = nh1 from (show mG M 126 31 = nh1 from enh1))]); (try rw [(show mG M 126 34 = nh2 from (show mG M 126 34 = nh2 from enh2))]); all_goals omega) (by (try rw [(show mG M 126 29 = nh0 from (show mG M 126 29 = nh0 from enh0))]); (try rw [(show mG M 126 31 = nh1 from (show mG M 126 31 = nh1 from enh1))]); (try rw [(show mG M 126 34 = nh2 from (show mG M 126 34 = nh2 from enh2))]); all_goals omega) iM kM
    · skip
      exact s_X9_readRelation_126 ⟨by omega, by omega⟩ ⟨by omega, by omega⟩ ⟨by omega, by omega⟩ ⟨by omega, by omega⟩ ⟨by omega, by omega⟩ ⟨by omega, by omega⟩ (by (try rw [(show mG M 126 29 = nh0 from (show mG M 126 29 = nh0 from enh0))]); (try rw [(show mG M 126 31 = nh1 from (show mG M 126 31 = nh1 from enh1))]); (try rw [(show mG M 126 34 = nh2 from (show mG M 126 34 = nh2 from enh2))]); all_goals omega) (by (try rw [(show mG M 126 29 = nh0 from (show mG M 126 29 = nh0 from enh0))]); (try rw [(show mG M 126 31 = nh1 from (show mG M 126 31 = nh1 from enh1))]); (try rw [(show mG M 126 34 = nh2 from (show mG M 126 34 = nh2 from enh2))]); all_goals omega) (by (try rw [(show mG M 126 29 = nh0 from (show mG M 126 29 = nh0 from enh0))]); (try rw [(show mG M 126 31 = nh1 from (show mG M 126 31 = nh1 from enh1))]); (try rw [(show mG M 126 34 = nh2 from (show mG M 126 34 = nh2 from enh2))]); all_goals omega) iM kM
  · skip
    refine w_gFc (ji := 41) rfl (congrArg Prod.fst (kl_126 iM)) (show mG M 126 41 = 156 from rd_Model_41 iM (a := 126) rfl) ?_
    refine w_aG (kl_156 iM) (by omega) (by omega) (fun a105 ha105 => ?_)
    have ra105 : (-1) ≤ a105 ∧ a105 ≤ 12 := ha105.tr (P := fun z => (-1) ≤ z ∧ z ≤ 12) (rd_MnewAct iM rfl)
    exact s_X9_readRelation_126 ⟨by omega, by omega⟩ ⟨by omega, by omega⟩ ⟨by omega, by omega⟩ ⟨by omega, by omega⟩ ⟨by omega, by omega⟩ ⟨by omega, by omega⟩ (by (try rw [(show mG M 126 29 = nh0 from (show mG M 126 29 = nh0 from enh0))]); (try rw [(show mG M 126 31 = nh1 from (show mG M 126 31 = nh1 from enh1))]); (try rw [(show mG M 126 34 = nh2 from (show mG M 126 34 = nh2 from enh2))]); all_goals omega) (by (try rw [(show mG M 126 29 = nh0 from (show mG M 126 29 = nh0 from enh0))]); (try rw [(show mG M 126 31 = nh1 from (show mG M 126 31 = nh1 from enh1))]); (try rw [(show mG M 126 34 = nh2 from (show mG M 126 34 = nh2 from enh2))]); all_goals omega) (by (try rw [(show mG M 126 29 = nh0 from (show mG M 126 29 = nh0 from enh0))]); (try rw [(show mG M 126 31 = nh1 from (show mG M 126 31 = nh1 from enh1))]); (try rw [(show mG M 126 34 = nh2 from (show mG M 126 34 = nh2 from enh2))]); all_goals omega) iM kM
theorem s_X9_readRelation_74 {n : Nat} {Me : Mem} {l1 l2 l3 l4 s0 : Int} {M : Mem} (r_l1 : 0 ≤ l1 ∧ l1 ≤ 40) (r_l2 : (-2147483648) ≤ l2 ∧ l2 ≤ 2147483647) (r_l3 : 0 ≤ l3 ∧ l3 ≤ 3) (r_l4 : 0 ≤ l4 ∧ l4 ≤ 1) (r_s0 : 0 ≤ s0 ∧ s0 ≤ 1) (y0 : mG M 126 29 = mG M 126 29) (y1 : mG M 126 31 ≤ mG M 126 29 ∧ mG Me 126 31 ≤ mG M 126 31) (y2 : ¬ mG M 126 34 = 0 ∧ (mG M 126 34 = 0 ∨ mG M 126 31 < mG M 126 29)) (iM : I n M) (kM : Keep n W_X9_readRelation Me M) : wp (mX9_readRelation_74 126 l1 l2 l3 l4 s0 M) (fun q => I n q.2 ∧ Keep n W_X9_readRelation Me q.2 ∧ (0 ≤ q.1 ∧ q.1 ≤ 1) ∧ (mG Me 126 31 ≤ mG q.2 126 31 ∧ mG q.2 126 31 ≤ mG q.2 126 29 ∧ (mG q.2 126 34 = 0 ∨ mG q.2 126 31 < mG q.2 126 29)) ∧ (q.1 = 1 → mG Me 126 31 < mG q.2 126 31) ∧ True) := by
  have hn : (169 : Int) ≤ (n : Int) := by have := iM.2.2.2.2.1; omega
  obtain ⟨nh0, enh0⟩ : ∃ v, Is (mG M 126 29) v := ⟨_, rfl⟩
  have rnh0 : 0 ≤ nh0 ∧ nh0 ≤ 400 := by rw [← enh0.e]; exact rd_Model_29 iM rfl
  have qnh0 : mG M 126 29 = nh0 := enh0
  (try rw [enh0.e] at y0); (try rw [enh0.e] at y1); (try rw [enh0.e] at y2)
  obtain ⟨nh1, enh1⟩ : ∃ v, Is (mG M 126 31) v := ⟨_, rfl⟩
  have rnh1 : 0 ≤ nh1 ∧ nh1 ≤ 400 := by rw [← enh1.e]; exact rd_Model_31 iM rfl
  have qnh1 : mG M 126 31 = nh1 := enh1
  (try rw [enh1.e] at y0); (try rw [enh1.e] at y1); (try rw [enh1.e] at y2)
  obtain ⟨nh2, enh2⟩ : ∃ v, Is (mG M 126 34) v := ⟨_, rfl⟩
  have qnh2 : mG M 126 34 = nh2 := enh2
  (try rw [enh2.e] at y0); (try rw [enh2.e] at y1); (try rw [enh2.e] at y2)
  unfold mX9_readRelation_74
  refine w_if (fun c1_ => ?_) (fun c1_ => ?_)
  · skip
    refine w_gFc (ji := 31) rfl (congrArg Prod.fst (kl_126 iM)) (show mG M 126 31 = nh1 from (show mG M 126 31 = nh1 from enh1)) ?_
    refine w_gK (congrArg Prod.fst (kl_126 iM)) ?_
    refine w_call (s_X9_later ⟨by omega, by omega⟩ ⟨by omega, by omega⟩ iM) ?_
    intro v87 m87 pp87
    obtain ⟨im87, kk87, -⟩ := pp87
    try dsimp only
    replace im87 : I n m87 := im87
    replace kk87 : Keep n W_X9_later M m87 := kk87
    have km87 : Keep n W_X9_readRelation Me m87 := kM.tr kk87 (fun b j z => Or.elim z (fun z => (Or.inr (Or.inr (Or.inr (Or.inr (Or.inr (Or.inr (Or.inr (Or.inl z))))))))) (fun z => (Or.inr (Or.inr (Or.inr (Or.inr (Or.inr (Or.inr (Or.inr (Or.inr z))))))))))
    exact s_X9_readRelation_90 ⟨by omega, by omega⟩ ⟨by omega, by omega⟩ ⟨by omega, by omega⟩ ⟨by omega, by omega⟩ ⟨by omega, by omega⟩ (by (try rw [(show mG m87 126 29 = nh0 from ((kk87.2.2 126 29 (by omega) (fun z => by unfold W_X9_later at z; (try unfold isWS at z); (try unfold isShape at z); (try unfold isTold at z); (try dsimp only at z); omega)).trans (show mG M 126 29 = nh0 from enh0)))]); (try rw [(show mG m87 126 31 = nh1 from ((kk87.2.2 126 31 (by omega) (fun z => by unfold W_X9_later at z; (try unfold isWS at z); (try unfold isShape at z); (try unfold isTold at z); (try dsimp only at z); omega)).trans (show mG M 126 31 = nh1 from enh1)))]); (try rw [(show mG m87 126 34 = nh2 from ((kk87.2.2 126 34 (by omega) (fun z => by unfold W_X9_later at z; (try unfold isWS at z); (try unfold isShape at z); (try unfold isTold at z); (try dsimp only at z); omega)).trans (show mG M 126 34 = nh2 from enh2)))]); all_goals omega) (by (try rw [(show mG m87 126 29 = nh0 from ((kk87.2.2 126 29 (by omega) (fun z => by unfold W_X9_later at z; (try unfold isWS at z); (try unfold isShape at z); (try unfold isTold at z); (try dsimp only at z); omega)).trans (show mG M 126 29 = nh0 from enh0)))]); (try rw [(show mG m87 126 31 = nh1 from ((kk87.2.2 126 31 (by omega) (fun z => by unfold W_X9_later at z; (try unfold isWS at z); (try unfold isShape at z); (try unfold isTold at z); (try dsimp only at z); omega)).trans (show mG M 126 31 = nh1 from enh1)))]); (try rw [(show mG m87 126 34 = nh2 from ((kk87.2.2 126 34 (by omega) (fun z => by unfold W_X9_later at z; (try unfold isWS at z); (try unfold isShape at z); (try unfold isTold at z); (try dsimp only at z); omega)).trans (show mG M 126 34 = nh2 from enh2)))]); all_goals omega) (by (try rw [(show mG m87 126 29 = nh0 from ((kk87.2.2 126 29 (by omega) (fun z => by unfold W_X9_later at z; (try unfold isWS at z); (try unfold isShape at z); (try unfold isTold at z); (try dsimp only at z); omega)).trans (show mG M 126 29 = nh0 from enh0)))]); (try rw [(show mG m87 126 31 = nh1 from ((kk87.2.2 126 31 (by omega) (fun z => by unfold W_X9_later at z; (try unfold isWS at z); (try unfold isShape at z); (try unfold isTold at z); (try dsimp only at z); omega)).trans (show mG M 126 31 = nh1 from enh1)))]); (try rw [(show mG m87 126 34 = nh2 from ((kk87.2.2 126 34 (by omega) (fun z => by unfold W_X9_later at z; (try unfold isWS at z); (try unfold isShape at z); (try unfold isTold at z); (try dsimp only at z); omega)).trans (show mG M 126 34 = nh2 from enh2)))]); all_goals omega) im87 km87
  · skip
    exact s_X9_readRelation_90 ⟨by omega, by omega⟩ ⟨by omega, by omega⟩ ⟨by omega, by omega⟩ ⟨by omega, by omega⟩ ⟨by omega, by omega⟩ (by (try rw [(show mG M 126 29 = nh0 from (show mG M 126 29 = nh0 from enh0))]); (try rw [(show mG M 126 31 = nh1 from (show mG M 126 31 = nh1 from enh1))]); (try rw [(show mG M 126 34 = nh2 from (show mG M 126 34 = nh2 from enh2))]); all_goals omega) (by (try rw [(show mG M 126 29 = nh0 from (show mG M 126 29 = nh0 from enh0))]); (try rw [(show mG M 126 31 = nh1 from (show mG M 126 31 = nh1 from enh1))]); (try rw [(show mG M 126 34 = nh2 from (show mG M 126 34 = nh2 from enh2))]); all_goals omega) (by (try rw [(show mG M 126 29 = nh0 from (show mG M 126 29 = nh0 from enh0))]); (try rw [(show mG M 126 31 = nh1 from (show mG M 126 31 = nh1 from enh1))]); (try rw [(show mG M 126 34 = nh2 from (show mG M 126 34 = nh2 from enh2))]); all_goals omega) iM kM
theorem s_X9_readRelation_69 {n : Nat} {Me : Mem} {l1 l2 l3 l4 : Int} {M : Mem} (r_l1 : 0 ≤ l1 ∧ l1 ≤ 40) (r_l2 : (-2147483648) ≤ l2 ∧ l2 ≤ 2147483647) (r_l3 : 0 ≤ l3 ∧ l3 ≤ 3) (r_l4 : 0 ≤ l4 ∧ l4 ≤ 1) (y0 : mG M 126 29 = mG M 126 29) (y1 : mG M 126 31 ≤ mG M 126 29 ∧ mG Me 126 31 ≤ mG M 126 31) (y2 : ¬ mG M 126 34 = 0 ∧ (mG M 126 34 = 0 ∨ mG M 126 31 < mG M 126 29)) (iM : I n M) (kM : Keep n W_X9_readRelation Me M) : wp (mX9_readRelation_69 126 l1 l2 l3 l4 M) (fun q => I n q.2 ∧ Keep n W_X9_readRelation Me q.2 ∧ (0 ≤ q.1 ∧ q.1 ≤ 1) ∧ (mG Me 126 31 ≤ mG q.2 126 31 ∧ mG q.2 126 31 ≤ mG q.2 126 29 ∧ (mG q.2 126 34 = 0 ∨ mG q.2 126 31 < mG q.2 126 29)) ∧ (q.1 = 1 → mG Me 126 31 < mG q.2 126 31) ∧ True) := by
  have hn : (169 : Int) ≤ (n : Int) := by have := iM.2.2.2.2.1; omega
  obtain ⟨nh0, enh0⟩ : ∃ v, Is (mG M 126 29) v := ⟨_, rfl⟩
  have rnh0 : 0 ≤ nh0 ∧ nh0 ≤ 400 := by rw [← enh0.e]; exact rd_Model_29 iM rfl
  have qnh0 : mG M 126 29 = nh0 := enh0
  (try rw [enh0.e] at y0); (try rw [enh0.e] at y1); (try rw [enh0.e] at y2)
  obtain ⟨nh1, enh1⟩ : ∃ v, Is (mG M 126 31) v := ⟨_, rfl⟩
  have rnh1 : 0 ≤ nh1 ∧ nh1 ≤ 400 := by rw [← enh1.e]; exact rd_Model_31 iM rfl
  have qnh1 : mG M 126 31 = nh1 := enh1
  (try rw [enh1.e] at y0); (try rw [enh1.e] at y1); (try rw [enh1.e] at y2)
  obtain ⟨nh2, enh2⟩ : ∃ v, Is (mG M 126 34) v := ⟨_, rfl⟩
  have qnh2 : mG M 126 34 = nh2 := enh2
  (try rw [enh2.e] at y0); (try rw [enh2.e] at y1); (try rw [enh2.e] at y2)
  unfold mX9_readRelation_69
  exact s_X9_readRelation_74 ⟨by omega, by omega⟩ ⟨by omega, by omega⟩ ⟨by omega, by omega⟩ ⟨by omega, by omega⟩ ⟨by omega, by omega⟩ (by (try rw [(show mG M 126 29 = nh0 from (show mG M 126 29 = nh0 from enh0))]); (try rw [(show mG M 126 31 = nh1 from (show mG M 126 31 = nh1 from enh1))]); (try rw [(show mG M 126 34 = nh2 from (show mG M 126 34 = nh2 from enh2))]); all_goals omega) (by (try rw [(show mG M 126 29 = nh0 from (show mG M 126 29 = nh0 from enh0))]); (try rw [(show mG M 126 31 = nh1 from (show mG M 126 31 = nh1 from enh1))]); (try rw [(show mG M 126 34 = nh2 from (show mG M 126 34 = nh2 from enh2))]); all_goals omega) (by (try rw [(show mG M 126 29 = nh0 from (show mG M 126 29 = nh0 from enh0))]); (try rw [(show mG M 126 31 = nh1 from (show mG M 126 31 = nh1 from enh1))]); (try rw [(show mG M 126 34 = nh2 from (show mG M 126 34 = nh2 from enh2))]); all_goals omega) iM kM
theorem s_X9_readRelation_47 {n : Nat} {Me : Mem} {l1 l2 l3 s0 : Int} {M : Mem} (r_l1 : 0 ≤ l1 ∧ l1 ≤ 40) (r_l2 : (-2147483648) ≤ l2 ∧ l2 ≤ 2147483647) (r_l3 : 0 ≤ l3 ∧ l3 ≤ 3) (r_s0 : 0 ≤ s0 ∧ s0 ≤ 1) (y0 : mG M 126 29 = mG M 126 29) (y1 : mG M 126 31 ≤ mG M 126 29 ∧ mG Me 126 31 ≤ mG M 126 31) (y2 : ¬ mG M 126 34 = 0 ∧ (mG M 126 34 = 0 ∨ mG M 126 31 < mG M 126 29)) (iM : I n M) (kM : Keep n W_X9_readRelation Me M) : wp (mX9_readRelation_47 126 l1 l2 l3 s0 M) (fun q => I n q.2 ∧ Keep n W_X9_readRelation Me q.2 ∧ (0 ≤ q.1 ∧ q.1 ≤ 1) ∧ (mG Me 126 31 ≤ mG q.2 126 31 ∧ mG q.2 126 31 ≤ mG q.2 126 29 ∧ (mG q.2 126 34 = 0 ∨ mG q.2 126 31 < mG q.2 126 29)) ∧ (q.1 = 1 → mG Me 126 31 < mG q.2 126 31) ∧ True) := by
  have hn : (169 : Int) ≤ (n : Int) := by have := iM.2.2.2.2.1; omega
  obtain ⟨nh0, enh0⟩ : ∃ v, Is (mG M 126 29) v := ⟨_, rfl⟩
  have rnh0 : 0 ≤ nh0 ∧ nh0 ≤ 400 := by rw [← enh0.e]; exact rd_Model_29 iM rfl
  have qnh0 : mG M 126 29 = nh0 := enh0
  (try rw [enh0.e] at y0); (try rw [enh0.e] at y1); (try rw [enh0.e] at y2)
  obtain ⟨nh1, enh1⟩ : ∃ v, Is (mG M 126 31) v := ⟨_, rfl⟩
  have rnh1 : 0 ≤ nh1 ∧ nh1 ≤ 400 := by rw [← enh1.e]; exact rd_Model_31 iM rfl
  have qnh1 : mG M 126 31 = nh1 := enh1
  (try rw [enh1.e] at y0); (try rw [enh1.e] at y1); (try rw [enh1.e] at y2)
  obtain ⟨nh2, enh2⟩ : ∃ v, Is (mG M 126 34) v := ⟨_, rfl⟩
  have qnh2 : mG M 126 34 = nh2 := enh2
  (try rw [enh2.e] at y0); (try rw [enh2.e] at y1); (try rw [enh2.e] at y2)
  unfold mX9_readRelation_47
  refine w_if (fun c1_ => ?_) (fun c1_ => ?_)
  · skip
    exact s_X9_readRelation_69 ⟨by omega, by omega⟩ ⟨by omega, by omega⟩ ⟨by omega, by omega⟩ ⟨by omega, by omega⟩ (by (try rw [(show mG M 126 29 = nh0 from (show mG M 126 29 = nh0 from enh0))]); (try rw [(show mG M 126 31 = nh1 from (show mG M 126 31 = nh1 from enh1))]); (try rw [(show mG M 126 34 = nh2 from (show mG M 126 34 = nh2 from enh2))]); all_goals omega) (by (try rw [(show mG M 126 29 = nh0 from (show mG M 126 29 = nh0 from enh0))]); (try rw [(show mG M 126 31 = nh1 from (show mG M 126 31 = nh1 from enh1))]); (try rw [(show mG M 126 34 = nh2 from (show mG M 126 34 = nh2 from enh2))]); all_goals omega) (by (try rw [(show mG M 126 29 = nh0 from (show mG M 126 29 = nh0 from enh0))]); (try rw [(show mG M 126 31 = nh1 from (show mG M 126 31 = nh1 from enh1))]); (try rw [(show mG M 126 34 = nh2 from (show mG M 126 34 = nh2 from enh2))]); all_goals omega) iM kM
  · skip
    refine w_gFc (ji := 10) rfl (congrArg Prod.fst (kl_126 iM)) (show mG M 126 10 = 136 from rd_Model_10 iM (a := 126) rfl) ?_
    refine w_aG (kl_136 iM) (by omega) (by omega) (fun a59 ha59 => ?_)
    have ra59 : (-1) ≤ a59 ∧ a59 ≤ 2 := ha59.tr (P := fun z => (-1) ≤ z ∧ z ≤ 2) (rd_MsecondKind iM rfl)
    refine w_gFc (ji := 9) rfl (congrArg Prod.fst (kl_126 iM)) (show mG M 126 9 = 135 from rd_Model_9 iM (a := 126) rfl) ?_
    refine w_aG (kl_135 iM) (by omega) (by omega) (fun a65 ha65 => ?_)
    have ra65 : 0 ≤ a65 ∧ a65 ≤ 2 := ha65.tr (P := fun z => 0 ≤ z ∧ z ≤ 2) (rd_MfirstKind iM rfl)
    refine w_if (fun c2_ => ?_) (fun c2_ => ?_)
    · skip
      exact s_X9_readRelation_69 ⟨by omega, by omega⟩ ⟨by omega, by omega⟩ ⟨by omega, by omega⟩ ⟨by omega, by omega⟩ (by (try rw [(show mG M 126 29 = nh0 from (show mG M 126 29 = nh0 from enh0))]); (try rw [(show mG M 126 31 = nh1 from (show mG M 126 31 = nh1 from enh1))]); (try rw [(show mG M 126 34 = nh2 from (show mG M 126 34 = nh2 from enh2))]); all_goals omega) (by (try rw [(show mG M 126 29 = nh0 from (show mG M 126 29 = nh0 from enh0))]); (try rw [(show mG M 126 31 = nh1 from (show mG M 126 31 = nh1 from enh1))]); (try rw [(show mG M 126 34 = nh2 from (show mG M 126 34 = nh2 from enh2))]); all_goals omega) (by (try rw [(show mG M 126 29 = nh0 from (show mG M 126 29 = nh0 from enh0))]); (try rw [(show mG M 126 31 = nh1 from (show mG M 126 31 = nh1 from enh1))]); (try rw [(show mG M 126 34 = nh2 from (show mG M 126 34 = nh2 from enh2))]); all_goals omega) iM kM
    · skip
      exact s_X9_readRelation_74 ⟨by omega, by omega⟩ ⟨by omega, by omega⟩ ⟨by omega, by omega⟩ ⟨by omega, by omega⟩ ⟨by omega, by omega⟩ (by (try rw [(show mG M 126 29 = nh0 from (show mG M 126 29 = nh0 from enh0))]); (try rw [(show mG M 126 31 = nh1 from (show mG M 126 31 = nh1 from enh1))]); (try rw [(show mG M 126 34 = nh2 from (show mG M 126 34 = nh2 from enh2))]); all_goals omega) (by (try rw [(show mG M 126 29 = nh0 from (show mG M 126 29 = nh0 from enh0))]); (try rw [(show mG M 126 31 = nh1 from (show mG M 126 31 = nh1 from enh1))]); (try rw [(show mG M 126 34 = nh2 from (show mG M 126 34 = nh2 from enh2))]); all_goals omega) (by (try rw [(show mG M 126 29 = nh0 from (show mG M 126 29 = nh0 from enh0))]); (try rw [(show mG M 126 31 = nh1 from (show mG M 126 31 = nh1 from enh1))]); (try rw [(show mG M 126 34 = nh2 from (show mG M 126 34 = nh2 from enh2))]); all_goals omega) iM kM
theorem s_X9_readRelation_42 {n : Nat} {Me : Mem} {l1 l2 l3 : Int} {M : Mem} (r_l1 : 0 ≤ l1 ∧ l1 ≤ 40) (r_l2 : (-2147483648) ≤ l2 ∧ l2 ≤ 2147483647) (r_l3 : 0 ≤ l3 ∧ l3 ≤ 3) (y0 : mG M 126 29 = mG M 126 29) (y1 : mG M 126 31 ≤ mG M 126 29 ∧ mG Me 126 31 ≤ mG M 126 31) (y2 : ¬ mG M 126 34 = 0 ∧ (mG M 126 34 = 0 ∨ mG M 126 31 < mG M 126 29)) (iM : I n M) (kM : Keep n W_X9_readRelation Me M) : wp (mX9_readRelation_42 126 l1 l2 l3 M) (fun q => I n q.2 ∧ Keep n W_X9_readRelation Me q.2 ∧ (0 ≤ q.1 ∧ q.1 ≤ 1) ∧ (mG Me 126 31 ≤ mG q.2 126 31 ∧ mG q.2 126 31 ≤ mG q.2 126 29 ∧ (mG q.2 126 34 = 0 ∨ mG q.2 126 31 < mG q.2 126 29)) ∧ (q.1 = 1 → mG Me 126 31 < mG q.2 126 31) ∧ True) := by
  have hn : (169 : Int) ≤ (n : Int) := by have := iM.2.2.2.2.1; omega
  obtain ⟨nh0, enh0⟩ : ∃ v, Is (mG M 126 29) v := ⟨_, rfl⟩
  have rnh0 : 0 ≤ nh0 ∧ nh0 ≤ 400 := by rw [← enh0.e]; exact rd_Model_29 iM rfl
  have qnh0 : mG M 126 29 = nh0 := enh0
  (try rw [enh0.e] at y0); (try rw [enh0.e] at y1); (try rw [enh0.e] at y2)
  obtain ⟨nh1, enh1⟩ : ∃ v, Is (mG M 126 31) v := ⟨_, rfl⟩
  have rnh1 : 0 ≤ nh1 ∧ nh1 ≤ 400 := by rw [← enh1.e]; exact rd_Model_31 iM rfl
  have qnh1 : mG M 126 31 = nh1 := enh1
  (try rw [enh1.e] at y0); (try rw [enh1.e] at y1); (try rw [enh1.e] at y2)
  obtain ⟨nh2, enh2⟩ : ∃ v, Is (mG M 126 34) v := ⟨_, rfl⟩
  have qnh2 : mG M 126 34 = nh2 := enh2
  (try rw [enh2.e] at y0); (try rw [enh2.e] at y1); (try rw [enh2.e] at y2)
  unfold mX9_readRelation_42
  exact s_X9_readRelation_47 ⟨by omega, by omega⟩ ⟨by omega, by omega⟩ ⟨by omega, by omega⟩ ⟨by omega, by omega⟩ (by (try rw [(show mG M 126 29 = nh0 from (show mG M 126 29 = nh0 from enh0))]); (try rw [(show mG M 126 31 = nh1 from (show mG M 126 31 = nh1 from enh1))]); (try rw [(show mG M 126 34 = nh2 from (show mG M 126 34 = nh2 from enh2))]); all_goals omega) (by (try rw [(show mG M 126 29 = nh0 from (show mG M 126 29 = nh0 from enh0))]); (try rw [(show mG M 126 31 = nh1 from (show mG M 126 31 = nh1 from enh1))]); (try rw [(show mG M 126 34 = nh2 from (show mG M 126 34 = nh2 from enh2))]); all_goals omega) (by (try rw [(show mG M 126 29 = nh0 from (show mG M 126 29 = nh0 from enh0))]); (try rw [(show mG M 126 31 = nh1 from (show mG M 126 31 = nh1 from enh1))]); (try rw [(show mG M 126 34 = nh2 from (show mG M 126 34 = nh2 from enh2))]); all_goals omega) iM kM
theorem s_X9_readRelation {n : Nat} {l1 l2 : Int} {M : Mem} (r_l1 : 0 ≤ l1 ∧ l1 ≤ 40) (r_l2 : (-2147483648) ≤ l2 ∧ l2 ≤ 2147483647) (y0 : mG M 126 29 = mG M 126 29) (y1 : mG M 126 31 ≤ mG M 126 29) (y2 : mG M 126 34 = 0 ∨ mG M 126 31 < mG M 126 29) (iM : I n M) : wp (mX9_readRelation 126 l1 l2 M) (fun q => I n q.2 ∧ Keep n W_X9_readRelation M q.2 ∧ (0 ≤ q.1 ∧ q.1 ≤ 1) ∧ (mG M 126 31 ≤ mG q.2 126 31 ∧ mG q.2 126 31 ≤ mG q.2 126 29 ∧ (mG q.2 126 34 = 0 ∨ mG q.2 126 31 < mG q.2 126 29)) ∧ (q.1 = 1 → mG M 126 31 < mG q.2 126 31) ∧ True) := by
  have hn : (169 : Int) ≤ (n : Int) := by have := iM.2.2.2.2.1; omega
  have kM : Keep n W_X9_readRelation M M := Keep.rf
  obtain ⟨nh0, enh0⟩ : ∃ v, Is (mG M 126 29) v := ⟨_, rfl⟩
  have rnh0 : 0 ≤ nh0 ∧ nh0 ≤ 400 := by rw [← enh0.e]; exact rd_Model_29 iM rfl
  have qnh0 : mG M 126 29 = nh0 := enh0
  (try rw [enh0.e] at y0); (try rw [enh0.e] at y1); (try rw [enh0.e] at y2)
  obtain ⟨nh1, enh1⟩ : ∃ v, Is (mG M 126 31) v := ⟨_, rfl⟩
  have rnh1 : 0 ≤ nh1 ∧ nh1 ≤ 400 := by rw [← enh1.e]; exact rd_Model_31 iM rfl
  have qnh1 : mG M 126 31 = nh1 := enh1
  (try rw [enh1.e] at y0); (try rw [enh1.e] at y1); (try rw [enh1.e] at y2)
  obtain ⟨nh2, enh2⟩ : ∃ v, Is (mG M 126 34) v := ⟨_, rfl⟩
  have qnh2 : mG M 126 34 = nh2 := enh2
  (try rw [enh2.e] at y0); (try rw [enh2.e] at y1); (try rw [enh2.e] at y2)
  unfold mX9_readRelation
  refine w_gK (congrArg Prod.fst (kl_126 iM)) ?_
  refine w_call (s_X9_relOf (by (try rw [(show mG M 126 34 = nh2 from (show mG M 126 34 = nh2 from enh2))]); all_goals omega) iM) ?_
  intro v1 m1 pp1
  obtain ⟨im1, kk1, e1_0, e1_1, -⟩ := pp1
  try dsimp only
  replace im1 : I n m1 := im1
  replace kk1 : Keep n W_X9_relOf M m1 := kk1
  have km1 : Keep n W_X9_readRelation M m1 := kM.tr kk1 (fun b j z => z.elim)
  replace e1_0 : (-1) ≤ v1 ∧ v1 ≤ 3 := e1_0
  replace e1_1 : v1 = -1 ∨ ¬ mG m1 126 34 = 0 := e1_1
  have lk1 : mG m1 126 34 = nh2 := ((kk1.2.2 126 34 (by omega) (fun z => z)).trans (show mG M 126 34 = nh2 from enh2))
  refine w_if (fun c1_ => ?_) (fun c1_ => ?_)
  · skip
    refine w_gFc (ji := 31) rfl (congrArg Prod.fst (kl_126 im1)) (show mG m1 126 31 = nh1 from ((kk1.2.2 126 31 (by omega) (fun z => z)).trans (show mG M 126 31 = nh1 from enh1))) ?_
    refine w_pF (ji := 35) rfl (congrArg Prod.fst (kl_126 im1)) (fun M15 hM15 => ?_)
    replace hM15 : M15 = mS m1 126 35 nh1 := hM15
    have iM15 : I n M15 := wr_Model_35 im1 rfl ⟨by omega, by omega⟩ hM15
    have kM15 : Keep n W_X9_readRelation M M15 := km1.st hM15 (Or.inl (Or.inr (Or.inr (Or.inr (Or.inr (Or.inr (Or.inr (Or.inl ⟨rfl, rfl⟩))))))))
    exact w_ret ⟨iM15, kM15, (show 0 ≤ 0 ∧ 0 ≤ 1 from ⟨by omega, by omega⟩), (show mG M 126 31 ≤ mG M15 126 31 ∧ mG M15 126 31 ≤ mG M15 126 29 ∧ (mG M15 126 34 = 0 ∨ mG M15 126 31 < mG M15 126 29) from (by (try rw [(show mG M15 126 29 = nh0 from ((st_ne hM15 (fun z => absurd z.2 (by decide))).trans ((kk1.2.2 126 29 (by omega) (fun z => z)).trans (show mG M 126 29 = nh0 from enh0))))]); (try rw [(show mG M15 126 31 = nh1 from ((st_ne hM15 (fun z => absurd z.2 (by decide))).trans ((kk1.2.2 126 31 (by omega) (fun z => z)).trans (show mG M 126 31 = nh1 from enh1))))]); (try rw [(show mG M15 126 34 = nh2 from ((st_ne hM15 (fun z => absurd z.2 (by decide))).trans ((kk1.2.2 126 34 (by omega) (fun z => z)).trans (show mG M 126 34 = nh2 from enh2))))]); all_goals omega)), (show 0 = 1 → mG M 126 31 < mG M15 126 31 from (fun z => (by (try rw [(show mG M15 126 29 = nh0 from ((st_ne hM15 (fun z => absurd z.2 (by decide))).trans ((kk1.2.2 126 29 (by omega) (fun z => z)).trans (show mG M 126 29 = nh0 from enh0))))]); (try rw [(show mG M15 126 31 = nh1 from ((st_ne hM15 (fun z => absurd z.2 (by decide))).trans ((kk1.2.2 126 31 (by omega) (fun z => z)).trans (show mG M 126 31 = nh1 from enh1))))]); (try rw [(show mG M15 126 34 = nh2 from ((st_ne hM15 (fun z => absurd z.2 (by decide))).trans ((kk1.2.2 126 34 (by omega) (fun z => z)).trans (show mG M 126 34 = nh2 from enh2))))]); all_goals omega))), trivial⟩
  · skip
    refine w_gFc (ji := 41) rfl (congrArg Prod.fst (kl_126 im1)) (show mG m1 126 41 = 156 from rd_Model_41 im1 (a := 126) rfl) ?_
    refine w_aG (kl_156 im1) (by omega) (by omega) (fun a25 ha25 => ?_)
    have ra25 : (-1) ≤ a25 ∧ a25 ≤ 12 := ha25.tr (P := fun z => (-1) ≤ z ∧ z ≤ 12) (rd_MnewAct im1 rfl)
    refine w_if (fun c2_ => ?_) (fun c2_ => ?_)
    · skip
      exact s_X9_readRelation_42 ⟨by omega, by omega⟩ ⟨by omega, by omega⟩ ⟨by omega, by omega⟩ (by (try rw [(show mG m1 126 29 = nh0 from ((kk1.2.2 126 29 (by omega) (fun z => z)).trans (show mG M 126 29 = nh0 from enh0)))]); (try rw [(show mG m1 126 31 = nh1 from ((kk1.2.2 126 31 (by omega) (fun z => z)).trans (show mG M 126 31 = nh1 from enh1)))]); (try rw [(show mG m1 126 34 = nh2 from ((kk1.2.2 126 34 (by omega) (fun z => z)).trans (show mG M 126 34 = nh2 from enh2)))]); all_goals omega) (by (try rw [(show mG m1 126 29 = nh0 from ((kk1.2.2 126 29 (by omega) (fun z => z)).trans (show mG M 126 29 = nh0 from enh0)))]); (try rw [(show mG m1 126 31 = nh1 from ((kk1.2.2 126 31 (by omega) (fun z => z)).trans (show mG M 126 31 = nh1 from enh1)))]); (try rw [(show mG m1 126 34 = nh2 from ((kk1.2.2 126 34 (by omega) (fun z => z)).trans (show mG M 126 34 = nh2 from enh2)))]); all_goals omega) (by (try rw [(show mG m1 126 29 = nh0 from ((kk1.2.2 126 29 (by omega) (fun z => z)).trans (show mG M 126 29 = nh0 from enh0)))]); (try rw [(show mG m1 126 31 = nh1 from ((kk1.2.2 126 31 (by omega) (fun z => z)).trans (show mG M 126 31 = nh1 from enh1)))]); (try rw [(show mG m1 126 34 = nh2 from ((kk1.2.2 126 34 (by omega) (fun z => z)).trans (show mG M 126 34 = nh2 from enh2)))]); all_goals omega) im1 km1
    · skip
      refine w_gFc (ji := 41) rfl (congrArg Prod.fst (kl_126 im1)) (show mG m1 126 41 = 156 from rd_Model_41 im1 (a := 126) rfl) ?_
      refine w_aGc (kl_156 im1) (by omega) (by omega) (show mG m1 156 l1 = a25 from (show mG m1 156 l1 = a25 from ha25)) ?_
      refine w_if (fun c3_ => ?_) (fun c3_ => ?_)
      · skip
        exact s_X9_readRelation_42 ⟨by omega, by omega⟩ ⟨by omega, by omega⟩ ⟨by omega, by omega⟩ (by (try rw [(show mG m1 126 29 = nh0 from ((kk1.2.2 126 29 (by omega) (fun z => z)).trans (show mG M 126 29 = nh0 from enh0)))]); (try rw [(show mG m1 126 31 = nh1 from ((kk1.2.2 126 31 (by omega) (fun z => z)).trans (show mG M 126 31 = nh1 from enh1)))]); (try rw [(show mG m1 126 34 = nh2 from ((kk1.2.2 126 34 (by omega) (fun z => z)).trans (show mG M 126 34 = nh2 from enh2)))]); all_goals omega) (by (try rw [(show mG m1 126 29 = nh0 from ((kk1.2.2 126 29 (by omega) (fun z => z)).trans (show mG M 126 29 = nh0 from enh0)))]); (try rw [(show mG m1 126 31 = nh1 from ((kk1.2.2 126 31 (by omega) (fun z => z)).trans (show mG M 126 31 = nh1 from enh1)))]); (try rw [(show mG m1 126 34 = nh2 from ((kk1.2.2 126 34 (by omega) (fun z => z)).trans (show mG M 126 34 = nh2 from enh2)))]); all_goals omega) (by (try rw [(show mG m1 126 29 = nh0 from ((kk1.2.2 126 29 (by omega) (fun z => z)).trans (show mG M 126 29 = nh0 from enh0)))]); (try rw [(show mG m1 126 31 = nh1 from ((kk1.2.2 126 31 (by omega) (fun z => z)).trans (show mG M 126 31 = nh1 from enh1)))]); (try rw [(show mG m1 126 34 = nh2 from ((kk1.2.2 126 34 (by omega) (fun z => z)).trans (show mG M 126 34 = nh2 from enh2)))]); all_goals omega) im1 km1
      · skip
        exact s_X9_readRelation_47 ⟨by omega, by omega⟩ ⟨by omega, by omega⟩ ⟨by omega, by omega⟩ ⟨by omega, by omega⟩ (by (try rw [(show mG m1 126 29 = nh0 from ((kk1.2.2 126 29 (by omega) (fun z => z)).trans (show mG M 126 29 = nh0 from enh0)))]); (try rw [(show mG m1 126 31 = nh1 from ((kk1.2.2 126 31 (by omega) (fun z => z)).trans (show mG M 126 31 = nh1 from enh1)))]); (try rw [(show mG m1 126 34 = nh2 from ((kk1.2.2 126 34 (by omega) (fun z => z)).trans (show mG M 126 34 = nh2 from enh2)))]); all_goals omega) (by (try rw [(show mG m1 126 29 = nh0 from ((kk1.2.2 126 29 (by omega) (fun z => z)).trans (show mG M 126 29 = nh0 from enh0)))]); (try rw [(show mG m1 126 31 = nh1 from ((kk1.2.2 126 31 (by omega) (fun z => z)).trans (show mG M 126 31 = nh1 from enh1)))]); (try rw [(show mG m1 126 34 = nh2 from ((kk1.2.2 126 34 (by omega) (fun z => z)).trans (show mG M 126 34 = nh2 from enh2)))]); all_goals omega) (by (try rw [(show mG m1 126 29 = nh0 from ((kk1.2.2 126 29 (by omega) (fun z => z)).trans (show mG M 126 29 = nh0 from enh0)))]); (try rw [(show mG m1 126 31 = nh1 from ((kk1.2.2 126 31 (by omega) (fun z => z)).trans (show mG M 126 31 = nh1 from enh1)))]); (try rw [(show mG m1 126 34 = nh2 from ((kk1.2.2 126 34 (by omega) (fun z => z)).trans (show mG M 126 34 = nh2 from enh2)))]); all_goals omega) im1 km1
