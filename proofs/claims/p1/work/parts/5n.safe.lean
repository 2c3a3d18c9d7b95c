def W_X9_later (b j : Int) : Prop := (b = 126 ∧ j = 36) ∨ (b = 126 ∧ j = 37)
theorem s_X9_later_31 {n : Nat} {Me : Mem} {l1 l2 : Int} {M : Mem} (r_l1 : 2 ≤ l1 ∧ l1 ≤ 5) (r_l2 : 0 ≤ l2 ∧ l2 ≤ 400) (iM : I n M) (kM : Keep n W_X9_later Me M) : wp (mX9_later_31 126 l1 l2 M) (fun q => I n q.2 ∧ Keep n W_X9_later Me q.2 ∧ True) := by
  have hn : (169 : Int) ≤ (n : Int) := by have := iM.2.2.2.2.1; omega
  unfold mX9_later_31
  refine w_pF (ji := 36) rfl (congrArg Prod.fst (kl_126 iM)) (fun M33 hM33 => ?_)
  replace hM33 : M33 = mS M 126 36 l1 := hM33
  have iM33 : I n M33 := wr_Model_36 iM rfl ⟨by omega, by omega⟩ hM33
  have kM33 : Keep n W_X9_later Me M33 := kM.st hM33 (Or.inl (Or.inl ⟨rfl, rfl⟩))
  refine w_pF (ji := 37) rfl (congrArg Prod.fst (kl_126 iM33)) (fun M38 hM38 => ?_)
  replace hM38 : M38 = mS M33 126 37 l2 := hM38
  have iM38 : I n M38 := wr_Model_37 iM33 rfl ⟨by omega, by omega⟩ hM38
  have kM38 : Keep n W_X9_later Me M38 := kM33.st hM38 (Or.inl (Or.inr ⟨rfl, rfl⟩))
  exact w_ret ⟨iM38, kM38, trivial⟩
theorem s_X9_later {n : Nat} {l1 l2 : Int} {M : Mem} (r_l1 : 2 ≤ l1 ∧ l1 ≤ 5) (r_l2 : 0 ≤ l2 ∧ l2 ≤ 400) (iM : I n M) : wp (mX9_later 126 l1 l2 M) (fun q => I n q.2 ∧ Keep n W_X9_later M q.2 ∧ True) := by
  have hn : (169 : Int) ≤ (n : Int) := by have := iM.2.2.2.2.1; omega
  have kM : Keep n W_X9_later M M := Keep.rf
  unfold mX9_later
  refine w_gF (ji := 36) rfl (congrArg Prod.fst (kl_126 iM)) (fun a1 ha1 => ?_)
  have ra1 : 0 ≤ a1 ∧ a1 ≤ 5 := ha1.tr (P := fun z => 0 ≤ z ∧ z ≤ 5) (rd_Model_36 iM rfl)
  refine w_if (fun c1_ => ?_) (fun c1_ => ?_)
  · skip
    exact s_X9_later_31 ⟨by omega, by omega⟩ ⟨by omega, by omega⟩ iM kM
  · skip
    refine w_gF (ji := 37) rfl (congrArg Prod.fst (kl_126 iM)) (fun a9 ha9 => ?_)
    have ra9 : 0 ≤ a9 ∧ a9 ≤ 400 := ha9.tr (P := fun z => 0 ≤ z ∧ z ≤ 400) (rd_Model_37 iM rfl)
    refine w_if (fun c2_ => ?_) (fun c2_ => ?_)
    · skip
      exact s_X9_later_31 ⟨by omega, by omega⟩ ⟨by omega, by omega⟩ iM kM
    · skip
      refine w_gFc (ji := 37) rfl (congrArg Prod.fst (kl_126 iM)) (show mG M 126 37 = a9 from (show mG M 126 37 = a9 from ha9)) ?_
      refine w_if (fun c3_ => ?_) (fun c3_ => ?_)
      · skip
        refine w_gFc (ji := 36) rfl (congrArg Prod.fst (kl_126 iM)) (show mG M 126 36 = a1 from (show mG M 126 36 = a1 from ha1)) ?_
        refine w_if (fun c4_ => ?_) (fun c4_ => ?_)
        · skip
          exact w_ret ⟨iM, kM, trivial⟩
        · skip
          exact s_X9_later_31 ⟨by omega, by omega⟩ ⟨by omega, by omega⟩ iM kM
      · skip
        exact w_ret ⟨iM, kM, trivial⟩
def W_X9_isWord (b j : Int) : Prop := False
theorem s_X9_isWord {n : Nat} {l1 : Int} {M : Mem} (r_l1 : 114 ≤ l1 ∧ l1 ≤ 491327153000) (iM : I n M) : wp (mX9_isWord 126 l1 M) (fun q => I n q.2 ∧ Keep n W_X9_isWord M q.2 ∧ (0 ≤ q.1 ∧ q.1 ≤ 1) ∧ True) := by
  have hn : (169 : Int) ≤ (n : Int) := by have := iM.2.2.2.2.1; omega
  have kM : Keep n W_X9_isWord M M := Keep.rf
  unfold mX9_isWord
  refine w_gF (ji := 32) rfl (congrArg Prod.fst (kl_126 iM)) (fun a1 ha1 => ?_)
  have ra1 : 0 ≤ a1 ∧ a1 ≤ 3 := ha1.tr (P := fun z => 0 ≤ z ∧ z ≤ 3) (rd_Model_32 iM rfl)
  refine w_if (fun c1_ => ?_) (fun c1_ => ?_)
  · skip
    refine w_gF (ji := 34) rfl (congrArg Prod.fst (kl_126 iM)) (fun a9 ha9 => ?_)
    refine w_if (fun c3_ => ?_) (fun c3_ => ?_)
    · skip
      exact w_ret ⟨iM, kM, (show 0 ≤ 1 ∧ 1 ≤ 1 from ⟨by omega, by omega⟩), trivial⟩
    · skip
      exact w_ret ⟨iM, kM, (show 0 ≤ 0 ∧ 0 ≤ 1 from ⟨by omega, by omega⟩), trivial⟩
  · skip
    exact w_ret ⟨iM, kM, (show 0 ≤ 0 ∧ 0 ≤ 1 from ⟨by omega, by omega⟩), trivial⟩
def W_X9_actOf (b j : Int) : Prop := False
theorem s_X9_actOf {n : Nat} {M : Mem} (iM : I n M) : wp (mX9_actOf 126 M) (fun q => I n q.2 ∧ Keep n W_X9_actOf M q.2 ∧ ((-1) ≤ q.1 ∧ q.1 ≤ 10) ∧ True) := by
  have hn : (169 : Int) ≤ (n : Int) := by have := iM.2.2.2.2.1; omega
  have kM : Keep n W_X9_actOf M M := Keep.rf
  unfold mX9_actOf
  refine w_gK (congrArg Prod.fst (kl_126 iM)) ?_
  refine w_call (s_X9_isWord ⟨by omega, by omega⟩ iM) ?_
  intro v4 m4 pp4
  obtain ⟨im4, kk4, e4_0, -⟩ := pp4
  try dsimp only
  replace im4 : I n m4 := im4
  replace kk4 : Keep n W_X9_isWord M m4 := kk4
  have km4 : Keep n W_X9_actOf M m4 := kM.tr kk4 (fun b j z => z.elim)
  replace e4_0 : 0 ≤ v4 ∧ v4 ≤ 1 := e4_0
  refine w_if (fun c1_ => ?_) (fun c1_ => ?_)
  · skip
    refine w_gK (congrArg Prod.fst (kl_126 im4)) ?_
    refine w_call (s_X9_isWord ⟨by omega, by omega⟩ im4) ?_
    intro v18 m18 pp18
    obtain ⟨im18, kk18, e18_0, -⟩ := pp18
    try dsimp only
    replace im18 : I n m18 := im18
    replace kk18 : Keep n W_X9_isWord m4 m18 := kk18
    have km18 : Keep n W_X9_actOf M m18 := km4.tr kk18 (fun b j z => z.elim)
    replace e18_0 : 0 ≤ v18 ∧ v18 ≤ 1 := e18_0
    refine w_if (fun c2_ => ?_) (fun c2_ => ?_)
    · skip
      refine w_gK (congrArg Prod.fst (kl_126 im18)) ?_
      refine w_call (s_X9_isWord ⟨by omega, by omega⟩ im18) ?_
      intro v32 m32 pp32
      obtain ⟨im32, kk32, e32_0, -⟩ := pp32
      try dsimp only
      replace im32 : I n m32 := im32
      replace kk32 : Keep n W_X9_isWord m18 m32 := kk32
      have km32 : Keep n W_X9_actOf M m32 := km18.tr kk32 (fun b j z => z.elim)
      replace e32_0 : 0 ≤ v32 ∧ v32 ≤ 1 := e32_0
      refine w_if (fun c3_ => ?_) (fun c3_ => ?_)
      · skip
        refine w_gK (congrArg Prod.fst (kl_126 im32)) ?_
        refine w_call (s_X9_isWord ⟨by omega, by omega⟩ im32) ?_
        intro v46 m46 pp46
        obtain ⟨im46, kk46, e46_0, -⟩ := pp46
        try dsimp only
        replace im46 : I n m46 := im46
        replace kk46 : Keep n W_X9_isWord m32 m46 := kk46
        have km46 : Keep n W_X9_actOf M m46 := km32.tr kk46 (fun b j z => z.elim)
        replace e46_0 : 0 ≤ v46 ∧ v46 ≤ 1 := e46_0
        refine w_if (fun c4_ => ?_) (fun c4_ => ?_)
        · skip
          refine w_gK (congrArg Prod.fst (kl_126 im46)) ?_
          refine w_call (s_X9_isWord ⟨by omega, by omega⟩ im46) ?_
          intro v60 m60 pp60
          obtain ⟨im60, kk60, e60_0, -⟩ := pp60
          try dsimp only
          replace im60 : I n m60 := im60
          replace kk60 : Keep n W_X9_isWord m46 m60 := kk60
          have km60 : Keep n W_X9_actOf M m60 := km46.tr kk60 (fun b j z => z.elim)
          replace e60_0 : 0 ≤ v60 ∧ v60 ≤ 1 := e60_0
          refine w_if (fun c5_ => ?_) (fun c5_ => ?_)
          · skip
            refine w_gK (congrArg Prod.fst (kl_126 im60)) ?_
            refine w_call (s_X9_isWord ⟨by omega, by omega⟩ im60) ?_
            intro v74 m74 pp74
            obtain ⟨im74, kk74, e74_0, -⟩ := pp74
            try dsimp only
            replace im74 : I n m74 := im74
            replace kk74 : Keep n W_X9_isWord m60 m74 := kk74
            have km74 : Keep n W_X9_actOf M m74 := km60.tr kk74 (fun b j z => z.elim)
            replace e74_0 : 0 ≤ v74 ∧ v74 ≤ 1 := e74_0
            refine w_if (fun c6_ => ?_) (fun c6_ => ?_)
            · skip
              refine w_gK (congrArg Prod.fst (kl_126 im74)) ?_
              refine w_call (s_X9_isWord ⟨by omega, by omega⟩ im74) ?_
              intro v88 m88 pp88
              obtain ⟨im88, kk88, e88_0, -⟩ := pp88
              try dsimp only
              replace im88 : I n m88 := im88
              replace kk88 : Keep n W_X9_isWord m74 m88 := kk88
              have km88 : Keep n W_X9_actOf M m88 := km74.tr kk88 (fun b j z => z.elim)
              replace e88_0 : 0 ≤ v88 ∧ v88 ≤ 1 := e88_0
              refine w_if (fun c7_ => ?_) (fun c7_ => ?_)
              · skip
                refine w_gK (congrArg Prod.fst (kl_126 im88)) ?_
                refine w_call (s_X9_isWord ⟨by omega, by omega⟩ im88) ?_
                intro v103 m103 pp103
                obtain ⟨im103, kk103, e103_0, -⟩ := pp103
                try dsimp only
                replace im103 : I n m103 := im103
                replace kk103 : Keep n W_X9_isWord m88 m103 := kk103
                have km103 : Keep n W_X9_actOf M m103 := km88.tr kk103 (fun b j z => z.elim)
                replace e103_0 : 0 ≤ v103 ∧ v103 ≤ 1 := e103_0
                refine w_if (fun c8_ => ?_) (fun c8_ => ?_)
                · skip
                  refine w_gK (congrArg Prod.fst (kl_126 im103)) ?_
                  refine w_call (s_X9_isWord ⟨by omega, by omega⟩ im103) ?_
                  intro v118 m118 pp118
                  obtain ⟨im118, kk118, e118_0, -⟩ := pp118
                  try dsimp only
                  replace im118 : I n m118 := im118
                  replace kk118 : Keep n W_X9_isWord m103 m118 := kk118
                  have km118 : Keep n W_X9_actOf M m118 := km103.tr kk118 (fun b j z => z.elim)
                  replace e118_0 : 0 ≤ v118 ∧ v118 ≤ 1 := e118_0
                  refine w_if (fun c9_ => ?_) (fun c9_ => ?_)
                  · skip
                    refine w_gK (congrArg Prod.fst (kl_126 im118)) ?_
                    refine w_call (s_X9_isWord ⟨by omega, by omega⟩ im118) ?_
                    intro v133 m133 pp133
                    obtain ⟨im133, kk133, e133_0, -⟩ := pp133
                    try dsimp only
                    replace im133 : I n m133 := im133
                    replace kk133 : Keep n W_X9_isWord m118 m133 := kk133
                    have km133 : Keep n W_X9_actOf M m133 := km118.tr kk133 (fun b j z => z.elim)
                    replace e133_0 : 0 ≤ v133 ∧ v133 ≤ 1 := e133_0
                    refine w_if (fun c10_ => ?_) (fun c10_ => ?_)
                    · skip
                      refine w_gK (congrArg Prod.fst (kl_126 im133)) ?_
                      refine w_call (s_X9_isWord ⟨by omega, by omega⟩ im133) ?_
                      intro v148 m148 pp148
                      obtain ⟨im148, kk148, e148_0, -⟩ := pp148
                      try dsimp only
                      replace im148 : I n m148 := im148
                      replace kk148 : Keep n W_X9_isWord m133 m148 := kk148
                      have km148 : Keep n W_X9_actOf M m148 := km133.tr kk148 (fun b j z => z.elim)
                      replace e148_0 : 0 ≤ v148 ∧ v148 ≤ 1 := e148_0
                      refine w_if (fun c11_ => ?_) (fun c11_ => ?_)
                      · skip
                        exact w_ret ⟨im148, km148, (show (-1) ≤ (-1) ∧ (-1) ≤ 10 from ⟨by omega, by omega⟩), trivial⟩
                      · skip
                        exact w_ret ⟨im148, km148, (show (-1) ≤ 10 ∧ 10 ≤ 10 from ⟨by omega, by omega⟩), trivial⟩
                    · skip
                      exact w_ret ⟨im133, km133, (show (-1) ≤ 9 ∧ 9 ≤ 10 from ⟨by omega, by omega⟩), trivial⟩
                  · skip
                    exact w_ret ⟨im118, km118, (show (-1) ≤ 8 ∧ 8 ≤ 10 from ⟨by omega, by omega⟩), trivial⟩
                · skip
                  exact w_ret ⟨im103, km103, (show (-1) ≤ 7 ∧ 7 ≤ 10 from ⟨by omega, by omega⟩), trivial⟩
              · skip
                exact w_ret ⟨im88, km88, (show (-1) ≤ 6 ∧ 6 ≤ 10 from ⟨by omega, by omega⟩), trivial⟩
            · skip
              exact w_ret ⟨im74, km74, (show (-1) ≤ 5 ∧ 5 ≤ 10 from ⟨by omega, by omega⟩), trivial⟩
          · skip
            exact w_ret ⟨im60, km60, (show (-1) ≤ 4 ∧ 4 ≤ 10 from ⟨by omega, by omega⟩), trivial⟩
        · skip
          exact w_ret ⟨im46, km46, (show (-1) ≤ 3 ∧ 3 ≤ 10 from ⟨by omega, by omega⟩), trivial⟩
      · skip
        exact w_ret ⟨im32, km32, (show (-1) ≤ 2 ∧ 2 ≤ 10 from ⟨by omega, by omega⟩), trivial⟩
    · skip
      exact w_ret ⟨im18, km18, (show (-1) ≤ 1 ∧ 1 ≤ 10 from ⟨by omega, by omega⟩), trivial⟩
  · skip
    exact w_ret ⟨im4, km4, (show (-1) ≤ 0 ∧ 0 ≤ 10 from ⟨by omega, by omega⟩), trivial⟩
def W_X9_relOf (b j : Int) : Prop := False
theorem s_X9_relOf_57 {n : Nat} {Me : Mem} {s0 : Int} {M : Mem} (r_s0 : (-1) ≤ s0 ∧ s0 ≤ 3) (iM : I n M) (kM : Keep n W_X9_relOf Me M) : wp (mX9_relOf_57 126 s0 M) (fun q => I n q.2 ∧ Keep n W_X9_relOf Me q.2 ∧ ((-1) ≤ q.1 ∧ q.1 ≤ 3) ∧ True) := by
  have hn : (169 : Int) ≤ (n : Int) := by have := iM.2.2.2.2.1; omega
  unfold mX9_relOf_57
  refine w_gFc (ji := 8) rfl (congrArg Prod.fst (kl_126 iM)) (show mG M 126 8 = 134 from rd_Model_8 iM (a := 126) rfl) ?_
  refine w_aG (kl_134 iM) (by decide) (by decide) (fun a64 ha64 => ?_)
  have ra64 : 0 ≤ a64 ∧ a64 ≤ 4 := ha64.tr (P := fun z => 0 ≤ z ∧ z ≤ 4) (rd_Mrelations iM rfl)
  refine w_if (fun c1_ => ?_) (fun c1_ => ?_)
  · skip
    exact w_ret ⟨iM, kM, (show (-1) ≤ (-1) ∧ (-1) ≤ 3 from ⟨by omega, by omega⟩), trivial⟩
  · skip
    exact w_ret ⟨iM, kM, (show (-1) ≤ s0 ∧ s0 ≤ 3 from ⟨by omega, by omega⟩), trivial⟩
theorem s_X9_relOf {n : Nat} {M : Mem} (iM : I n M) : wp (mX9_relOf 126 M) (fun q => I n q.2 ∧ Keep n W_X9_relOf M q.2 ∧ ((-1) ≤ q.1 ∧ q.1 ≤ 3) ∧ True) := by
  have hn : (169 : Int) ≤ (n : Int) := by have := iM.2.2.2.2.1; omega
  have kM : Keep n W_X9_relOf M M := Keep.rf
  unfold mX9_relOf
  refine w_gK (congrArg Prod.fst (kl_126 iM)) ?_
  refine w_call (s_X9_isWord ⟨by omega, by omega⟩ iM) ?_
  intro v4 m4 pp4
  obtain ⟨im4, kk4, e4_0, -⟩ := pp4
  try dsimp only
  replace im4 : I n m4 := im4
  replace kk4 : Keep n W_X9_isWord M m4 := kk4
  have km4 : Keep n W_X9_relOf M m4 := kM.tr kk4 (fun b j z => z.elim)
  replace e4_0 : 0 ≤ v4 ∧ v4 ≤ 1 := e4_0
  refine w_if (fun c1_ => ?_) (fun c1_ => ?_)
  · skip
    refine w_gK (congrArg Prod.fst (kl_126 im4)) ?_
    refine w_call (s_X9_isWord ⟨by omega, by omega⟩ im4) ?_
    intro v18 m18 pp18
    obtain ⟨im18, kk18, e18_0, -⟩ := pp18
    try dsimp only
    replace im18 : I n m18 := im18
    replace kk18 : Keep n W_X9_isWord m4 m18 := kk18
    have km18 : Keep n W_X9_relOf M m18 := km4.tr kk18 (fun b j z => z.elim)
    replace e18_0 : 0 ≤ v18 ∧ v18 ≤ 1 := e18_0
    refine w_if (fun c2_ => ?_) (fun c2_ => ?_)
    · skip
      refine w_gK (congrArg Prod.fst (kl_126 im18)) ?_
      refine w_call (s_X9_isWord ⟨by omega, by omega⟩ im18) ?_
      intro v32 m32 pp32
      obtain ⟨im32, kk32, e32_0, -⟩ := pp32
      try dsimp only
      replace im32 : I n m32 := im32
      replace kk32 : Keep n W_X9_isWord m18 m32 := kk32
      have km32 : Keep n W_X9_relOf M m32 := km18.tr kk32 (fun b j z => z.elim)
      replace e32_0 : 0 ≤ v32 ∧ v32 ≤ 1 := e32_0
      refine w_if (fun c3_ => ?_) (fun c3_ => ?_)
      · skip
        refine w_gK (congrArg Prod.fst (kl_126 im32)) ?_
        refine w_call (s_X9_isWord ⟨by omega, by omega⟩ im32) ?_
        intro v46 m46 pp46
        obtain ⟨im46, kk46, e46_0, -⟩ := pp46
        try dsimp only
        replace im46 : I n m46 := im46
        replace kk46 : Keep n W_X9_isWord m32 m46 := kk46
        have km46 : Keep n W_X9_relOf M m46 := km32.tr kk46 (fun b j z => z.elim)
        replace e46_0 : 0 ≤ v46 ∧ v46 ≤ 1 := e46_0
        refine w_if (fun c4_ => ?_) (fun c4_ => ?_)
        · skip
          exact s_X9_relOf_57 ⟨by omega, by omega⟩ im46 km46
        · skip
          exact s_X9_relOf_57 ⟨by omega, by omega⟩ im46 km46
      · skip
        exact s_X9_relOf_57 ⟨by omega, by omega⟩ im32 km32
    · skip
      exact s_X9_relOf_57 ⟨by omega, by omega⟩ im18 km18
  · skip
    exact s_X9_relOf_57 ⟨by omega, by omega⟩ im4 km4
def W_X9_varOf (b j : Int) : Prop := False
theorem s_X9_varOf {n : Nat} {M : Mem} (iM : I n M) : wp (mX9_varOf 126 M) (fun q => I n q.2 ∧ Keep n W_X9_varOf M q.2 ∧ ((-1) ≤ q.1 ∧ q.1 ≤ 3) ∧ True) := by
  have hn : (169 : Int) ≤ (n : Int) := by have := iM.2.2.2.2.1; omega
  have kM : Keep n W_X9_varOf M M := Keep.rf
  unfold mX9_varOf
  refine w_gK (congrArg Prod.fst (kl_126 iM)) ?_
  refine w_call (s_X9_isWord ⟨by omega, by omega⟩ iM) ?_
  intro v4 m4 pp4
  obtain ⟨im4, kk4, e4_0, -⟩ := pp4
  try dsimp only
  replace im4 : I n m4 := im4
  replace kk4 : Keep n W_X9_isWord M m4 := kk4
  have km4 : Keep n W_X9_varOf M m4 := kM.tr kk4 (fun b j z => z.elim)
  replace e4_0 : 0 ≤ v4 ∧ v4 ≤ 1 := e4_0
  refine w_if (fun c1_ => ?_) (fun c1_ => ?_)
  · skip
    refine w_gK (congrArg Prod.fst (kl_126 im4)) ?_
    refine w_call (s_X9_isWord ⟨by omega, by omega⟩ im4) ?_
    intro v18 m18 pp18
    obtain ⟨im18, kk18, e18_0, -⟩ := pp18
    try dsimp only
    replace im18 : I n m18 := im18
    replace kk18 : Keep n W_X9_isWord m4 m18 := kk18
    have km18 : Keep n W_X9_varOf M m18 := km4.tr kk18 (fun b j z => z.elim)
    replace e18_0 : 0 ≤ v18 ∧ v18 ≤ 1 := e18_0
    refine w_if (fun c2_ => ?_) (fun c2_ => ?_)
    · skip
      refine w_gK (congrArg Prod.fst (kl_126 im18)) ?_
      refine w_call (s_X9_isWord ⟨by omega, by omega⟩ im18) ?_
      intro v32 m32 pp32
      obtain ⟨im32, kk32, e32_0, -⟩ := pp32
      try dsimp only
      replace im32 : I n m32 := im32
      replace kk32 : Keep n W_X9_isWord m18 m32 := kk32
      have km32 : Keep n W_X9_varOf M m32 := km18.tr kk32 (fun b j z => z.elim)
      replace e32_0 : 0 ≤ v32 ∧ v32 ≤ 1 := e32_0
      refine w_if (fun c3_ => ?_) (fun c3_ => ?_)
      · skip
        refine w_gK (congrArg Prod.fst (kl_126 im32)) ?_
        refine w_call (s_X9_isWord ⟨by omega, by omega⟩ im32) ?_
        intro v46 m46 pp46
        obtain ⟨im46, kk46, e46_0, -⟩ := pp46
        try dsimp only
        replace im46 : I n m46 := im46
        replace kk46 : Keep n W_X9_isWord m32 m46 := kk46
        have km46 : Keep n W_X9_varOf M m46 := km32.tr kk46 (fun b j z => z.elim)
        replace e46_0 : 0 ≤ v46 ∧ v46 ≤ 1 := e46_0
        refine w_if (fun c4_ => ?_) (fun c4_ => ?_)
        · skip
          exact w_ret ⟨im46, km46, (show (-1) ≤ (-1) ∧ (-1) ≤ 3 from ⟨by omega, by omega⟩), trivial⟩
        · skip
          exact w_ret ⟨im46, km46, (show (-1) ≤ 3 ∧ 3 ≤ 3 from ⟨by omega, by omega⟩), trivial⟩
      · skip
        exact w_ret ⟨im32, km32, (show (-1) ≤ 2 ∧ 2 ≤ 3 from ⟨by omega, by omega⟩), trivial⟩
    · skip
      exact w_ret ⟨im18, km18, (show (-1) ≤ 1 ∧ 1 ≤ 3 from ⟨by omega, by omega⟩), trivial⟩
  · skip
    exact w_ret ⟨im4, km4, (show (-1) ≤ 0 ∧ 0 ≤ 3 from ⟨by omega, by omega⟩), trivial⟩
def W_X9_wrong (b j : Int) : Prop := (b = 126 ∧ j = 35)
theorem s_X9_wrong {n : Nat} {M : Mem} (iM : I n M) : wp (mX9_wrong 126 M) (fun q => I n q.2 ∧ Keep n W_X9_wrong M q.2 ∧ ((-1) ≤ q.1 ∧ q.1 ≤ (-1)) ∧ True) := by
  have hn : (169 : Int) ≤ (n : Int) := by have := iM.2.2.2.2.1; omega
  have kM : Keep n W_X9_wrong M M := Keep.rf
  unfold mX9_wrong
  refine w_gF (ji := 31) rfl (congrArg Prod.fst (kl_126 iM)) (fun a2 ha2 => ?_)
  have ra2 : 0 ≤ a2 ∧ a2 ≤ 400 := ha2.tr (P := fun z => 0 ≤ z ∧ z ≤ 400) (rd_Model_31 iM rfl)
  refine w_pF (ji := 35) rfl (congrArg Prod.fst (kl_126 iM)) (fun M5 hM5 => ?_)
  replace hM5 : M5 = mS M 126 35 a2 := hM5
  have iM5 : I n M5 := wr_Model_35 iM rfl ⟨by omega, by omega⟩ hM5
  have kM5 : Keep n W_X9_wrong M M5 := kM.st hM5 (Or.inl ⟨rfl, rfl⟩)
  exact w_ret ⟨iM5, kM5, (show (-1) ≤ (-1) ∧ (-1) ≤ (-1) from ⟨by omega, by omega⟩), trivial⟩
def W_X9_bound (b j : Int) : Prop := False
theorem s_X9_bound {n : Nat} {l0 l1 : Int} {M : Mem} (r_l0 : 0 ≤ l0 ∧ l0 ≤ 200000) (r_l1 : 0 ≤ l1 ∧ l1 ≤ 3) (iM : I n M) : wp (mX9_bound l0 l1 M) (fun q => I n q.2 ∧ Keep n W_X9_bound M q.2 ∧ ((-1) ≤ q.1 ∧ q.1 ≤ 2) ∧ True) := by
  have hn : (169 : Int) ≤ (n : Int) := by have := iM.2.2.2.2.1; omega
  have kM : Keep n W_X9_bound M M := Keep.rf
  unfold mX9_bound
  have w1_ := wI_id (x := (2 * l1)) (by omega) (by omega)
  have w2_ := ishr_b (x := l0) (k := (wI (2 * l1))) (by omega) (by omega) (by omega) (by omega)
  have w3_ := iand_l (x := (ishr l0 (wI (2 * l1)))) (y := 3) (by omega) (by omega)
  have w4_ := iand_r (x := (ishr l0 (wI (2 * l1)))) (y := 3) (by omega) (by omega)
  refine w_some (fun b7 hb7 => ?_)
  replace hb7 : b7 = (iand (ishr l0 (wI (2 * l1))) 3) := hb7
  refine w_if (fun c5_ => ?_) (fun c5_ => ?_)
  · skip
    exact w_ret ⟨iM, kM, (show (-1) ≤ (-1) ∧ (-1) ≤ 2 from ⟨by omega, by omega⟩), trivial⟩
  · skip
    exact w_ret ⟨iM, kM, (show (-1) ≤ b7 ∧ b7 ≤ 2 from ⟨by omega, by omega⟩), trivial⟩
def W_X9_readVar (b j : Int) : Prop := (b = 126 ∧ j = 29) ∨ (b = 126 ∧ j = 31) ∨ (b = 126 ∧ j = 32) ∨ (b = 126 ∧ j = 33) ∨ (b = 126 ∧ j = 34) ∨ (b = 126 ∧ j = 35) ∨ (b = 126 ∧ j = 36) ∨ (b = 126 ∧ j = 37)
theorem s_X9_readVar_59 {n : Nat} {Me : Mem} {l3 : Int} {M : Mem} (r_l3 : 0 ≤ l3 ∧ l3 ≤ 3) (iM : I n M) (kM : Keep n W_X9_readVar Me M) : wp (mX9_readVar_59 126 l3 M) (fun q => I n q.2 ∧ Keep n W_X9_readVar Me q.2 ∧ ((-1) ≤ q.1 ∧ q.1 ≤ 3) ∧ True) := by
  have hn : (169 : Int) ≤ (n : Int) := by have := iM.2.2.2.2.1; omega
  unfold mX9_readVar_59
  refine w_gK (congrArg Prod.fst (kl_126 iM)) ?_
  refine w_call (s_X9_token iM) ?_
  intro v60 m60 pp60
  obtain ⟨im60, kk60, -⟩ := pp60
  try dsimp only
  replace im60 : I n m60 := im60
  replace kk60 : Keep n W_X9_token M m60 := kk60
  have km60 : Keep n W_X9_readVar Me m60 := kM.tr kk60 (fun b j z => Or.elim z (fun z => (Or.inl z)) (fun z => Or.elim z (fun z => (Or.inr (Or.inl z))) (fun z => Or.elim z (fun z => (Or.inr (Or.inr (Or.inl z)))) (fun z => Or.elim z (fun z => (Or.inr (Or.inr (Or.inr (Or.inl z))))) (fun z => (Or.inr (Or.inr (Or.inr (Or.inr (Or.inl z))))))))))
  exact w_ret ⟨im60, km60, (show (-1) ≤ l3 ∧ l3 ≤ 3 from ⟨by omega, by omega⟩), trivial⟩
theorem s_X9_readVar {n : Nat} {l1 l2 : Int} {M : Mem} (r_l1 : 0 ≤ l1 ∧ l1 ≤ 200000) (r_l2 : (-1) ≤ l2 ∧ l2 ≤ 2) (iM : I n M) : wp (mX9_readVar 126 l1 l2 M) (fun q => I n q.2 ∧ Keep n W_X9_readVar M q.2 ∧ ((-1) ≤ q.1 ∧ q.1 ≤ 3) ∧ True) := by
  have hn : (169 : Int) ≤ (n : Int) := by have := iM.2.2.2.2.1; omega
  have kM : Keep n W_X9_readVar M M := Keep.rf
  unfold mX9_readVar
  refine w_gK (congrArg Prod.fst (kl_126 iM)) ?_
  refine w_call (s_X9_varOf iM) ?_
  intro v1 m1 pp1
  obtain ⟨im1, kk1, e1_0, -⟩ := pp1
  try dsimp only
  replace im1 : I n m1 := im1
  replace kk1 : Keep n W_X9_varOf M m1 := kk1
  have km1 : Keep n W_X9_readVar M m1 := kM.tr kk1 (fun b j z => z.elim)
  replace e1_0 : (-1) ≤ v1 ∧ v1 ≤ 3 := e1_0
  refine w_if (fun c1_ => ?_) (fun c1_ => ?_)
  · skip
    refine w_gK (congrArg Prod.fst (kl_126 im1)) ?_
    refine w_call (s_X9_wrong im1) ?_
    intro v11 m11 pp11
    obtain ⟨im11, kk11, e11_0, -⟩ := pp11
    try dsimp only
    replace im11 : I n m11 := im11
    replace kk11 : Keep n W_X9_wrong m1 m11 := kk11
    have km11 : Keep n W_X9_readVar M m11 := km1.tr kk11 (fun b j z => by unfold W_X9_wrong at z; exact (Or.inr (Or.inr (Or.inr (Or.inr (Or.inr (Or.inl z)))))))
    replace e11_0 : (-1) ≤ v11 ∧ v11 ≤ (-1) := e11_0
    exact w_ret ⟨im11, km11, (show (-1) ≤ v11 ∧ v11 ≤ 3 from ⟨by omega, by omega⟩), trivial⟩
  · skip
    refine w_call (s_X9_bound ⟨by omega, by omega⟩ ⟨by omega, by omega⟩ im1) ?_
    intro v17 m17 pp17
    obtain ⟨im17, kk17, e17_0, -⟩ := pp17
    try dsimp only
    replace im17 : I n m17 := im17
    replace kk17 : Keep n W_X9_bound m1 m17 := kk17
    have km17 : Keep n W_X9_readVar M m17 := km1.tr kk17 (fun b j z => z.elim)
    replace e17_0 : (-1) ≤ v17 ∧ v17 ≤ 2 := e17_0
    refine w_if (fun c2_ => ?_) (fun c2_ => ?_)
    · skip
      refine w_gF (ji := 31) rfl (congrArg Prod.fst (kl_126 im17)) (fun a27 ha27 => ?_)
      have ra27 : 0 ≤ a27 ∧ a27 ≤ 400 := ha27.tr (P := fun z => 0 ≤ z ∧ z ≤ 400) (rd_Model_31 im17 rfl)
      refine w_gK (congrArg Prod.fst (kl_126 im17)) ?_
      refine w_call (s_X9_later ⟨by omega, by omega⟩ ⟨by omega, by omega⟩ im17) ?_
      intro v30 m30 pp30
      obtain ⟨im30, kk30, -⟩ := pp30
      try dsimp only
      replace im30 : I n m30 := im30
      replace kk30 : Keep n W_X9_later m17 m30 := kk30
      have km30 : Keep n W_X9_readVar M m30 := km17.tr kk30 (fun b j z => Or.elim z (fun z => (Or.inr (Or.inr (Or.inr (Or.inr (Or.inr (Or.inr (Or.inl z)))))))) (fun z => (Or.inr (Or.inr (Or.inr (Or.inr (Or.inr (Or.inr (Or.inr z)))))))))
      exact s_X9_readVar_59 ⟨by omega, by omega⟩ im30 km30
    · skip
      refine w_if (fun c3_ => ?_) (fun c3_ => ?_)
      · skip
        exact s_X9_readVar_59 ⟨by omega, by omega⟩ im17 km17
      · skip
        refine w_call (s_X9_bound ⟨by omega, by omega⟩ ⟨by omega, by omega⟩ im17) ?_
        intro v43 m43 pp43
        obtain ⟨im43, kk43, e43_0, -⟩ := pp43
        try dsimp only
        replace im43 : I n m43 := im43
        replace kk43 : Keep n W_X9_bound m17 m43 := kk43
        have km43 : Keep n W_X9_readVar M m43 := km17.tr kk43 (fun b j z => z.elim)
        replace e43_0 : (-1) ≤ v43 ∧ v43 ≤ 2 := e43_0
        refine w_if (fun c4_ => ?_) (fun c4_ => ?_)
        · skip
          exact s_X9_readVar_59 ⟨by omega, by omega⟩ im43 km43
        · skip
          refine w_gF (ji := 31) rfl (congrArg Prod.fst (kl_126 im43)) (fun a53 ha53 => ?_)
          have ra53 : 0 ≤ a53 ∧ a53 ≤ 400 := ha53.tr (P := fun z => 0 ≤ z ∧ z ≤ 400) (rd_Model_31 im43 rfl)
          refine w_gK (congrArg Prod.fst (kl_126 im43)) ?_
          refine w_call (s_X9_later ⟨by omega, by omega⟩ ⟨by omega, by omega⟩ im43) ?_
          intro v56 m56 pp56
          obtain ⟨im56, kk56, -⟩ := pp56
          try dsimp only
          replace im56 : I n m56 := im56
          replace kk56 : Keep n W_X9_later m43 m56 := kk56
          have km56 : Keep n W_X9_readVar M m56 := km43.tr kk56 (fun b j z => Or.elim z (fun z => (Or.inr (Or.inr (Or.inr (Or.inr (Or.inr (Or.inr (Or.inl z)))))))) (fun z => (Or.inr (Or.inr (Or.inr (Or.inr (Or.inr (Or.inr (Or.inr z)))))))))
          exact s_X9_readVar_59 ⟨by omega, by omega⟩ im56 km56
def W_X9_readRelation (b j : Int) : Prop := (156 ≤ b ∧ b ≤ 159) ∨ (b = 126 ∧ j = 29) ∨ (b = 126 ∧ j = 31) ∨ (b = 126 ∧ j = 32) ∨ (b = 126 ∧ j = 33) ∨ (b = 126 ∧ j = 34) ∨ (b = 126 ∧ j = 35) ∨ (b = 126 ∧ j = 36) ∨ (b = 126 ∧ j = 37)
theorem s_X9_readRelation_236 {n : Nat} {Me : Mem} {l1 s1 s3 s4 : Int} {M : Mem} (r_l1 : 0 ≤ l1 ∧ l1 ≤ 40) (r_s1 : 0 ≤ s1 ∧ s1 ≤ 40) (r_s3 : 0 ≤ s3 ∧ s3 ≤ 200000) (r_s4 : (-1) ≤ s4 ∧ s4 ≤ 2) (iM : I n M) (kM : Keep n W_X9_readRelation Me M) : wp (mX9_readRelation_236 126 l1 159 s1 126 s3 s4 M) (fun q => I n q.2 ∧ Keep n W_X9_readRelation Me q.2 ∧ (0 ≤ q.1 ∧ q.1 ≤ 1) ∧ True) := by
  have hn : (169 : Int) ≤ (n : Int) := by have := iM.2.2.2.2.1; omega
  unfold mX9_readRelation_236
  refine w_gK (congrArg Prod.fst (kl_126 iM)) ?_
  refine w_call (s_X9_readVar ⟨by omega, by omega⟩ ⟨by omega, by omega⟩ iM) ?_
  intro v236 m236 pp236
  obtain ⟨im236, kk236, e236_0, -⟩ := pp236
  try dsimp only
  replace im236 : I n m236 := im236
  replace kk236 : Keep n W_X9_readVar M m236 := kk236
  have km236 : Keep n W_X9_readRelation Me m236 := kM.tr kk236 (fun b j z => Or.elim z (fun z => (Or.inr (Or.inl z))) (fun z => Or.elim z (fun z => (Or.inr (Or.inr (Or.inl z)))) (fun z => Or.elim z (fun z => (Or.inr (Or.inr (Or.inr (Or.inl z))))) (fun z => Or.elim z (fun z => (Or.inr (Or.inr (Or.inr (Or.inr (Or.inl z)))))) (fun z => Or.elim z (fun z => (Or.inr (Or.inr (Or.inr (Or.inr (Or.inr (Or.inl z))))))) (fun z => Or.elim z (fun z => (Or.inr (Or.inr (Or.inr (Or.inr (Or.inr (Or.inr (Or.inl z)))))))) (fun z => Or.elim z (fun z => (Or.inr (Or.inr (Or.inr (Or.inr (Or.inr (Or.inr (Or.inr (Or.inl z))))))))) (fun z => (Or.inr (Or.inr (Or.inr (Or.inr (Or.inr (Or.inr (Or.inr (Or.inr z))))))))))))))))
  replace e236_0 : (-1) ≤ v236 ∧ v236 ≤ 3 := e236_0
  refine w_aS (kl_159 im236) (by omega) (by omega) (fun M239 hM239 => ?_)
  replace hM239 : M239 = mS m236 159 s1 v236 := hM239
  have iM239 : I n M239 := wr_MnewThree im236 rfl ⟨by omega, by omega⟩ hM239
  have kM239 : Keep n W_X9_readRelation Me M239 := km236.st hM239 (Or.inl (Or.inl ⟨by decide, by decide⟩))
  refine w_gFc (ji := 44) rfl (congrArg Prod.fst (kl_126 iM239)) (show mG M239 126 44 = 159 from rd_Model_44 iM239 (a := 126) rfl) ?_
  refine w_aG (kl_159 iM239) (by omega) (by omega) (fun a245 ha245 => ?_)
  have ra245 : (-2147483648) ≤ a245 ∧ a245 ≤ 2147483647 := ha245.tr (P := fun z => (-2147483648) ≤ z ∧ z ≤ 2147483647) (rd_MnewThree iM239 rfl)
  refine w_if (fun c1_ => ?_) (fun c1_ => ?_)
  · skip
    exact w_ret ⟨iM239, kM239, (show 0 ≤ 0 ∧ 0 ≤ 1 from ⟨by omega, by omega⟩), trivial⟩
  · skip
    exact w_ret ⟨iM239, kM239, (show 0 ≤ 1 ∧ 1 ≤ 1 from ⟨by omega, by omega⟩), trivial⟩
theorem s_X9_readRelation_198 {n : Nat} {Me : Mem} {l1 : Int} {M : Mem} (r_l1 : 0 ≤ l1 ∧ l1 ≤ 40) (iM : I n M) (kM : Keep n W_X9_readRelation Me M) : wp (mX9_readRelation_198 126 l1 M) (fun q => I n q.2 ∧ Keep n W_X9_readRelation Me q.2 ∧ (0 ≤ q.1 ∧ q.1 ≤ 1) ∧ True) := by
  have hn : (169 : Int) ≤ (n : Int) := by have := iM.2.2.2.2.1; omega
  unfold mX9_readRelation_198
  refine w_gFc (ji := 43) rfl (congrArg Prod.fst (kl_126 iM)) (show mG M 126 43 = 158 from rd_Model_43 iM (a := 126) rfl) ?_
  refine w_aG (kl_158 iM) (by omega) (by omega) (fun a203 ha203 => ?_)
  have ra203 : (-1) ≤ a203 ∧ a203 ≤ 3 := ha203.tr (P := fun z => (-1) ≤ z ∧ z ≤ 3) (rd_MnewTwo iM rfl)
  refine w_if (fun c1_ => ?_) (fun c1_ => ?_)
  · skip
    exact w_ret ⟨iM, kM, (show 0 ≤ 0 ∧ 0 ≤ 1 from ⟨by omega, by omega⟩), trivial⟩
  · skip
    exact w_ret ⟨iM, kM, (show 0 ≤ 1 ∧ 1 ≤ 1 from ⟨by omega, by omega⟩), trivial⟩
theorem s_X9_readRelation_173 {n : Nat} {Me : Mem} {l1 l2 l3 l5 s1 s3 s4 : Int} {M : Mem} (r_l1 : 0 ≤ l1 ∧ l1 ≤ 40) (r_l2 : 0 ≤ l2 ∧ l2 ≤ 200000) (r_l3 : 0 ≤ l3 ∧ l3 ≤ 3) (r_l5 : 0 ≤ l5 ∧ l5 ≤ 1) (r_s1 : 0 ≤ s1 ∧ s1 ≤ 40) (r_s3 : 0 ≤ s3 ∧ s3 ≤ 200000) (r_s4 : (-1) ≤ s4 ∧ s4 ≤ 2) (iM : I n M) (kM : Keep n W_X9_readRelation Me M) : wp (mX9_readRelation_173 126 l1 l2 l3 l5 158 s1 126 s3 s4 M) (fun q => I n q.2 ∧ Keep n W_X9_readRelation Me q.2 ∧ (0 ≤ q.1 ∧ q.1 ≤ 1) ∧ True) := by
  have hn : (169 : Int) ≤ (n : Int) := by have := iM.2.2.2.2.1; omega
  unfold mX9_readRelation_173
  refine w_gK (congrArg Prod.fst (kl_126 iM)) ?_
  refine w_call (s_X9_readVar ⟨by omega, by omega⟩ ⟨by omega, by omega⟩ iM) ?_
  intro v173 m173 pp173
  obtain ⟨im173, kk173, e173_0, -⟩ := pp173
  try dsimp only
  replace im173 : I n m173 := im173
  replace kk173 : Keep n W_X9_readVar M m173 := kk173
  have km173 : Keep n W_X9_readRelation Me m173 := kM.tr kk173 (fun b j z => Or.elim z (fun z => (Or.inr (Or.inl z))) (fun z => Or.elim z (fun z => (Or.inr (Or.inr (Or.inl z)))) (fun z => Or.elim z (fun z => (Or.inr (Or.inr (Or.inr (Or.inl z))))) (fun z => Or.elim z (fun z => (Or.inr (Or.inr (Or.inr (Or.inr (Or.inl z)))))) (fun z => Or.elim z (fun z => (Or.inr (Or.inr (Or.inr (Or.inr (Or.inr (Or.inl z))))))) (fun z => Or.elim z (fun z => (Or.inr (Or.inr (Or.inr (Or.inr (Or.inr (Or.inr (Or.inl z)))))))) (fun z => Or.elim z (fun z => (Or.inr (Or.inr (Or.inr (Or.inr (Or.inr (Or.inr (Or.inr (Or.inl z))))))))) (fun z => (Or.inr (Or.inr (Or.inr (Or.inr (Or.inr (Or.inr (Or.inr (Or.inr z))))))))))))))))
  replace e173_0 : (-1) ≤ v173 ∧ v173 ≤ 3 := e173_0
  refine w_aS (kl_158 im173) (by omega) (by omega) (fun M176 hM176 => ?_)
  replace hM176 : M176 = mS m173 158 s1 v173 := hM176
  have iM176 : I n M176 := wr_MnewTwo im173 rfl ⟨by omega, by omega⟩ hM176
  have kM176 : Keep n W_X9_readRelation Me M176 := km173.st hM176 (Or.inl (Or.inl ⟨by decide, by decide⟩))
  refine w_gFc (ji := 43) rfl (congrArg Prod.fst (kl_126 iM176)) (show mG M176 126 43 = 158 from rd_Model_43 iM176 (a := 126) rfl) ?_
  refine w_aG (kl_158 iM176) (by omega) (by omega) (fun a182 ha182 => ?_)
  have ra182 : (-1) ≤ a182 ∧ a182 ≤ 3 := ha182.tr (P := fun z => (-1) ≤ z ∧ z ≤ 3) (rd_MnewTwo iM176 rfl)
  refine w_if (fun c1_ => ?_) (fun c1_ => ?_)
  · skip
    exact s_X9_readRelation_198 ⟨by omega, by omega⟩ iM176 kM176
  · skip
    refine w_gFc (ji := 41) rfl (congrArg Prod.fst (kl_126 iM176)) (show mG M176 126 41 = 156 from rd_Model_41 iM176 (a := 126) rfl) ?_
    refine w_aG (kl_156 iM176) (by omega) (by omega) (fun a192 ha192 => ?_)
    have ra192 : (-1) ≤ a192 ∧ a192 ≤ 12 := ha192.tr (P := fun z => (-1) ≤ z ∧ z ≤ 12) (rd_MnewAct iM176 rfl)
    refine w_if (fun c2_ => ?_) (fun c2_ => ?_)
    · skip
      exact s_X9_readRelation_198 ⟨by omega, by omega⟩ iM176 kM176
    · skip
      refine w_gFc (ji := 44) rfl (congrArg Prod.fst (kl_126 iM176)) (show mG M176 126 44 = 159 from rd_Model_44 iM176 (a := 126) rfl) ?_
      refine w_if (fun c3_ => ?_) (fun c3_ => ?_)
      · skip
        exact s_X9_readRelation_236 ⟨by omega, by omega⟩ ⟨by omega, by omega⟩ ⟨by omega, by omega⟩ ⟨by omega, by omega⟩ iM176 kM176
      · skip
        refine w_gFc (ji := 10) rfl (congrArg Prod.fst (kl_126 iM176)) (show mG M176 126 10 = 136 from rd_Model_10 iM176 (a := 126) rfl) ?_
        refine w_aG (kl_136 iM176) (by omega) (by omega) (fun a231 ha231 => ?_)
        have ra231 : (-1) ≤ a231 ∧ a231 ≤ 2 := ha231.tr (P := fun z => (-1) ≤ z ∧ z ≤ 2) (rd_MsecondKind iM176 rfl)
        exact s_X9_readRelation_236 ⟨by omega, by omega⟩ ⟨by omega, by omega⟩ ⟨by omega, by omega⟩ ⟨by omega, by omega⟩ iM176 kM176
theorem s_X9_readRelation_126 {n : Nat} {Me : Mem} {l1 l2 l3 l5 s1 s2 : Int} {M : Mem} (r_l1 : 0 ≤ l1 ∧ l1 ≤ 40) (r_l2 : 0 ≤ l2 ∧ l2 ≤ 200000) (r_l3 : 0 ≤ l3 ∧ l3 ≤ 3) (r_l5 : 0 ≤ l5 ∧ l5 ≤ 1) (r_s1 : 0 ≤ s1 ∧ s1 ≤ 40) (r_s2 : (-1) ≤ s2 ∧ s2 ≤ 12) (iM : I n M) (kM : Keep n W_X9_readRelation Me M) : wp (mX9_readRelation_126 126 l1 l2 l3 l5 156 s1 s2 M) (fun q => I n q.2 ∧ Keep n W_X9_readRelation Me q.2 ∧ (0 ≤ q.1 ∧ q.1 ≤ 1) ∧ True) := by
  have hn : (169 : Int) ≤ (n : Int) := by have := iM.2.2.2.2.1; omega
  unfold mX9_readRelation_126
  refine w_aS (kl_156 iM) (by omega) (by omega) (fun M126 hM126 => ?_)
  replace hM126 : M126 = mS M 156 s1 s2 := hM126
  have iM126 : I n M126 := wr_MnewAct iM rfl ⟨by omega, by omega⟩ hM126
  have kM126 : Keep n W_X9_readRelation Me M126 := kM.st hM126 (Or.inl (Or.inl ⟨by decide, by decide⟩))
  refine w_gFc (ji := 42) rfl (congrArg Prod.fst (kl_126 iM126)) (show mG M126 126 42 = 157 from rd_Model_42 iM126 (a := 126) rfl) ?_
  refine w_aS (kl_157 iM126) (by omega) (by omega) (fun M133 hM133 => ?_)
  replace hM133 : M133 = mS M126 157 l1 l3 := hM133
  have iM133 : I n M133 := wr_MnewOne iM126 rfl ⟨by omega, by omega⟩ hM133
  have kM133 : Keep n W_X9_readRelation Me M133 := kM126.st hM133 (Or.inl (Or.inl ⟨by decide, by decide⟩))
  refine w_gK (congrArg Prod.fst (kl_126 iM133)) ?_
  refine w_call (s_X9_token iM133) ?_
  intro v135 m135 pp135
  obtain ⟨im135, kk135, -⟩ := pp135
  try dsimp only
  replace im135 : I n m135 := im135
  replace kk135 : Keep n W_X9_token M133 m135 := kk135
  have km135 : Keep n W_X9_readRelation Me m135 := kM133.tr kk135 (fun b j z => Or.elim z (fun z => (Or.inr (Or.inl z))) (fun z => Or.elim z (fun z => (Or.inr (Or.inr (Or.inl z)))) (fun z => Or.elim z (fun z => (Or.inr (Or.inr (Or.inr (Or.inl z))))) (fun z => Or.elim z (fun z => (Or.inr (Or.inr (Or.inr (Or.inr (Or.inl z)))))) (fun z => (Or.inr (Or.inr (Or.inr (Or.inr (Or.inr (Or.inl z)))))))))))
  refine w_gFc (ji := 41) rfl (congrArg Prod.fst (kl_126 im135)) (show mG m135 126 41 = 156 from rd_Model_41 im135 (a := 126) rfl) ?_
  refine w_aG (kl_156 im135) (by omega) (by omega) (fun a143 ha143 => ?_)
  have ra143 : (-1) ≤ a143 ∧ a143 ≤ 12 := ha143.tr (P := fun z => (-1) ≤ z ∧ z ≤ 12) (rd_MnewAct im135 rfl)
  refine w_if (fun c1_ => ?_) (fun c1_ => ?_)
  · skip
    exact w_ret ⟨im135, km135, (show 0 ≤ 1 ∧ 1 ≤ 1 from ⟨by omega, by omega⟩), trivial⟩
  · skip
    refine w_gFc (ji := 43) rfl (congrArg Prod.fst (kl_126 im135)) (show mG m135 126 43 = 158 from rd_Model_43 im135 (a := 126) rfl) ?_
    refine w_if (fun c2_ => ?_) (fun c2_ => ?_)
    · skip
      exact s_X9_readRelation_173 ⟨by omega, by omega⟩ ⟨by omega, by omega⟩ ⟨by omega, by omega⟩ ⟨by omega, by omega⟩ ⟨by omega, by omega⟩ ⟨by omega, by omega⟩ ⟨by omega, by omega⟩ im135 km135
    · skip
      refine w_gFc (ji := 9) rfl (congrArg Prod.fst (kl_126 im135)) (show mG m135 126 9 = 135 from rd_Model_9 im135 (a := 126) rfl) ?_
      refine w_aG (kl_135 im135) (by omega) (by omega) (fun a168 ha168 => ?_)
      have ra168 : 0 ≤ a168 ∧ a168 ≤ 2 := ha168.tr (P := fun z => 0 ≤ z ∧ z ≤ 2) (rd_MfirstKind im135 rfl)
      exact s_X9_readRelation_173 ⟨by omega, by omega⟩ ⟨by omega, by omega⟩ ⟨by omega, by omega⟩ ⟨by omega, by omega⟩ ⟨by omega, by omega⟩ ⟨by omega, by omega⟩ ⟨by omega, by omega⟩ im135 km135
theorem s_X9_readRelation_90 {n : Nat} {Me : Mem} {l1 l2 l3 l4 l5 : Int} {M : Mem} (r_l1 : 0 ≤ l1 ∧ l1 ≤ 40) (r_l2 : 0 ≤ l2 ∧ l2 ≤ 200000) (r_l3 : 0 ≤ l3 ∧ l3 ≤ 3) (r_l4 : 0 ≤ l4 ∧ l4 ≤ 1) (r_l5 : 0 ≤ l5 ∧ l5 ≤ 1) (iM : I n M) (kM : Keep n W_X9_readRelation Me M) : wp (mX9_readRelation_90 126 l1 l2 l3 l4 l5 M) (fun q => I n q.2 ∧ Keep n W_X9_readRelation Me q.2 ∧ (0 ≤ q.1 ∧ q.1 ≤ 1) ∧ True) := by
  have hn : (169 : Int) ≤ (n : Int) := by have := iM.2.2.2.2.1; omega
  unfold mX9_readRelation_90
  refine w_gFc (ji := 41) rfl (congrArg Prod.fst (kl_126 iM)) (show mG M 126 41 = 156 from rd_Model_41 iM (a := 126) rfl) ?_
  refine w_if (fun c1_ => ?_) (fun c1_ => ?_)
  · skip
    refine w_gFc (ji := 10) rfl (congrArg Prod.fst (kl_126 iM)) (show mG M 126 10 = 136 from rd_Model_10 iM (a := 126) rfl) ?_
    refine w_aG (kl_136 iM) (by omega) (by omega) (fun a114 ha114 => ?_)
    have ra114 : (-1) ≤ a114 ∧ a114 ≤ 2 := ha114.tr (P := fun z => (-1) ≤ z ∧ z ≤ 2) (rd_MsecondKind iM rfl)
    refine w_if (fun c2_ => ?_) (fun c2_ => ?_)
    · skip
      exact s_X9_readRelation_126 ⟨by omega, by omega⟩ ⟨by omega, by omega⟩ ⟨by omega, by omega⟩ ⟨by omega, by omega⟩ ⟨by omega, by omega⟩ ⟨by omega, by omega⟩ iM kM
    · skip
      exact s_X9_readRelation_126 ⟨by omega, by omega⟩ ⟨by omega, by omega⟩ ⟨by omega, by omega⟩ ⟨by omega, by omega⟩ ⟨by omega, by omega⟩ ⟨by omega, by omega⟩ iM kM
  · skip
    refine w_gFc (ji := 41) rfl (congrArg Prod.fst (kl_126 iM)) (show mG M 126 41 = 156 from rd_Model_41 iM (a := 126) rfl) ?_
    refine w_aG (kl_156 iM) (by omega) (by omega) (fun a105 ha105 => ?_)
    have ra105 : (-1) ≤ a105 ∧ a105 ≤ 12 := ha105.tr (P := fun z => (-1) ≤ z ∧ z ≤ 12) (rd_MnewAct iM rfl)
    exact s_X9_readRelation_126 ⟨by omega, by omega⟩ ⟨by omega, by omega⟩ ⟨by omega, by omega⟩ ⟨by omega, by omega⟩ ⟨by omega, by omega⟩ ⟨by omega, by omega⟩ iM kM
theorem s_X9_readRelation_74 {n : Nat} {Me : Mem} {l1 l2 l3 l4 s0 : Int} {M : Mem} (r_l1 : 0 ≤ l1 ∧ l1 ≤ 40) (r_l2 : 0 ≤ l2 ∧ l2 ≤ 200000) (r_l3 : 0 ≤ l3 ∧ l3 ≤ 3) (r_l4 : 0 ≤ l4 ∧ l4 ≤ 1) (r_s0 : 0 ≤ s0 ∧ s0 ≤ 1) (iM : I n M) (kM : Keep n W_X9_readRelation Me M) : wp (mX9_readRelation_74 126 l1 l2 l3 l4 s0 M) (fun q => I n q.2 ∧ Keep n W_X9_readRelation Me q.2 ∧ (0 ≤ q.1 ∧ q.1 ≤ 1) ∧ True) := by
  have hn : (169 : Int) ≤ (n : Int) := by have := iM.2.2.2.2.1; omega
  unfold mX9_readRelation_74
  refine w_if (fun c1_ => ?_) (fun c1_ => ?_)
  · skip
    refine w_gF (ji := 31) rfl (congrArg Prod.fst (kl_126 iM)) (fun a84 ha84 => ?_)
    have ra84 : 0 ≤ a84 ∧ a84 ≤ 400 := ha84.tr (P := fun z => 0 ≤ z ∧ z ≤ 400) (rd_Model_31 iM rfl)
    refine w_gK (congrArg Prod.fst (kl_126 iM)) ?_
    refine w_call (s_X9_later ⟨by omega, by omega⟩ ⟨by omega, by omega⟩ iM) ?_
    intro v87 m87 pp87
    obtain ⟨im87, kk87, -⟩ := pp87
    try dsimp only
    replace im87 : I n m87 := im87
    replace kk87 : Keep n W_X9_later M m87 := kk87
    have km87 : Keep n W_X9_readRelation Me m87 := kM.tr kk87 (fun b j z => Or.elim z (fun z => (Or.inr (Or.inr (Or.inr (Or.inr (Or.inr (Or.inr (Or.inr (Or.inl z))))))))) (fun z => (Or.inr (Or.inr (Or.inr (Or.inr (Or.inr (Or.inr (Or.inr (Or.inr z))))))))))
    exact s_X9_readRelation_90 ⟨by omega, by omega⟩ ⟨by omega, by omega⟩ ⟨by omega, by omega⟩ ⟨by omega, by omega⟩ ⟨by omega, by omega⟩ im87 km87
  · skip
    exact s_X9_readRelation_90 ⟨by omega, by omega⟩ ⟨by omega, by omega⟩ ⟨by omega, by omega⟩ ⟨by omega, by omega⟩ ⟨by omega, by omega⟩ iM kM
theorem s_X9_readRelation_69 {n : Nat} {Me : Mem} {l1 l2 l3 l4 : Int} {M : Mem} (r_l1 : 0 ≤ l1 ∧ l1 ≤ 40) (r_l2 : 0 ≤ l2 ∧ l2 ≤ 200000) (r_l3 : 0 ≤ l3 ∧ l3 ≤ 3) (r_l4 : 0 ≤ l4 ∧ l4 ≤ 1) (iM : I n M) (kM : Keep n W_X9_readRelation Me M) : wp (mX9_readRelation_69 126 l1 l2 l3 l4 M) (fun q => I n q.2 ∧ Keep n W_X9_readRelation Me q.2 ∧ (0 ≤ q.1 ∧ q.1 ≤ 1) ∧ True) := by
  have hn : (169 : Int) ≤ (n : Int) := by have := iM.2.2.2.2.1; omega
  unfold mX9_readRelation_69
  exact s_X9_readRelation_74 ⟨by omega, by omega⟩ ⟨by omega, by omega⟩ ⟨by omega, by omega⟩ ⟨by omega, by omega⟩ ⟨by omega, by omega⟩ iM kM
theorem s_X9_readRelation_47 {n : Nat} {Me : Mem} {l1 l2 l3 s0 : Int} {M : Mem} (r_l1 : 0 ≤ l1 ∧ l1 ≤ 40) (r_l2 : 0 ≤ l2 ∧ l2 ≤ 200000) (r_l3 : 0 ≤ l3 ∧ l3 ≤ 3) (r_s0 : 0 ≤ s0 ∧ s0 ≤ 1) (iM : I n M) (kM : Keep n W_X9_readRelation Me M) : wp (mX9_readRelation_47 126 l1 l2 l3 s0 M) (fun q => I n q.2 ∧ Keep n W_X9_readRelation Me q.2 ∧ (0 ≤ q.1 ∧ q.1 ≤ 1) ∧ True) := by
  have hn : (169 : Int) ≤ (n : Int) := by have := iM.2.2.2.2.1; omega
  unfold mX9_readRelation_47
  refine w_if (fun c1_ => ?_) (fun c1_ => ?_)
  · skip
    exact s_X9_readRelation_69 ⟨by omega, by omega⟩ ⟨by omega, by omega⟩ ⟨by omega, by omega⟩ ⟨by omega, by omega⟩ iM kM
  · skip
    refine w_gFc (ji := 10) rfl (congrArg Prod.fst (kl_126 iM)) (show mG M 126 10 = 136 from rd_Model_10 iM (a := 126) rfl) ?_
    refine w_aG (kl_136 iM) (by omega) (by omega) (fun a59 ha59 => ?_)
    have ra59 : (-1) ≤ a59 ∧ a59 ≤ 2 := ha59.tr (P := fun z => (-1) ≤ z ∧ z ≤ 2) (rd_MsecondKind iM rfl)
    refine w_gFc (ji := 9) rfl (congrArg Prod.fst (kl_126 iM)) (show mG M 126 9 = 135 from rd_Model_9 iM (a := 126) rfl) ?_
    refine w_aG (kl_135 iM) (by omega) (by omega) (fun a65 ha65 => ?_)
    have ra65 : 0 ≤ a65 ∧ a65 ≤ 2 := ha65.tr (P := fun z => 0 ≤ z ∧ z ≤ 2) (rd_MfirstKind iM rfl)
    refine w_if (fun c2_ => ?_) (fun c2_ => ?_)
    · skip
      exact s_X9_readRelation_69 ⟨by omega, by omega⟩ ⟨by omega, by omega⟩ ⟨by omega, by omega⟩ ⟨by omega, by omega⟩ iM kM
    · skip
      exact s_X9_readRelation_74 ⟨by omega, by omega⟩ ⟨by omega, by omega⟩ ⟨by omega, by omega⟩ ⟨by omega, by omega⟩ ⟨by omega, by omega⟩ iM kM
theorem s_X9_readRelation_42 {n : Nat} {Me : Mem} {l1 l2 l3 : Int} {M : Mem} (r_l1 : 0 ≤ l1 ∧ l1 ≤ 40) (r_l2 : 0 ≤ l2 ∧ l2 ≤ 200000) (r_l3 : 0 ≤ l3 ∧ l3 ≤ 3) (iM : I n M) (kM : Keep n W_X9_readRelation Me M) : wp (mX9_readRelation_42 126 l1 l2 l3 M) (fun q => I n q.2 ∧ Keep n W_X9_readRelation Me q.2 ∧ (0 ≤ q.1 ∧ q.1 ≤ 1) ∧ True) := by
  have hn : (169 : Int) ≤ (n : Int) := by have := iM.2.2.2.2.1; omega
  unfold mX9_readRelation_42
  exact s_X9_readRelation_47 ⟨by omega, by omega⟩ ⟨by omega, by omega⟩ ⟨by omega, by omega⟩ ⟨by omega, by omega⟩ iM kM
theorem s_X9_readRelation {n : Nat} {l1 l2 : Int} {M : Mem} (r_l1 : 0 ≤ l1 ∧ l1 ≤ 40) (r_l2 : 0 ≤ l2 ∧ l2 ≤ 200000) (iM : I n M) : wp (mX9_readRelation 126 l1 l2 M) (fun q => I n q.2 ∧ Keep n W_X9_readRelation M q.2 ∧ (0 ≤ q.1 ∧ q.1 ≤ 1) ∧ True) := by
  have hn : (169 : Int) ≤ (n : Int) := by have := iM.2.2.2.2.1; omega
  have kM : Keep n W_X9_readRelation M M := Keep.rf
  unfold mX9_readRelation
  refine w_gK (congrArg Prod.fst (kl_126 iM)) ?_
  refine w_call (s_X9_relOf iM) ?_
  intro v1 m1 pp1
  obtain ⟨im1, kk1, e1_0, -⟩ := pp1
  try dsimp only
  replace im1 : I n m1 := im1
  replace kk1 : Keep n W_X9_relOf M m1 := kk1
  have km1 : Keep n W_X9_readRelation M m1 := kM.tr kk1 (fun b j z => z.elim)
  replace e1_0 : (-1) ≤ v1 ∧ v1 ≤ 3 := e1_0
  refine w_if (fun c1_ => ?_) (fun c1_ => ?_)
  · skip
    refine w_gF (ji := 31) rfl (congrArg Prod.fst (kl_126 im1)) (fun a12 ha12 => ?_)
    have ra12 : 0 ≤ a12 ∧ a12 ≤ 400 := ha12.tr (P := fun z => 0 ≤ z ∧ z ≤ 400) (rd_Model_31 im1 rfl)
    refine w_pF (ji := 35) rfl (congrArg Prod.fst (kl_126 im1)) (fun M15 hM15 => ?_)
    replace hM15 : M15 = mS m1 126 35 a12 := hM15
    have iM15 : I n M15 := wr_Model_35 im1 rfl ⟨by omega, by omega⟩ hM15
    have kM15 : Keep n W_X9_readRelation M M15 := km1.st hM15 (Or.inl (Or.inr (Or.inr (Or.inr (Or.inr (Or.inr (Or.inr (Or.inl ⟨rfl, rfl⟩))))))))
    exact w_ret ⟨iM15, kM15, (show 0 ≤ 0 ∧ 0 ≤ 1 from ⟨by omega, by omega⟩), trivial⟩
  · skip
    refine w_gFc (ji := 41) rfl (congrArg Prod.fst (kl_126 im1)) (show mG m1 126 41 = 156 from rd_Model_41 im1 (a := 126) rfl) ?_
    refine w_aG (kl_156 im1) (by omega) (by omega) (fun a25 ha25 => ?_)
    have ra25 : (-1) ≤ a25 ∧ a25 ≤ 12 := ha25.tr (P := fun z => (-1) ≤ z ∧ z ≤ 12) (rd_MnewAct im1 rfl)
    refine w_if (fun c2_ => ?_) (fun c2_ => ?_)
    · skip
      exact s_X9_readRelation_42 ⟨by omega, by omega⟩ ⟨by omega, by omega⟩ ⟨by omega, by omega⟩ im1 km1
    · skip
      refine w_gFc (ji := 41) rfl (congrArg Prod.fst (kl_126 im1)) (show mG m1 126 41 = 156 from rd_Model_41 im1 (a := 126) rfl) ?_
      refine w_aGc (kl_156 im1) (by omega) (by omega) (show mG m1 156 l1 = a25 from (show mG m1 156 l1 = a25 from ha25)) ?_
      refine w_if (fun c3_ => ?_) (fun c3_ => ?_)
      · skip
        exact s_X9_readRelation_42 ⟨by omega, by omega⟩ ⟨by omega, by omega⟩ ⟨by omega, by omega⟩ im1 km1
      · skip
        exact s_X9_readRelation_47 ⟨by omega, by omega⟩ ⟨by omega, by omega⟩ ⟨by omega, by omega⟩ ⟨by omega, by omega⟩ im1 km1
def W_X9_readSame (b j : Int) : Prop := (157 ≤ b ∧ b ≤ 158) ∨ (b = 126 ∧ j = 29) ∨ (b = 126 ∧ j = 31) ∨ (b = 126 ∧ j = 32) ∨ (b = 126 ∧ j = 33) ∨ (b = 126 ∧ j = 34) ∨ (b = 126 ∧ j = 35) ∨ (b = 126 ∧ j = 36) ∨ (b = 126 ∧ j = 37)
theorem s_X9_readSame {n : Nat} {l1 l2 : Int} {M : Mem} (r_l1 : 0 ≤ l1 ∧ l1 ≤ 40) (r_l2 : 0 ≤ l2 ∧ l2 ≤ 200000) (iM : I n M) : wp (mX9_readSame 126 l1 l2 M) (fun q => I n q.2 ∧ Keep n W_X9_readSame M q.2 ∧ (0 ≤ q.1 ∧ q.1 ≤ 1) ∧ True) := by
  have hn : (169 : Int) ≤ (n : Int) := by have := iM.2.2.2.2.1; omega
  have kM : Keep n W_X9_readSame M M := Keep.rf
  unfold mX9_readSame
  refine w_gFc (ji := 42) rfl (congrArg Prod.fst (kl_126 iM)) (show mG M 126 42 = 157 from rd_Model_42 iM (a := 126) rfl) ?_
  refine w_gK (congrArg Prod.fst (kl_126 iM)) ?_
  refine w_call (s_X9_readVar ⟨by omega, by omega⟩ ⟨by omega, by omega⟩ iM) ?_
  intro v8 m8 pp8
  obtain ⟨im8, kk8, e8_0, -⟩ := pp8
  try dsimp only
  replace im8 : I n m8 := im8
  replace kk8 : Keep n W_X9_readVar M m8 := kk8
  have km8 : Keep n W_X9_readSame M m8 := kM.tr kk8 (fun b j z => Or.elim z (fun z => (Or.inr (Or.inl z))) (fun z => Or.elim z (fun z => (Or.inr (Or.inr (Or.inl z)))) (fun z => Or.elim z (fun z => (Or.inr (Or.inr (Or.inr (Or.inl z))))) (fun z => Or.elim z (fun z => (Or.inr (Or.inr (Or.inr (Or.inr (Or.inl z)))))) (fun z => Or.elim z (fun z => (Or.inr (Or.inr (Or.inr (Or.inr (Or.inr (Or.inl z))))))) (fun z => Or.elim z (fun z => (Or.inr (Or.inr (Or.inr (Or.inr (Or.inr (Or.inr (Or.inl z)))))))) (fun z => Or.elim z (fun z => (Or.inr (Or.inr (Or.inr (Or.inr (Or.inr (Or.inr (Or.inr (Or.inl z))))))))) (fun z => (Or.inr (Or.inr (Or.inr (Or.inr (Or.inr (Or.inr (Or.inr (Or.inr z))))))))))))))))
  replace e8_0 : (-1) ≤ v8 ∧ v8 ≤ 3 := e8_0
  refine w_aS (kl_157 im8) (by omega) (by omega) (fun M11 hM11 => ?_)
  replace hM11 : M11 = mS m8 157 l1 v8 := hM11
  have iM11 : I n M11 := wr_MnewOne im8 rfl ⟨by omega, by omega⟩ hM11
  have kM11 : Keep n W_X9_readSame M M11 := km8.st hM11 (Or.inl (Or.inl ⟨by decide, by decide⟩))
  refine w_gFc (ji := 42) rfl (congrArg Prod.fst (kl_126 iM11)) (show mG M11 126 42 = 157 from rd_Model_42 iM11 (a := 126) rfl) ?_
  refine w_aGc (kl_157 iM11) (by omega) (by omega) (show mG M11 157 l1 = v8 from (show mG M11 157 l1 = v8 from (st_eq hM11))) ?_
  refine w_if (fun c1_ => ?_) (fun c1_ => ?_)
  · skip
    exact w_ret ⟨iM11, kM11, (show 0 ≤ 0 ∧ 0 ≤ 1 from ⟨by omega, by omega⟩), trivial⟩
  · skip
    refine w_gFc (ji := 43) rfl (congrArg Prod.fst (kl_126 iM11)) (show mG M11 126 43 = 158 from rd_Model_43 iM11 (a := 126) rfl) ?_
    refine w_gFc (ji := 42) rfl (congrArg Prod.fst (kl_126 iM11)) (show mG M11 126 42 = 157 from rd_Model_42 iM11 (a := 126) rfl) ?_
    refine w_aGc (kl_157 iM11) (by omega) (by omega) (show mG M11 157 l1 = v8 from (show mG M11 157 l1 = v8 from (st_eq hM11))) ?_
    refine w_call (s_X9_bound ⟨by omega, by omega⟩ ⟨by omega, by omega⟩ iM11) ?_
    intro v38 m38 pp38
    obtain ⟨im38, kk38, e38_0, -⟩ := pp38
    try dsimp only
    replace im38 : I n m38 := im38
    replace kk38 : Keep n W_X9_bound M11 m38 := kk38
    have km38 : Keep n W_X9_readSame M m38 := kM11.tr kk38 (fun b j z => z.elim)
    replace e38_0 : (-1) ≤ v38 ∧ v38 ≤ 2 := e38_0
    refine w_gK (congrArg Prod.fst (kl_126 im38)) ?_
    refine w_call (s_X9_readVar ⟨by omega, by omega⟩ ⟨by omega, by omega⟩ im38) ?_
    intro v41 m41 pp41
    obtain ⟨im41, kk41, e41_0, -⟩ := pp41
    try dsimp only
    replace im41 : I n m41 := im41
    replace kk41 : Keep n W_X9_readVar m38 m41 := kk41
    have km41 : Keep n W_X9_readSame M m41 := km38.tr kk41 (fun b j z => Or.elim z (fun z => (Or.inr (Or.inl z))) (fun z => Or.elim z (fun z => (Or.inr (Or.inr (Or.inl z)))) (fun z => Or.elim z (fun z => (Or.inr (Or.inr (Or.inr (Or.inl z))))) (fun z => Or.elim z (fun z => (Or.inr (Or.inr (Or.inr (Or.inr (Or.inl z)))))) (fun z => Or.elim z (fun z => (Or.inr (Or.inr (Or.inr (Or.inr (Or.inr (Or.inl z))))))) (fun z => Or.elim z (fun z => (Or.inr (Or.inr (Or.inr (Or.inr (Or.inr (Or.inr (Or.inl z)))))))) (fun z => Or.elim z (fun z => (Or.inr (Or.inr (Or.inr (Or.inr (Or.inr (Or.inr (Or.inr (Or.inl z))))))))) (fun z => (Or.inr (Or.inr (Or.inr (Or.inr (Or.inr (Or.inr (Or.inr (Or.inr z))))))))))))))))
    replace e41_0 : (-1) ≤ v41 ∧ v41 ≤ 3 := e41_0
    refine w_aS (kl_158 im41) (by omega) (by omega) (fun M44 hM44 => ?_)
    replace hM44 : M44 = mS m41 158 l1 v41 := hM44
    have iM44 : I n M44 := wr_MnewTwo im41 rfl ⟨by omega, by omega⟩ hM44
    have kM44 : Keep n W_X9_readSame M M44 := km41.st hM44 (Or.inl (Or.inl ⟨by decide, by decide⟩))
    refine w_gFc (ji := 43) rfl (congrArg Prod.fst (kl_126 iM44)) (show mG M44 126 43 = 158 from rd_Model_43 iM44 (a := 126) rfl) ?_
    refine w_aGc (kl_158 iM44) (by omega) (by omega) (show mG M44 158 l1 = v41 from (show mG M44 158 l1 = v41 from (st_eq hM44))) ?_
    refine w_if (fun c2_ => ?_) (fun c2_ => ?_)
    · skip
      exact w_ret ⟨iM44, kM44, (show 0 ≤ 0 ∧ 0 ≤ 1 from ⟨by omega, by omega⟩), trivial⟩
    · skip
      exact w_ret ⟨iM44, kM44, (show 0 ≤ 1 ∧ 1 ≤ 1 from ⟨by omega, by omega⟩), trivial⟩
def W_X9_kindOf (b j : Int) : Prop := False
theorem s_X9_kindOf {n : Nat} {M : Mem} (iM : I n M) : wp (mX9_kindOf 126 M) (fun q => I n q.2 ∧ Keep n W_X9_kindOf M q.2 ∧ ((-1) ≤ q.1 ∧ q.1 ≤ 2) ∧ True) := by
  have hn : (169 : Int) ≤ (n : Int) := by have := iM.2.2.2.2.1; omega
  have kM : Keep n W_X9_kindOf M M := Keep.rf
  unfold mX9_kindOf
  refine w_gK (congrArg Prod.fst (kl_126 iM)) ?_
  refine w_call (s_X9_isWord ⟨by omega, by omega⟩ iM) ?_
  intro v4 m4 pp4
  obtain ⟨im4, kk4, e4_0, -⟩ := pp4
  try dsimp only
  replace im4 : I n m4 := im4
  replace kk4 : Keep n W_X9_isWord M m4 := kk4
  have km4 : Keep n W_X9_kindOf M m4 := kM.tr kk4 (fun b j z => z.elim)
  replace e4_0 : 0 ≤ v4 ∧ v4 ≤ 1 := e4_0
  refine w_if (fun c1_ => ?_) (fun c1_ => ?_)
  · skip
    refine w_gK (congrArg Prod.fst (kl_126 im4)) ?_
    refine w_call (s_X9_isWord ⟨by omega, by omega⟩ im4) ?_
    intro v18 m18 pp18
    obtain ⟨im18, kk18, e18_0, -⟩ := pp18
    try dsimp only
    replace im18 : I n m18 := im18
    replace kk18 : Keep n W_X9_isWord m4 m18 := kk18
    have km18 : Keep n W_X9_kindOf M m18 := km4.tr kk18 (fun b j z => z.elim)
    replace e18_0 : 0 ≤ v18 ∧ v18 ≤ 1 := e18_0
    refine w_if (fun c2_ => ?_) (fun c2_ => ?_)
    · skip
      refine w_gK (congrArg Prod.fst (kl_126 im18)) ?_
      refine w_call (s_X9_isWord ⟨by omega, by omega⟩ im18) ?_
      intro v32 m32 pp32
      obtain ⟨im32, kk32, e32_0, -⟩ := pp32
      try dsimp only
      replace im32 : I n m32 := im32
      replace kk32 : Keep n W_X9_isWord m18 m32 := kk32
      have km32 : Keep n W_X9_kindOf M m32 := km18.tr kk32 (fun b j z => z.elim)
      replace e32_0 : 0 ≤ v32 ∧ v32 ≤ 1 := e32_0
      refine w_if (fun c3_ => ?_) (fun c3_ => ?_)
      · skip
        exact w_ret ⟨im32, km32, (show (-1) ≤ (-1) ∧ (-1) ≤ 2 from ⟨by omega, by omega⟩), trivial⟩
      · skip
        exact w_ret ⟨im32, km32, (show (-1) ≤ 2 ∧ 2 ≤ 2 from ⟨by omega, by omega⟩), trivial⟩
    · skip
      exact w_ret ⟨im18, km18, (show (-1) ≤ 1 ∧ 1 ≤ 2 from ⟨by omega, by omega⟩), trivial⟩
  · skip
    exact w_ret ⟨im4, km4, (show (-1) ≤ 0 ∧ 0 ≤ 2 from ⟨by omega, by omega⟩), trivial⟩
def W_X9_readBinder (b j : Int) : Prop := b = 155 ∨ (157 ≤ b ∧ b ≤ 159) ∨ (b = 126 ∧ j = 29) ∨ (b = 126 ∧ j = 31) ∨ (b = 126 ∧ j = 32) ∨ (b = 126 ∧ j = 33) ∨ (b = 126 ∧ j = 34) ∨ (b = 126 ∧ j = 35) ∨ (b = 126 ∧ j = 38)
theorem s_X9_readBinder_49 {n : Nat} {Me : Mem} {l1 l2 : Int} {M : Mem} (r_l1 : 0 ≤ l1 ∧ l1 ≤ 40) (r_l2 : 0 ≤ l2 ∧ l2 ≤ 200000) (iM : I n M) (kM : Keep n W_X9_readBinder Me M) : wp (mX9_readBinder_49 126 l1 l2 M) (fun q => I n q.2 ∧ Keep n W_X9_readBinder Me q.2 ∧ (0 ≤ q.1 ∧ q.1 ≤ 1) ∧ True) := by
  have hn : (169 : Int) ≤ (n : Int) := by have := iM.2.2.2.2.1; omega
  unfold mX9_readBinder_49
  refine w_gK (congrArg Prod.fst (kl_126 iM)) ?_
  refine w_call (s_X9_varOf iM) ?_
  intro v50 m50 pp50
  obtain ⟨im50, kk50, e50_0, -⟩ := pp50
  try dsimp only
  replace im50 : I n m50 := im50
  replace kk50 : Keep n W_X9_varOf M m50 := kk50
  have km50 : Keep n W_X9_readBinder Me m50 := kM.tr kk50 (fun b j z => z.elim)
  replace e50_0 : (-1) ≤ v50 ∧ v50 ≤ 3 := e50_0
  refine w_if (fun c1_ => ?_) (fun c1_ => ?_)
  · skip
    refine w_gF (ji := 31) rfl (congrArg Prod.fst (kl_126 im50)) (fun a61 ha61 => ?_)
    have ra61 : 0 ≤ a61 ∧ a61 ≤ 400 := ha61.tr (P := fun z => 0 ≤ z ∧ z ≤ 400) (rd_Model_31 im50 rfl)
    refine w_pF (ji := 35) rfl (congrArg Prod.fst (kl_126 im50)) (fun M64 hM64 => ?_)
    replace hM64 : M64 = mS m50 126 35 a61 := hM64
    have iM64 : I n M64 := wr_Model_35 im50 rfl ⟨by omega, by omega⟩ hM64
    have kM64 : Keep n W_X9_readBinder Me M64 := km50.st hM64 (Or.inl (Or.inr (Or.inr (Or.inr (Or.inr (Or.inr (Or.inr (Or.inr (Or.inl ⟨rfl, rfl⟩)))))))))
    exact w_ret ⟨iM64, kM64, (show 0 ≤ 0 ∧ 0 ≤ 1 from ⟨by omega, by omega⟩), trivial⟩
  · skip
    refine w_gK (congrArg Prod.fst (kl_126 im50)) ?_
    refine w_call (s_X9_token im50) ?_
    intro v70 m70 pp70
    obtain ⟨im70, kk70, -⟩ := pp70
    try dsimp only
    replace im70 : I n m70 := im70
    replace kk70 : Keep n W_X9_token m50 m70 := kk70
    have km70 : Keep n W_X9_readBinder Me m70 := km50.tr kk70 (fun b j z => Or.elim z (fun z => (Or.inr (Or.inr (Or.inl z)))) (fun z => Or.elim z (fun z => (Or.inr (Or.inr (Or.inr (Or.inl z))))) (fun z => Or.elim z (fun z => (Or.inr (Or.inr (Or.inr (Or.inr (Or.inl z)))))) (fun z => Or.elim z (fun z => (Or.inr (Or.inr (Or.inr (Or.inr (Or.inr (Or.inl z))))))) (fun z => (Or.inr (Or.inr (Or.inr (Or.inr (Or.inr (Or.inr (Or.inl z))))))))))))
    refine w_gK (congrArg Prod.fst (kl_126 im70)) ?_
    refine w_call (s_X9_kindOf im70) ?_
    intro v74 m74 pp74
    obtain ⟨im74, kk74, e74_0, -⟩ := pp74
    try dsimp only
    replace im74 : I n m74 := im74
    replace kk74 : Keep n W_X9_kindOf m70 m74 := kk74
    have km74 : Keep n W_X9_readBinder Me m74 := km70.tr kk74 (fun b j z => z.elim)
    replace e74_0 : (-1) ≤ v74 ∧ v74 ≤ 2 := e74_0
    refine w_if (fun c2_ => ?_) (fun c2_ => ?_)
    · skip
      refine w_gF (ji := 31) rfl (congrArg Prod.fst (kl_126 im74)) (fun a87 ha87 => ?_)
      have ra87 : 0 ≤ a87 ∧ a87 ≤ 400 := ha87.tr (P := fun z => 0 ≤ z ∧ z ≤ 400) (rd_Model_31 im74 rfl)
      refine w_pF (ji := 35) rfl (congrArg Prod.fst (kl_126 im74)) (fun M90 hM90 => ?_)
      replace hM90 : M90 = mS m74 126 35 a87 := hM90
      have iM90 : I n M90 := wr_Model_35 im74 rfl ⟨by omega, by omega⟩ hM90
      have kM90 : Keep n W_X9_readBinder Me M90 := km74.st hM90 (Or.inl (Or.inr (Or.inr (Or.inr (Or.inr (Or.inr (Or.inr (Or.inr (Or.inl ⟨rfl, rfl⟩)))))))))
      exact w_ret ⟨iM90, kM90, (show 0 ≤ 0 ∧ 0 ≤ 1 from ⟨by omega, by omega⟩), trivial⟩
    · skip
      refine w_gK (congrArg Prod.fst (kl_126 im74)) ?_
      refine w_call (s_X9_token im74) ?_
      intro v96 m96 pp96
      obtain ⟨im96, kk96, -⟩ := pp96
      try dsimp only
      replace im96 : I n m96 := im96
      replace kk96 : Keep n W_X9_token m74 m96 := kk96
      have km96 : Keep n W_X9_readBinder Me m96 := km74.tr kk96 (fun b j z => Or.elim z (fun z => (Or.inr (Or.inr (Or.inl z)))) (fun z => Or.elim z (fun z => (Or.inr (Or.inr (Or.inr (Or.inl z))))) (fun z => Or.elim z (fun z => (Or.inr (Or.inr (Or.inr (Or.inr (Or.inl z)))))) (fun z => Or.elim z (fun z => (Or.inr (Or.inr (Or.inr (Or.inr (Or.inr (Or.inl z))))))) (fun z => (Or.inr (Or.inr (Or.inr (Or.inr (Or.inr (Or.inr (Or.inl z))))))))))))
      refine w_gFc (ji := 42) rfl (congrArg Prod.fst (kl_126 im96)) (show mG m96 126 42 = 157 from rd_Model_42 im96 (a := 126) rfl) ?_
      refine w_aS (kl_157 im96) (by omega) (by omega) (fun M105 hM105 => ?_)
      replace hM105 : M105 = mS m96 157 l1 v50 := hM105
      have iM105 : I n M105 := wr_MnewOne im96 rfl ⟨by omega, by omega⟩ hM105
      have kM105 : Keep n W_X9_readBinder Me M105 := km96.st hM105 (Or.inl (Or.inr (Or.inl ⟨by decide, by decide⟩)))
      refine w_gFc (ji := 43) rfl (congrArg Prod.fst (kl_126 iM105)) (show mG M105 126 43 = 158 from rd_Model_43 iM105 (a := 126) rfl) ?_
      refine w_aS (kl_158 iM105) (by omega) (by omega) (fun M113 hM113 => ?_)
      replace hM113 : M113 = mS M105 158 l1 v74 := hM113
      have iM113 : I n M113 := wr_MnewTwo iM105 rfl ⟨by omega, by omega⟩ hM113
      have kM113 : Keep n W_X9_readBinder Me M113 := kM105.st hM113 (Or.inl (Or.inr (Or.inl ⟨by decide, by decide⟩)))
      refine w_gK (congrArg Prod.fst (kl_126 iM113)) ?_
      have w3_ := wI_id (x := (2 * v50)) (by omega) (by omega)
      have w4_ := ishl_in 3 (wI (2 * v50))
      have w5_ := ixor_in (ishl 3 (wI (2 * v50))) (-1)
      have w6_ := iand_l (x := l2) (y := (ixor (ishl 3 (wI (2 * v50))) (-1))) (by omega) (by omega)
      have w8_ := ishl_in v74 (wI (2 * v50))
      have w9_ := ior_in (iand l2 (ixor (ishl 3 (wI (2 * v50))) (-1))) (ishl v74 (wI (2 * v50)))
      have w10_ := And.intro (wI_lo ((ior (iand l2 (ixor (ishl 3 (wI (2 * v50))) (-1))) (ishl v74 (wI (2 * v50)))) + 256)) (wI_hi ((ior (iand l2 (ixor (ishl 3 (wI (2 * v50))) (-1))) (ishl v74 (wI (2 * v50)))) + 256))
      refine w_call (s_X9_wait ⟨by omega, by omega⟩ iM113) ?_
      intro v135 m135 pp135
      obtain ⟨im135, kk135, -⟩ := pp135
      try dsimp only
      replace im135 : I n m135 := im135
      replace kk135 : Keep n W_X9_wait M113 m135 := kk135
      have km135 : Keep n W_X9_readBinder Me m135 := kM113.tr kk135 (fun b j z => Or.elim z (fun z => (Or.inl z)) (fun z => (Or.inr (Or.inr (Or.inr (Or.inr (Or.inr (Or.inr (Or.inr (Or.inr z))))))))))
      exact w_ret ⟨im135, km135, (show 0 ≤ 1 ∧ 1 ≤ 1 from ⟨by omega, by omega⟩), trivial⟩
theorem s_X9_readBinder {n : Nat} {l1 l2 : Int} {M : Mem} (r_l1 : 0 ≤ l1 ∧ l1 ≤ 40) (r_l2 : 0 ≤ l2 ∧ l2 ≤ 200000) (iM : I n M) : wp (mX9_readBinder 126 l1 l2 M) (fun q => I n q.2 ∧ Keep n W_X9_readBinder M q.2 ∧ (0 ≤ q.1 ∧ q.1 ≤ 1) ∧ True) := by
  have hn : (169 : Int) ≤ (n : Int) := by have := iM.2.2.2.2.1; omega
  have kM : Keep n W_X9_readBinder M M := Keep.rf
  unfold mX9_readBinder
  refine w_gFc (ji := 44) rfl (congrArg Prod.fst (kl_126 iM)) (show mG M 126 44 = 159 from rd_Model_44 iM (a := 126) rfl) ?_
  refine w_aS (kl_159 iM) (by omega) (by omega) (fun M6 hM6 => ?_)
  replace hM6 : M6 = mS M 159 l1 0 := hM6
  have iM6 : I n M6 := wr_MnewThree iM rfl ⟨by omega, by omega⟩ hM6
  have kM6 : Keep n W_X9_readBinder M M6 := kM.st hM6 (Or.inl (Or.inr (Or.inl ⟨by decide, by decide⟩)))
  refine w_gFc (ji := 41) rfl (congrArg Prod.fst (kl_126 iM6)) (show mG M6 126 41 = 156 from rd_Model_41 iM6 (a := 126) rfl) ?_
  refine w_aG (kl_156 iM6) (by omega) (by omega) (fun a12 ha12 => ?_)
  have ra12 : (-1) ≤ a12 ∧ a12 ≤ 12 := ha12.tr (P := fun z => (-1) ≤ z ∧ z ≤ 12) (rd_MnewAct iM6 rfl)
  refine w_if (fun c1_ => ?_) (fun c1_ => ?_)
  · skip
    exact s_X9_readBinder_49 ⟨by omega, by omega⟩ ⟨by omega, by omega⟩ iM6 kM6
  · skip
    refine w_gF (ji := 32) rfl (congrArg Prod.fst (kl_126 iM6)) (fun a18 ha18 => ?_)
    have ra18 : 0 ≤ a18 ∧ a18 ≤ 3 := ha18.tr (P := fun z => 0 ≤ z ∧ z ≤ 3) (rd_Model_32 iM6 rfl)
    refine w_if (fun c2_ => ?_) (fun c2_ => ?_)
    · skip
      refine w_gFc (ji := 44) rfl (congrArg Prod.fst (kl_126 iM6)) (show mG M6 126 44 = 159 from rd_Model_44 iM6 (a := 126) rfl) ?_
      refine w_gF (ji := 33) rfl (congrArg Prod.fst (kl_126 iM6)) (fun a41 ha41 => ?_)
      have ra41 : (-2147483648) ≤ a41 ∧ a41 ≤ 2147483647 := ha41.tr (P := fun z => (-2147483648) ≤ z ∧ z ≤ 2147483647) (rd_Model_33 iM6 rfl)
      refine w_aS (kl_159 iM6) (by omega) (by omega) (fun M44 hM44 => ?_)
      replace hM44 : M44 = mS M6 159 l1 a41 := hM44
      have iM44 : I n M44 := wr_MnewThree iM6 rfl ⟨by omega, by omega⟩ hM44
      have kM44 : Keep n W_X9_readBinder M M44 := kM6.st hM44 (Or.inl (Or.inr (Or.inl ⟨by decide, by decide⟩)))
      refine w_gK (congrArg Prod.fst (kl_126 iM44)) ?_
      refine w_call (s_X9_token iM44) ?_
      intro v46 m46 pp46
      obtain ⟨im46, kk46, -⟩ := pp46
      try dsimp only
      replace im46 : I n m46 := im46
      replace kk46 : Keep n W_X9_token M44 m46 := kk46
      have km46 : Keep n W_X9_readBinder M m46 := kM44.tr kk46 (fun b j z => Or.elim z (fun z => (Or.inr (Or.inr (Or.inl z)))) (fun z => Or.elim z (fun z => (Or.inr (Or.inr (Or.inr (Or.inl z))))) (fun z => Or.elim z (fun z => (Or.inr (Or.inr (Or.inr (Or.inr (Or.inl z)))))) (fun z => Or.elim z (fun z => (Or.inr (Or.inr (Or.inr (Or.inr (Or.inr (Or.inl z))))))) (fun z => (Or.inr (Or.inr (Or.inr (Or.inr (Or.inr (Or.inr (Or.inl z))))))))))))
      exact s_X9_readBinder_49 ⟨by omega, by omega⟩ ⟨by omega, by omega⟩ im46 km46
    · skip
      refine w_gF (ji := 31) rfl (congrArg Prod.fst (kl_126 iM6)) (fun a27 ha27 => ?_)
      have ra27 : 0 ≤ a27 ∧ a27 ≤ 400 := ha27.tr (P := fun z => 0 ≤ z ∧ z ≤ 400) (rd_Model_31 iM6 rfl)
      refine w_pF (ji := 35) rfl (congrArg Prod.fst (kl_126 iM6)) (fun M30 hM30 => ?_)
      replace hM30 : M30 = mS M6 126 35 a27 := hM30
      have iM30 : I n M30 := wr_Model_35 iM6 rfl ⟨by omega, by omega⟩ hM30
      have kM30 : Keep n W_X9_readBinder M M30 := kM6.st hM30 (Or.inl (Or.inr (Or.inr (Or.inr (Or.inr (Or.inr (Or.inr (Or.inr (Or.inl ⟨rfl, rfl⟩)))))))))
      exact w_ret ⟨iM30, kM30, (show 0 ≤ 0 ∧ 0 ≤ 1 from ⟨by omega, by omega⟩), trivial⟩
def W_X9_readPart (b j : Int) : Prop := (155 ≤ b ∧ b ≤ 159) ∨ (b = 126 ∧ j = 29) ∨ (b = 126 ∧ j = 31) ∨ (b = 126 ∧ j = 32) ∨ (b = 126 ∧ j = 33) ∨ (b = 126 ∧ j = 34) ∨ (b = 126 ∧ j = 35) ∨ (b = 126 ∧ j = 36) ∨ (b = 126 ∧ j = 37) ∨ (b = 126 ∧ j = 38) ∨ (b = 126 ∧ j = 40)
theorem s_X9_readPart_102 {n : Nat} {Me : Mem} {l1 l2 : Int} {M : Mem} (r_l1 : 0 ≤ l1 ∧ l1 ≤ 200000) (r_l2 : 0 ≤ l2 ∧ l2 ≤ 40) (iM : I n M) (kM : Keep n W_X9_readPart Me M) : wp (mX9_readPart_102 126 l1 l2 M) (fun q => I n q.2 ∧ Keep n W_X9_readPart Me q.2 ∧ (0 ≤ q.1 ∧ q.1 ≤ 1) ∧ True) := by
  have hn : (169 : Int) ≤ (n : Int) := by have := iM.2.2.2.2.1; omega
  unfold mX9_readPart_102
  refine w_gK (congrArg Prod.fst (kl_126 iM)) ?_
  refine w_call (s_X9_token iM) ?_
  intro v103 m103 pp103
  obtain ⟨im103, kk103, -⟩ := pp103
  try dsimp only
  replace im103 : I n m103 := im103
  replace kk103 : Keep n W_X9_token M m103 := kk103
  have km103 : Keep n W_X9_readPart Me m103 := kM.tr kk103 (fun b j z => Or.elim z (fun z => (Or.inr (Or.inl z))) (fun z => Or.elim z (fun z => (Or.inr (Or.inr (Or.inl z)))) (fun z => Or.elim z (fun z => (Or.inr (Or.inr (Or.inr (Or.inl z))))) (fun z => Or.elim z (fun z => (Or.inr (Or.inr (Or.inr (Or.inr (Or.inl z)))))) (fun z => (Or.inr (Or.inr (Or.inr (Or.inr (Or.inr (Or.inl z)))))))))))
  refine w_gFc (ji := 41) rfl (congrArg Prod.fst (kl_126 im103)) (show mG m103 126 41 = 156 from rd_Model_41 im103 (a := 126) rfl) ?_
  refine w_aG (kl_156 im103) (by omega) (by omega) (fun a111 ha111 => ?_)
  have ra111 : (-1) ≤ a111 ∧ a111 ≤ 12 := ha111.tr (P := fun z => (-1) ≤ z ∧ z ≤ 12) (rd_MnewAct im103 rfl)
  refine w_if (fun c1_ => ?_) (fun c1_ => ?_)
  · skip
    refine w_gFc (ji := 41) rfl (congrArg Prod.fst (kl_126 im103)) (show mG m103 126 41 = 156 from rd_Model_41 im103 (a := 126) rfl) ?_
    refine w_aGc (kl_156 im103) (by omega) (by omega) (show mG m103 156 l2 = a111 from (show mG m103 156 l2 = a111 from ha111)) ?_
    refine w_if (fun c2_ => ?_) (fun c2_ => ?_)
    · skip
      refine w_gK (congrArg Prod.fst (kl_126 im103)) ?_
      refine w_call (s_X9_readSame ⟨by omega, by omega⟩ ⟨by omega, by omega⟩ im103) ?_
      intro v137 m137 pp137
      obtain ⟨im137, kk137, e137_0, -⟩ := pp137
      try dsimp only
      replace im137 : I n m137 := im137
      replace kk137 : Keep n W_X9_readSame m103 m137 := kk137
      have km137 : Keep n W_X9_readPart Me m137 := km103.tr kk137 (fun b j z => Or.elim z (fun z => (Or.inl ⟨by omega, by omega⟩)) (fun z => Or.elim z (fun z => (Or.inr (Or.inl z))) (fun z => Or.elim z (fun z => (Or.inr (Or.inr (Or.inl z)))) (fun z => Or.elim z (fun z => (Or.inr (Or.inr (Or.inr (Or.inl z))))) (fun z => Or.elim z (fun z => (Or.inr (Or.inr (Or.inr (Or.inr (Or.inl z)))))) (fun z => Or.elim z (fun z => (Or.inr (Or.inr (Or.inr (Or.inr (Or.inr (Or.inl z))))))) (fun z => Or.elim z (fun z => (Or.inr (Or.inr (Or.inr (Or.inr (Or.inr (Or.inr (Or.inl z)))))))) (fun z => Or.elim z (fun z => (Or.inr (Or.inr (Or.inr (Or.inr (Or.inr (Or.inr (Or.inr (Or.inl z))))))))) (fun z => (Or.inr (Or.inr (Or.inr (Or.inr (Or.inr (Or.inr (Or.inr (Or.inr (Or.inl z))))))))))))))))))
      replace e137_0 : 0 ≤ v137 ∧ v137 ≤ 1 := e137_0
      refine w_zR (by omega) (fun z hz => ?_)
      exact w_ret ⟨im137, km137, (show 0 ≤ z ∧ z ≤ 1 from ⟨by omega, by omega⟩), trivial⟩
    · skip
      refine w_gFc (ji := 41) rfl (congrArg Prod.fst (kl_126 im103)) (show mG m103 126 41 = 156 from rd_Model_41 im103 (a := 126) rfl) ?_
      refine w_aGc (kl_156 im103) (by omega) (by omega) (show mG m103 156 l2 = a111 from (show mG m103 156 l2 = a111 from ha111)) ?_
      refine w_if (fun c3_ => ?_) (fun c3_ => ?_)
      · skip
        refine w_gK (congrArg Prod.fst (kl_126 im103)) ?_
        refine w_call (s_X9_wait ⟨by omega, by omega⟩ im103) ?_
        intro v161 m161 pp161
        obtain ⟨im161, kk161, -⟩ := pp161
        try dsimp only
        replace im161 : I n m161 := im161
        replace kk161 : Keep n W_X9_wait m103 m161 := kk161
        have km161 : Keep n W_X9_readPart Me m161 := km103.tr kk161 (fun b j z => Or.elim z (fun z => (Or.inl ⟨by omega, by omega⟩)) (fun z => (Or.inr (Or.inr (Or.inr (Or.inr (Or.inr (Or.inr (Or.inr (Or.inr (Or.inr (Or.inl z))))))))))))
        refine w_gFc (ji := 41) rfl (congrArg Prod.fst (kl_126 im161)) (show mG m161 126 41 = 156 from rd_Model_41 im161 (a := 126) rfl) ?_
        refine w_aGc (kl_156 im161) (by omega) (by omega) (show mG m161 156 l2 = a111 from ((kk161.2.2 156 l2 (by omega) (fun z => by unfold W_X9_wait at z; (try unfold isWS at z); (try unfold isShape at z); (try unfold isTold at z); (try dsimp only at z); omega)).trans (show mG m103 156 l2 = a111 from ha111))) ?_
        refine w_if (fun c4_ => ?_) (fun c4_ => ?_)
        · skip
          exact w_ret ⟨im161, km161, (show 0 ≤ 1 ∧ 1 ≤ 1 from ⟨by omega, by omega⟩), trivial⟩
        · skip
          refine w_gK (congrArg Prod.fst (kl_126 im161)) ?_
          refine w_call (s_X9_wait ⟨by omega, by omega⟩ im161) ?_
          intro v176 m176 pp176
          obtain ⟨im176, kk176, -⟩ := pp176
          try dsimp only
          replace im176 : I n m176 := im176
          replace kk176 : Keep n W_X9_wait m161 m176 := kk176
          have km176 : Keep n W_X9_readPart Me m176 := km161.tr kk176 (fun b j z => Or.elim z (fun z => (Or.inl ⟨by omega, by omega⟩)) (fun z => (Or.inr (Or.inr (Or.inr (Or.inr (Or.inr (Or.inr (Or.inr (Or.inr (Or.inr (Or.inl z))))))))))))
          exact w_ret ⟨im176, km176, (show 0 ≤ 1 ∧ 1 ≤ 1 from ⟨by omega, by omega⟩), trivial⟩
      · skip
        refine w_gK (congrArg Prod.fst (kl_126 im103)) ?_
        refine w_call (s_X9_readRelation ⟨by omega, by omega⟩ ⟨by omega, by omega⟩ im103) ?_
        intro v155 m155 pp155
        obtain ⟨im155, kk155, e155_0, -⟩ := pp155
        try dsimp only
        replace im155 : I n m155 := im155
        replace kk155 : Keep n W_X9_readRelation m103 m155 := kk155
        have km155 : Keep n W_X9_readPart Me m155 := km103.tr kk155 (fun b j z => Or.elim z (fun z => (Or.inl ⟨by omega, by omega⟩)) (fun z => Or.elim z (fun z => (Or.inr (Or.inl z))) (fun z => Or.elim z (fun z => (Or.inr (Or.inr (Or.inl z)))) (fun z => Or.elim z (fun z => (Or.inr (Or.inr (Or.inr (Or.inl z))))) (fun z => Or.elim z (fun z => (Or.inr (Or.inr (Or.inr (Or.inr (Or.inl z)))))) (fun z => Or.elim z (fun z => (Or.inr (Or.inr (Or.inr (Or.inr (Or.inr (Or.inl z))))))) (fun z => Or.elim z (fun z => (Or.inr (Or.inr (Or.inr (Or.inr (Or.inr (Or.inr (Or.inl z)))))))) (fun z => Or.elim z (fun z => (Or.inr (Or.inr (Or.inr (Or.inr (Or.inr (Or.inr (Or.inr (Or.inl z))))))))) (fun z => (Or.inr (Or.inr (Or.inr (Or.inr (Or.inr (Or.inr (Or.inr (Or.inr (Or.inl z))))))))))))))))))
        replace e155_0 : 0 ≤ v155 ∧ v155 ≤ 1 := e155_0
        refine w_zR (by omega) (fun z hz => ?_)
        exact w_ret ⟨im155, km155, (show 0 ≤ z ∧ z ≤ 1 from ⟨by omega, by omega⟩), trivial⟩
  · skip
    refine w_gK (congrArg Prod.fst (kl_126 im103)) ?_
    refine w_call (s_X9_readBinder ⟨by omega, by omega⟩ ⟨by omega, by omega⟩ im103) ?_
    intro v119 m119 pp119
    obtain ⟨im119, kk119, e119_0, -⟩ := pp119
    try dsimp only
    replace im119 : I n m119 := im119
    replace kk119 : Keep n W_X9_readBinder m103 m119 := kk119
    have km119 : Keep n W_X9_readPart Me m119 := km103.tr kk119 (fun b j z => Or.elim z (fun z => (Or.inl ⟨by omega, by omega⟩)) (fun z => Or.elim z (fun z => (Or.inl ⟨by omega, by omega⟩)) (fun z => Or.elim z (fun z => (Or.inr (Or.inl z))) (fun z => Or.elim z (fun z => (Or.inr (Or.inr (Or.inl z)))) (fun z => Or.elim z (fun z => (Or.inr (Or.inr (Or.inr (Or.inl z))))) (fun z => Or.elim z (fun z => (Or.inr (Or.inr (Or.inr (Or.inr (Or.inl z)))))) (fun z => Or.elim z (fun z => (Or.inr (Or.inr (Or.inr (Or.inr (Or.inr (Or.inl z))))))) (fun z => Or.elim z (fun z => (Or.inr (Or.inr (Or.inr (Or.inr (Or.inr (Or.inr (Or.inl z)))))))) (fun z => (Or.inr (Or.inr (Or.inr (Or.inr (Or.inr (Or.inr (Or.inr (Or.inr (Or.inr (Or.inl z)))))))))))))))))))
    replace e119_0 : 0 ≤ v119 ∧ v119 ≤ 1 := e119_0
    refine w_zR (by omega) (fun z hz => ?_)
    exact w_ret ⟨im119, km119, (show 0 ≤ z ∧ z ≤ 1 from ⟨by omega, by omega⟩), trivial⟩
theorem s_X9_readPart_36 {n : Nat} {Me : Mem} {l1 s0 : Int} {M : Mem} (r_l1 : 0 ≤ l1 ∧ l1 ≤ 200000) (r_s0 : 0 ≤ s0 ∧ s0 ≤ 40) (iM : I n M) (kM : Keep n W_X9_readPart Me M) : wp (mX9_readPart_36 126 l1 s0 M) (fun q => I n q.2 ∧ Keep n W_X9_readPart Me q.2 ∧ (0 ≤ q.1 ∧ q.1 ≤ 1) ∧ True) := by
  have hn : (169 : Int) ≤ (n : Int) := by have := iM.2.2.2.2.1; omega
  unfold mX9_readPart_36
  refine w_gF (ji := 40) rfl (congrArg Prod.fst (kl_126 iM)) (fun a39 ha39 => ?_)
  have ra39 : 0 ≤ a39 ∧ a39 ≤ 402 := ha39.tr (P := fun z => 0 ≤ z ∧ z ≤ 402) (rd_Model_40 iM rfl)
  have w1_ := wI_id (x := (a39 + 1)) (by omega) (by omega)
  refine w_pF (ji := 40) rfl (congrArg Prod.fst (kl_126 iM)) (fun M44 hM44 => ?_)
  replace hM44 : M44 = mS M 126 40 (wI (a39 + 1)) := hM44
  have iM44 : I n M44 := wr_Model_40 iM rfl ⟨by omega, by omega⟩ hM44
  have kM44 : Keep n W_X9_readPart Me M44 := kM.st hM44 (Or.inl (Or.inr (Or.inr (Or.inr (Or.inr (Or.inr (Or.inr (Or.inr (Or.inr (Or.inr (Or.inr ⟨rfl, rfl⟩)))))))))))
  obtain ⟨svM44, esvM44⟩ : ∃ z, z = (wI (a39 + 1)) := ⟨_, rfl⟩
  refine w_gFc (ji := 41) rfl (congrArg Prod.fst (kl_126 iM44)) (show mG M44 126 41 = 156 from rd_Model_41 iM44 (a := 126) rfl) ?_
  refine w_gK (congrArg Prod.fst (kl_126 iM44)) ?_
  refine w_call (s_X9_actOf iM44) ?_
  intro v53 m53 pp53
  obtain ⟨im53, kk53, e53_0, -⟩ := pp53
  try dsimp only
  replace im53 : I n m53 := im53
  replace kk53 : Keep n W_X9_actOf M44 m53 := kk53
  have km53 : Keep n W_X9_readPart Me m53 := kM44.tr kk53 (fun b j z => z.elim)
  replace e53_0 : (-1) ≤ v53 ∧ v53 ≤ 10 := e53_0
  refine w_aS (kl_156 im53) (by omega) (by omega) (fun M56 hM56 => ?_)
  replace hM56 : M56 = mS m53 156 s0 v53 := hM56
  have iM56 : I n M56 := wr_MnewAct im53 rfl ⟨by omega, by omega⟩ hM56
  have kM56 : Keep n W_X9_readPart Me M56 := km53.st hM56 (Or.inl (Or.inl ⟨by decide, by decide⟩))
  refine w_gFc (ji := 41) rfl (congrArg Prod.fst (kl_126 iM56)) (show mG M56 126 41 = 156 from rd_Model_41 iM56 (a := 126) rfl) ?_
  refine w_aGc (kl_156 iM56) (by omega) (by omega) (show mG M56 156 s0 = v53 from (show mG M56 156 s0 = v53 from (st_eq hM56))) ?_
  refine w_if (fun c2_ => ?_) (fun c2_ => ?_)
  · skip
    refine w_gK (congrArg Prod.fst (kl_126 iM56)) ?_
    refine w_call (s_X9_readRelation ⟨by omega, by omega⟩ ⟨by omega, by omega⟩ iM56) ?_
    intro v70 m70 pp70
    obtain ⟨im70, kk70, e70_0, -⟩ := pp70
    try dsimp only
    replace im70 : I n m70 := im70
    replace kk70 : Keep n W_X9_readRelation M56 m70 := kk70
    have km70 : Keep n W_X9_readPart Me m70 := kM56.tr kk70 (fun b j z => Or.elim z (fun z => (Or.inl ⟨by omega, by omega⟩)) (fun z => Or.elim z (fun z => (Or.inr (Or.inl z))) (fun z => Or.elim z (fun z => (Or.inr (Or.inr (Or.inl z)))) (fun z => Or.elim z (fun z => (Or.inr (Or.inr (Or.inr (Or.inl z))))) (fun z => Or.elim z (fun z => (Or.inr (Or.inr (Or.inr (Or.inr (Or.inl z)))))) (fun z => Or.elim z (fun z => (Or.inr (Or.inr (Or.inr (Or.inr (Or.inr (Or.inl z))))))) (fun z => Or.elim z (fun z => (Or.inr (Or.inr (Or.inr (Or.inr (Or.inr (Or.inr (Or.inl z)))))))) (fun z => Or.elim z (fun z => (Or.inr (Or.inr (Or.inr (Or.inr (Or.inr (Or.inr (Or.inr (Or.inl z))))))))) (fun z => (Or.inr (Or.inr (Or.inr (Or.inr (Or.inr (Or.inr (Or.inr (Or.inr (Or.inl z))))))))))))))))))
    replace e70_0 : 0 ≤ v70 ∧ v70 ≤ 1 := e70_0
    refine w_zR (by omega) (fun z hz => ?_)
    exact w_ret ⟨im70, km70, (show 0 ≤ z ∧ z ≤ 1 from ⟨by omega, by omega⟩), trivial⟩
  · skip
    refine w_gFc (ji := 41) rfl (congrArg Prod.fst (kl_126 iM56)) (show mG M56 126 41 = 156 from rd_Model_41 iM56 (a := 126) rfl) ?_
    refine w_aGc (kl_156 iM56) (by omega) (by omega) (show mG M56 156 s0 = v53 from (show mG M56 156 s0 = v53 from (st_eq hM56))) ?_
    refine w_if (fun c3_ => ?_) (fun c3_ => ?_)
    · skip
      exact s_X9_readPart_102 ⟨by omega, by omega⟩ ⟨by omega, by omega⟩ iM56 kM56
    · skip
      refine w_dQ (by omega) (fun a88 ha88 => ?_)
      have ea88 : a88 = l1 / 256 := ha88.trans (idiv_e (by omega) (by omega) (by omega) (by omega))
      refine w_if (fun c4_ => ?_) (fun c4_ => ?_)
      · skip
        exact s_X9_readPart_102 ⟨by omega, by omega⟩ ⟨by omega, by omega⟩ iM56 kM56
      · skip
        refine w_gF (ji := 31) rfl (congrArg Prod.fst (kl_126 iM56)) (fun a96 ha96 => ?_)
        have ra96 : 0 ≤ a96 ∧ a96 ≤ 400 := ha96.tr (P := fun z => 0 ≤ z ∧ z ≤ 400) (rd_Model_31 iM56 rfl)
        refine w_gK (congrArg Prod.fst (kl_126 iM56)) ?_
        refine w_call (s_X9_later ⟨by omega, by omega⟩ ⟨by omega, by omega⟩ iM56) ?_
        intro v99 m99 pp99
        obtain ⟨im99, kk99, -⟩ := pp99
        try dsimp only
        replace im99 : I n m99 := im99
        replace kk99 : Keep n W_X9_later M56 m99 := kk99
        have km99 : Keep n W_X9_readPart Me m99 := kM56.tr kk99 (fun b j z => Or.elim z (fun z => (Or.inr (Or.inr (Or.inr (Or.inr (Or.inr (Or.inr (Or.inr (Or.inl z))))))))) (fun z => (Or.inr (Or.inr (Or.inr (Or.inr (Or.inr (Or.inr (Or.inr (Or.inr (Or.inl z)))))))))))
        exact s_X9_readPart_102 ⟨by omega, by omega⟩ ⟨by omega, by omega⟩ im99 km99
theorem s_X9_readPart_18 {n : Nat} {Me : Mem} {l1 : Int} {M : Mem} (r_l1 : 0 ≤ l1 ∧ l1 ≤ 200000) (iM : I n M) (kM : Keep n W_X9_readPart Me M) : wp (mX9_readPart_18 126 l1 M) (fun q => I n q.2 ∧ Keep n W_X9_readPart Me q.2 ∧ (0 ≤ q.1 ∧ q.1 ≤ 1) ∧ True) := by
  have hn : (169 : Int) ≤ (n : Int) := by have := iM.2.2.2.2.1; omega
  unfold mX9_readPart_18
  refine w_gF (ji := 40) rfl (congrArg Prod.fst (kl_126 iM)) (fun a19 ha19 => ?_)
  have ra19 : 0 ≤ a19 ∧ a19 ≤ 402 := ha19.tr (P := fun z => 0 ≤ z ∧ z ≤ 402) (rd_Model_40 iM rfl)
  refine w_if (fun c1_ => ?_) (fun c1_ => ?_)
  · skip
    exact s_X9_readPart_36 ⟨by omega, by omega⟩ ⟨by omega, by omega⟩ iM kM
  · skip
    refine w_gFc (ji := 40) rfl (congrArg Prod.fst (kl_126 iM)) (show mG M 126 40 = a19 from (show mG M 126 40 = a19 from ha19)) ?_
    exact s_X9_readPart_36 ⟨by omega, by omega⟩ ⟨by omega, by omega⟩ iM kM
theorem s_X9_readPart {n : Nat} {l1 : Int} {M : Mem} (r_l1 : 0 ≤ l1 ∧ l1 ≤ 200000) (iM : I n M) : wp (mX9_readPart 126 l1 M) (fun q => I n q.2 ∧ Keep n W_X9_readPart M q.2 ∧ (0 ≤ q.1 ∧ q.1 ≤ 1) ∧ True) := by
  have hn : (169 : Int) ≤ (n : Int) := by have := iM.2.2.2.2.1; omega
  have kM : Keep n W_X9_readPart M M := Keep.rf
  unfold mX9_readPart
  refine w_gF (ji := 40) rfl (congrArg Prod.fst (kl_126 iM)) (fun a1 ha1 => ?_)
  have ra1 : 0 ≤ a1 ∧ a1 ≤ 402 := ha1.tr (P := fun z => 0 ≤ z ∧ z ≤ 402) (rd_Model_40 iM rfl)
  refine w_if (fun c1_ => ?_) (fun c1_ => ?_)
  · skip
    refine w_gF (ji := 31) rfl (congrArg Prod.fst (kl_126 iM)) (fun a12 ha12 => ?_)
    have ra12 : 0 ≤ a12 ∧ a12 ≤ 400 := ha12.tr (P := fun z => 0 ≤ z ∧ z ≤ 400) (rd_Model_31 iM rfl)
    refine w_gK (congrArg Prod.fst (kl_126 iM)) ?_
    refine w_call (s_X9_later ⟨by omega, by omega⟩ ⟨by omega, by omega⟩ iM) ?_
    intro v15 m15 pp15
    obtain ⟨im15, kk15, -⟩ := pp15
    try dsimp only
    replace im15 : I n m15 := im15
    replace kk15 : Keep n W_X9_later M m15 := kk15
    have km15 : Keep n W_X9_readPart M m15 := kM.tr kk15 (fun b j z => Or.elim z (fun z => (Or.inr (Or.inr (Or.inr (Or.inr (Or.inr (Or.inr (Or.inr (Or.inl z))))))))) (fun z => (Or.inr (Or.inr (Or.inr (Or.inr (Or.inr (Or.inr (Or.inr (Or.inr (Or.inl z)))))))))))
    exact s_X9_readPart_18 ⟨by omega, by omega⟩ im15 km15
  · skip
    exact s_X9_readPart_18 ⟨by omega, by omega⟩ iM kM
