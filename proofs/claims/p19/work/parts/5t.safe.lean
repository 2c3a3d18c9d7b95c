def W_X9_isTogether (b j : Int) : Prop := False
theorem s_X9_isTogether_28 {n : Nat} {Me : Mem} {k2 : Int → Int → Int → Mem → Option (Int × Mem)} {fu2 : Nat} (hk2 : ∀ (l1 l2 : Int) (M : Mem), (0 ≤ l1 ∧ l1 ≤ 255) → (0 ≤ l2 ∧ l2 ≤ 256) → 257 - l2 < (fu2 : Int) → I n M → Keep n W_X9_isTogether Me M → wp (k2 126 l1 l2 M) (fun q => I n q.2 ∧ Keep n W_X9_isTogether Me q.2 ∧ (0 ≤ q.1 ∧ q.1 ≤ 1) ∧ True)) {l1 l2 : Int} {M : Mem} (r_l1 : 0 ≤ l1 ∧ l1 ≤ 255) (r_l2 : 0 ≤ l2 ∧ l2 ≤ 255) (hf2 : 257 - l2 < (fu2 : Int) + 1) (iM : I n M) (kM : Keep n W_X9_isTogether Me M) : wp (mX9_isTogether_28 k2 126 l1 l2 M) (fun q => I n q.2 ∧ Keep n W_X9_isTogether Me q.2 ∧ (0 ≤ q.1 ∧ q.1 ≤ 1) ∧ True) := by
  have hn : (169 : Int) ≤ (n : Int) := by have := iM.2.2.2.2.1; omega
  unfold mX9_isTogether_28
  have w1_ := wI_id (x := (l2 + 1)) (by omega) (by omega)
  exact hk2 _ _ _ ⟨by omega, by omega⟩ ⟨by omega, by omega⟩ (by omega) iM kM
theorem sb_X9_isTogether_2 {n : Nat} {Me : Mem} {k2 : Int → Int → Int → Mem → Option (Int × Mem)} {fu2 : Nat} (hk2 : ∀ (l1 l2 : Int) (M : Mem), (0 ≤ l1 ∧ l1 ≤ 255) → (0 ≤ l2 ∧ l2 ≤ 256) → 257 - l2 < (fu2 : Int) → I n M → Keep n W_X9_isTogether Me M → wp (k2 126 l1 l2 M) (fun q => I n q.2 ∧ Keep n W_X9_isTogether Me q.2 ∧ (0 ≤ q.1 ∧ q.1 ≤ 1) ∧ True)) {l1 l2 : Int} {M : Mem} (r_l1 : 0 ≤ l1 ∧ l1 ≤ 255) (r_l2 : 0 ≤ l2 ∧ l2 ≤ 256) (hf2 : 257 - l2 < (fu2 : Int) + 1) (iM : I n M) (kM : Keep n W_X9_isTogether Me M) : wp (bX9_isTogether_2 k2 126 l1 l2 M) (fun q => I n q.2 ∧ Keep n W_X9_isTogether Me q.2 ∧ (0 ≤ q.1 ∧ q.1 ≤ 1) ∧ True) := by
  have hn : (169 : Int) ≤ (n : Int) := by have := iM.2.2.2.2.1; omega
  unfold bX9_isTogether_2
  refine w_if (fun c1_ => ?_) (fun c1_ => ?_)
  · skip
    exact w_ret ⟨iM, kM, (show 0 ≤ 0 ∧ 0 ≤ 1 from ⟨by omega, by omega⟩), trivial⟩
  · skip
    refine w_gFc (ji := 55) rfl (congrArg Prod.fst (kl_126 iM)) (show mG M 126 55 = 163 from rd_Model_55 iM (a := 126) rfl) ?_
    refine w_aG (kl_163 iM) (by omega) (by omega) (fun a14 ha14 => ?_)
    have ra14 : 0 ≤ a14 ∧ a14 ≤ 1 := ha14.tr (P := fun z => 0 ≤ z ∧ z ≤ 1) (rd_Mtogether iM rfl)
    refine w_if (fun c2_ => ?_) (fun c2_ => ?_)
    · skip
      exact s_X9_isTogether_28 hk2 ⟨by omega, by omega⟩ ⟨by omega, by omega⟩ (by omega) iM kM
    · skip
      have w3_ := ixor_in l2 (-1)
      have w4_ := iand_l (x := l1) (y := (ixor l2 (-1))) (by omega) (by omega)
      refine w_if (fun c6_ => ?_) (fun c6_ => ?_)
      · skip
        exact w_ret ⟨iM, kM, (show 0 ≤ 1 ∧ 1 ≤ 1 from ⟨by omega, by omega⟩), trivial⟩
      · skip
        exact s_X9_isTogether_28 hk2 ⟨by omega, by omega⟩ ⟨by omega, by omega⟩ (by omega) iM kM
theorem s_X9_isTogether_2 {n : Nat} {Me : Mem} : ∀ (fu : Nat) (l1 l2 : Int) (M : Mem), (0 ≤ l1 ∧ l1 ≤ 255) → (0 ≤ l2 ∧ l2 ≤ 256) → 257 - l2 < (fu : Int) → I n M → Keep n W_X9_isTogether Me M → wp (mX9_isTogether_2 fu 126 l1 l2 M) (fun q => I n q.2 ∧ Keep n W_X9_isTogether Me q.2 ∧ (0 ≤ q.1 ∧ q.1 ≤ 1) ∧ True) := by
  intro fu
  induction fu with
  | zero =>
    intro l1 l2 M r_l1 r_l2 hf iM kM
    exfalso
    omega
  | succ fu ih =>
    intro l1 l2 M r_l1 r_l2 hf iM kM
    exact sb_X9_isTogether_2 ih r_l1 r_l2 (by have e : ((fu + 1 : Nat) : Int) = (fu : Int) + 1 := rfl; rw [e] at hf; exact hf) iM kM
theorem s_X9_isTogether {n : Nat} {l1 : Int} {M : Mem} (r_l1 : 0 ≤ l1 ∧ l1 ≤ 255) (iM : I n M) : wp (mX9_isTogether 126 l1 M) (fun q => I n q.2 ∧ Keep n W_X9_isTogether M q.2 ∧ (0 ≤ q.1 ∧ q.1 ≤ 1) ∧ True) := by
  have hn : (169 : Int) ≤ (n : Int) := by have := iM.2.2.2.2.1; omega
  have kM : Keep n W_X9_isTogether M M := Keep.rf
  unfold mX9_isTogether
  exact s_X9_isTogether_2 FU _ _ _ ⟨by omega, by omega⟩ ⟨by omega, by omega⟩ (by show _ < (70000 : Int); omega) iM kM
def W_X9_isLessRow (b j : Int) : Prop := False
theorem s_X9_isLessRow {n : Nat} {l0 l1 : Int} {M : Mem} (r_l0 : 0 ≤ l0 ∧ l0 ≤ 255) (r_l1 : (-1) ≤ l1 ∧ l1 ≤ 255) (iM : I n M) : wp (mX9_isLessRow l0 l1 M) (fun q => I n q.2 ∧ Keep n W_X9_isLessRow M q.2 ∧ (0 ≤ q.1 ∧ q.1 ≤ 1) ∧ True) := by
  have hn : (169 : Int) ≤ (n : Int) := by have := iM.2.2.2.2.1; omega
  have kM : Keep n W_X9_isLessRow M M := Keep.rf
  unfold mX9_isLessRow
  have w1_ := ixor_in l0 l1
  have w2_ := iand_l (x := l0) (y := (ixor l0 l1)) (by omega) (by omega)
  have w4_ := And.intro (wI_lo (-(ixor l0 l1))) (wI_hi (-(ixor l0 l1)))
  have w5_ : ineg (ixor l0 l1) = wI (-(ixor l0 l1)) := rfl
  have w6_ := iand_l (x := (iand l0 (ixor l0 l1))) (y := (ineg (ixor l0 l1))) (by omega) (by omega)
  refine w_if (fun c8_ => ?_) (fun c8_ => ?_)
  · skip
    exact w_ret ⟨iM, kM, (show 0 ≤ 0 ∧ 0 ≤ 1 from ⟨by omega, by omega⟩), trivial⟩
  · skip
    exact w_ret ⟨iM, kM, (show 0 ≤ 1 ∧ 1 ≤ 1 from ⟨by omega, by omega⟩), trivial⟩
def W_X9_fewestApart (b j : Int) : Prop := False
theorem s_X9_fewestApart_97 {n : Nat} {Me : Mem} {k13 : Int → Int → Int → Int → Int → Mem → Option (Int × Mem)} {fu13 : Nat} (hk13 : ∀ (l1 l2 l3 l4 : Int) (M : Mem), (0 ≤ l1 ∧ l1 ≤ 4095) → ((-1) ≤ l2 ∧ l2 ≤ 255) → ((-2147483648) ≤ l3 ∧ l3 ≤ 9) → (0 ≤ l4 ∧ l4 ≤ 256) → 257 - l4 < (fu13 : Int) → I n M → Keep n W_X9_fewestApart Me M → wp (k13 126 l1 l2 l3 l4 M) (fun q => I n q.2 ∧ Keep n W_X9_fewestApart Me q.2 ∧ ((-1) ≤ q.1 ∧ q.1 ≤ 255) ∧ True)) {l1 l2 l3 l4 : Int} {M : Mem} (r_l1 : 0 ≤ l1 ∧ l1 ≤ 4095) (r_l2 : (-1) ≤ l2 ∧ l2 ≤ 255) (r_l3 : (-2147483648) ≤ l3 ∧ l3 ≤ 9) (r_l4 : 0 ≤ l4 ∧ l4 ≤ 255) (hf13 : 257 - l4 < (fu13 : Int) + 1) (iM : I n M) (kM : Keep n W_X9_fewestApart Me M) : wp (mX9_fewestApart_97 k13 126 l1 l2 l3 l4 M) (fun q => I n q.2 ∧ Keep n W_X9_fewestApart Me q.2 ∧ ((-1) ≤ q.1 ∧ q.1 ≤ 255) ∧ True) := by
  have hn : (169 : Int) ≤ (n : Int) := by have := iM.2.2.2.2.1; omega
  unfold mX9_fewestApart_97
  have w1_ := wI_id (x := (l4 + 1)) (by omega) (by omega)
  exact hk13 _ _ _ _ _ ⟨by omega, by omega⟩ ⟨by omega, by omega⟩ ⟨by omega, by omega⟩ ⟨by omega, by omega⟩ (by omega) iM kM
theorem s_X9_fewestApart_91 {n : Nat} {Me : Mem} {k13 : Int → Int → Int → Int → Int → Mem → Option (Int × Mem)} {fu13 : Nat} (hk13 : ∀ (l1 l2 l3 l4 : Int) (M : Mem), (0 ≤ l1 ∧ l1 ≤ 4095) → ((-1) ≤ l2 ∧ l2 ≤ 255) → ((-2147483648) ≤ l3 ∧ l3 ≤ 9) → (0 ≤ l4 ∧ l4 ≤ 256) → 257 - l4 < (fu13 : Int) → I n M → Keep n W_X9_fewestApart Me M → wp (k13 126 l1 l2 l3 l4 M) (fun q => I n q.2 ∧ Keep n W_X9_fewestApart Me q.2 ∧ ((-1) ≤ q.1 ∧ q.1 ≤ 255) ∧ True)) {l1 l4 l5 : Int} {M : Mem} (r_l1 : 0 ≤ l1 ∧ l1 ≤ 4095) (r_l4 : 0 ≤ l4 ∧ l4 ≤ 255) (r_l5 : (-2147483648) ≤ l5 ∧ l5 ≤ 9) (hf13 : 257 - l4 < (fu13 : Int) + 1) (iM : I n M) (kM : Keep n W_X9_fewestApart Me M) : wp (mX9_fewestApart_91 k13 126 l1 l4 l5 M) (fun q => I n q.2 ∧ Keep n W_X9_fewestApart Me q.2 ∧ ((-1) ≤ q.1 ∧ q.1 ≤ 255) ∧ True) := by
  have hn : (169 : Int) ≤ (n : Int) := by have := iM.2.2.2.2.1; omega
  unfold mX9_fewestApart_91
  exact s_X9_fewestApart_97 hk13 ⟨by omega, by omega⟩ ⟨by omega, by omega⟩ ⟨by omega, by omega⟩ ⟨by omega, by omega⟩ (by omega) iM kM
theorem sb_X9_fewestApart_27 {n : Nat} {Me : Mem} {k13 : Int → Int → Int → Int → Int → Mem → Option (Int × Mem)} {fu13 : Nat} (hk13 : ∀ (l1 l2 l3 l4 : Int) (M : Mem), (0 ≤ l1 ∧ l1 ≤ 4095) → ((-1) ≤ l2 ∧ l2 ≤ 255) → ((-2147483648) ≤ l3 ∧ l3 ≤ 9) → (0 ≤ l4 ∧ l4 ≤ 256) → 257 - l4 < (fu13 : Int) → I n M → Keep n W_X9_fewestApart Me M → wp (k13 126 l1 l2 l3 l4 M) (fun q => I n q.2 ∧ Keep n W_X9_fewestApart Me q.2 ∧ ((-1) ≤ q.1 ∧ q.1 ≤ 255) ∧ True)) {k27 : Int → Int → Int → Int → Int → Int → Int → Mem → Option (Int × Mem)} {fu27 : Nat} (hk27 : ∀ (l1 l2 l3 l4 l5 l6 : Int) (M : Mem), (0 ≤ l1 ∧ l1 ≤ 4095) → ((-1) ≤ l2 ∧ l2 ≤ 255) → ((-2147483648) ≤ l3 ∧ l3 ≤ 9) → (0 ≤ l4 ∧ l4 ≤ 255) → ((-2147483648) ≤ l5 ∧ l5 ≤ 2147483647) → (0 ≤ l6 ∧ l6 ≤ 8) → 257 - l4 < (fu13 : Int) + 1 → 9 - l6 < (fu27 : Int) → I n M → Keep n W_X9_fewestApart Me M → wp (k27 126 l1 l2 l3 l4 l5 l6 M) (fun q => I n q.2 ∧ Keep n W_X9_fewestApart Me q.2 ∧ ((-1) ≤ q.1 ∧ q.1 ≤ 255) ∧ True)) {l1 l2 l3 l4 l5 l6 : Int} {M : Mem} (r_l1 : 0 ≤ l1 ∧ l1 ≤ 4095) (r_l2 : (-1) ≤ l2 ∧ l2 ≤ 255) (r_l3 : (-2147483648) ≤ l3 ∧ l3 ≤ 9) (r_l4 : 0 ≤ l4 ∧ l4 ≤ 255) (r_l5 : (-2147483648) ≤ l5 ∧ l5 ≤ 2147483647) (r_l6 : 0 ≤ l6 ∧ l6 ≤ 8) (hf13 : 257 - l4 < (fu13 : Int) + 1) (hf27 : 9 - l6 < (fu27 : Int) + 1) (iM : I n M) (kM : Keep n W_X9_fewestApart Me M) : wp (bX9_fewestApart_27 k13 k27 126 l1 l2 l3 l4 l5 l6 M) (fun q => I n q.2 ∧ Keep n W_X9_fewestApart Me q.2 ∧ ((-1) ≤ q.1 ∧ q.1 ≤ 255) ∧ True) := by
  have hn : (169 : Int) ≤ (n : Int) := by have := iM.2.2.2.2.1; omega
  unfold bX9_fewestApart_27
  refine w_if (fun c1_ => ?_) (fun c1_ => ?_)
  · skip
    have w2_ := ixor_in l1 (-1)
    have w3_ := iand_l (x := l4) (y := (ixor l1 (-1))) (by omega) (by omega)
    refine w_if (fun c5_ => ?_) (fun c5_ => ?_)
    · skip
      refine w_if (fun c6_ => ?_) (fun c6_ => ?_)
      · skip
        exact s_X9_fewestApart_97 hk13 ⟨by omega, by omega⟩ ⟨by omega, by omega⟩ ⟨by omega, by omega⟩ ⟨by omega, by omega⟩ (by omega) iM kM
      · skip
        refine w_gK (congrArg Prod.fst (kl_126 iM)) ?_
        refine w_call (s_X9_isTogether ⟨by omega, by omega⟩ iM) ?_
        intro v70 m70 pp70
        obtain ⟨im70, kk70, e70_0, -⟩ := pp70
        try dsimp only
        replace im70 : I n m70 := im70
        replace kk70 : Keep n W_X9_isTogether M m70 := kk70
        have km70 : Keep n W_X9_fewestApart Me m70 := kM.tr kk70 (fun b j z => z.elim)
        replace e70_0 : 0 ≤ v70 ∧ v70 ≤ 1 := e70_0
        refine w_if (fun c7_ => ?_) (fun c7_ => ?_)
        · skip
          refine w_if (fun c8_ => ?_) (fun c8_ => ?_)
          · skip
            exact s_X9_fewestApart_91 hk13 ⟨by omega, by omega⟩ ⟨by omega, by omega⟩ ⟨by omega, by omega⟩ (by omega) im70 km70
          · skip
            refine w_call (s_X9_isLessRow ⟨by omega, by omega⟩ ⟨by omega, by omega⟩ im70) ?_
            intro v85 m85 pp85
            obtain ⟨im85, kk85, e85_0, -⟩ := pp85
            try dsimp only
            replace im85 : I n m85 := im85
            replace kk85 : Keep n W_X9_isLessRow m70 m85 := kk85
            have km85 : Keep n W_X9_fewestApart Me m85 := km70.tr kk85 (fun b j z => z.elim)
            replace e85_0 : 0 ≤ v85 ∧ v85 ≤ 1 := e85_0
            refine w_if (fun c9_ => ?_) (fun c9_ => ?_)
            · skip
              exact s_X9_fewestApart_97 hk13 ⟨by omega, by omega⟩ ⟨by omega, by omega⟩ ⟨by omega, by omega⟩ ⟨by omega, by omega⟩ (by omega) im85 km85
            · skip
              exact s_X9_fewestApart_91 hk13 ⟨by omega, by omega⟩ ⟨by omega, by omega⟩ ⟨by omega, by omega⟩ (by omega) im85 km85
        · skip
          exact s_X9_fewestApart_97 hk13 ⟨by omega, by omega⟩ ⟨by omega, by omega⟩ ⟨by omega, by omega⟩ ⟨by omega, by omega⟩ (by omega) im70 km70
    · skip
      exact s_X9_fewestApart_97 hk13 ⟨by omega, by omega⟩ ⟨by omega, by omega⟩ ⟨by omega, by omega⟩ ⟨by omega, by omega⟩ (by omega) iM kM
  · skip
    have w10_ := ishr_b (x := l4) (k := l6) (by omega) (by omega) (by omega) (by omega)
    have w11_ := iand_l (x := (ishr l4 l6)) (y := 1) (by omega) (by omega)
    have w12_ := iand_r (x := (ishr l4 l6)) (y := 1) (by omega) (by omega)
    have w13_ := And.intro (wI_lo (l5 + (iand (ishr l4 l6) 1))) (wI_hi (l5 + (iand (ishr l4 l6) 1)))
    refine w_some (fun b44 hb44 => ?_)
    replace hb44 : b44 = (wI (l5 + (iand (ishr l4 l6) 1))) := hb44
    have w14_ := wI_id (x := (l6 + 1)) (by omega) (by omega)
    exact hk27 _ _ _ _ _ _ _ ⟨by omega, by omega⟩ ⟨by omega, by omega⟩ ⟨by omega, by omega⟩ ⟨by omega, by omega⟩ ⟨by omega, by omega⟩ ⟨by omega, by omega⟩ (by omega) (by omega) iM kM
theorem s_X9_fewestApart_27 {n : Nat} {Me : Mem} {k13 : Int → Int → Int → Int → Int → Mem → Option (Int × Mem)} {fu13 : Nat} (hk13 : ∀ (l1 l2 l3 l4 : Int) (M : Mem), (0 ≤ l1 ∧ l1 ≤ 4095) → ((-1) ≤ l2 ∧ l2 ≤ 255) → ((-2147483648) ≤ l3 ∧ l3 ≤ 9) → (0 ≤ l4 ∧ l4 ≤ 256) → 257 - l4 < (fu13 : Int) → I n M → Keep n W_X9_fewestApart Me M → wp (k13 126 l1 l2 l3 l4 M) (fun q => I n q.2 ∧ Keep n W_X9_fewestApart Me q.2 ∧ ((-1) ≤ q.1 ∧ q.1 ≤ 255) ∧ True)) : ∀ (fu : Nat) (l1 l2 l3 l4 l5 l6 : Int) (M : Mem), (0 ≤ l1 ∧ l1 ≤ 4095) → ((-1) ≤ l2 ∧ l2 ≤ 255) → ((-2147483648) ≤ l3 ∧ l3 ≤ 9) → (0 ≤ l4 ∧ l4 ≤ 255) → ((-2147483648) ≤ l5 ∧ l5 ≤ 2147483647) → (0 ≤ l6 ∧ l6 ≤ 8) → 257 - l4 < (fu13 : Int) + 1 → 9 - l6 < (fu : Int) → I n M → Keep n W_X9_fewestApart Me M → wp (mX9_fewestApart_27 k13 fu 126 l1 l2 l3 l4 l5 l6 M) (fun q => I n q.2 ∧ Keep n W_X9_fewestApart Me q.2 ∧ ((-1) ≤ q.1 ∧ q.1 ≤ 255) ∧ True) := by
  intro fu
  induction fu with
  | zero =>
    intro l1 l2 l3 l4 l5 l6 M r_l1 r_l2 r_l3 r_l4 r_l5 r_l6 hf13 hf iM kM
    exfalso
    omega
  | succ fu ih =>
    intro l1 l2 l3 l4 l5 l6 M r_l1 r_l2 r_l3 r_l4 r_l5 r_l6 hf13 hf iM kM
    exact sb_X9_fewestApart_27 hk13 ih r_l1 r_l2 r_l3 r_l4 r_l5 r_l6 hf13 (by have e : ((fu + 1 : Nat) : Int) = (fu : Int) + 1 := rfl; rw [e] at hf; exact hf) iM kM
theorem sb_X9_fewestApart_13 {n : Nat} {Me : Mem} {k13 : Int → Int → Int → Int → Int → Mem → Option (Int × Mem)} {fu13 : Nat} (hk13 : ∀ (l1 l2 l3 l4 : Int) (M : Mem), (0 ≤ l1 ∧ l1 ≤ 4095) → ((-1) ≤ l2 ∧ l2 ≤ 255) → ((-2147483648) ≤ l3 ∧ l3 ≤ 9) → (0 ≤ l4 ∧ l4 ≤ 256) → 257 - l4 < (fu13 : Int) → I n M → Keep n W_X9_fewestApart Me M → wp (k13 126 l1 l2 l3 l4 M) (fun q => I n q.2 ∧ Keep n W_X9_fewestApart Me q.2 ∧ ((-1) ≤ q.1 ∧ q.1 ≤ 255) ∧ True)) {l1 l2 l3 l4 : Int} {M : Mem} (r_l1 : 0 ≤ l1 ∧ l1 ≤ 4095) (r_l2 : (-1) ≤ l2 ∧ l2 ≤ 255) (r_l3 : (-2147483648) ≤ l3 ∧ l3 ≤ 9) (r_l4 : 0 ≤ l4 ∧ l4 ≤ 256) (hf13 : 257 - l4 < (fu13 : Int) + 1) (iM : I n M) (kM : Keep n W_X9_fewestApart Me M) : wp (bX9_fewestApart_13 k13 126 l1 l2 l3 l4 M) (fun q => I n q.2 ∧ Keep n W_X9_fewestApart Me q.2 ∧ ((-1) ≤ q.1 ∧ q.1 ≤ 255) ∧ True) := by
  have hn : (169 : Int) ≤ (n : Int) := by have := iM.2.2.2.2.1; omega
  unfold bX9_fewestApart_13
  refine w_if (fun c1_ => ?_) (fun c1_ => ?_)
  · skip
    exact w_ret ⟨iM, kM, (show (-1) ≤ l2 ∧ l2 ≤ 255 from ⟨by omega, by omega⟩), trivial⟩
  · skip
    exact s_X9_fewestApart_27 hk13 FU _ _ _ _ _ _ _ ⟨by omega, by omega⟩ ⟨by omega, by omega⟩ ⟨by omega, by omega⟩ ⟨by omega, by omega⟩ ⟨by omega, by omega⟩ ⟨by omega, by omega⟩ (by omega) (by show _ < (70000 : Int); omega) iM kM
theorem s_X9_fewestApart_13 {n : Nat} {Me : Mem} : ∀ (fu : Nat) (l1 l2 l3 l4 : Int) (M : Mem), (0 ≤ l1 ∧ l1 ≤ 4095) → ((-1) ≤ l2 ∧ l2 ≤ 255) → ((-2147483648) ≤ l3 ∧ l3 ≤ 9) → (0 ≤ l4 ∧ l4 ≤ 256) → 257 - l4 < (fu : Int) → I n M → Keep n W_X9_fewestApart Me M → wp (mX9_fewestApart_13 fu 126 l1 l2 l3 l4 M) (fun q => I n q.2 ∧ Keep n W_X9_fewestApart Me q.2 ∧ ((-1) ≤ q.1 ∧ q.1 ≤ 255) ∧ True) := by
  intro fu
  induction fu with
  | zero =>
    intro l1 l2 l3 l4 M r_l1 r_l2 r_l3 r_l4 hf iM kM
    exfalso
    omega
  | succ fu ih =>
    intro l1 l2 l3 l4 M r_l1 r_l2 r_l3 r_l4 hf iM kM
    exact sb_X9_fewestApart_13 ih r_l1 r_l2 r_l3 r_l4 (by have e : ((fu + 1 : Nat) : Int) = (fu : Int) + 1 := rfl; rw [e] at hf; exact hf) iM kM
theorem s_X9_fewestApart {n : Nat} {M : Mem} (iM : I n M) : wp (mX9_fewestApart 126 M) (fun q => I n q.2 ∧ Keep n W_X9_fewestApart M q.2 ∧ ((-1) ≤ q.1 ∧ q.1 ≤ 255) ∧ True) := by
  have hn : (169 : Int) ≤ (n : Int) := by have := iM.2.2.2.2.1; omega
  have kM : Keep n W_X9_fewestApart M M := Keep.rf
  unfold mX9_fewestApart
  refine w_gK (congrArg Prod.fst (kl_126 iM)) ?_
  refine w_call (s_X9_told iM) ?_
  intro v1 m1 pp1
  obtain ⟨im1, kk1, e1_0, -⟩ := pp1
  try dsimp only
  replace im1 : I n m1 := im1
  replace kk1 : Keep n W_X9_told M m1 := kk1
  have km1 : Keep n W_X9_fewestApart M m1 := kM.tr kk1 (fun b j z => z.elim)
  replace e1_0 : 0 ≤ v1 ∧ v1 ≤ 4095 := e1_0
  exact s_X9_fewestApart_13 FU _ _ _ _ _ ⟨by omega, by omega⟩ ⟨by omega, by omega⟩ ⟨by omega, by omega⟩ ⟨by omega, by omega⟩ (by show _ < (70000 : Int); omega) im1 km1
def W_X9_numberIn (b j : Int) : Prop := False
theorem s_X9_numberIn_33 {n : Nat} {Me : Mem} {k4 : Int → Int → Int → Int → Mem → Option (Int × Mem)} {fu4 : Nat} (hk4 : ∀ (l0 l1 l2 l3 : Int) (M : Mem), ((-1) ≤ l0 ∧ l0 ≤ 255) → ((-2147483648) ≤ l1 ∧ l1 ≤ 2147483647) → ((-2147483648) ≤ l2 ∧ l2 ≤ 2147483647) → (0 ≤ l3 ∧ l3 ≤ 8) → 9 - l3 < (fu4 : Int) → I n M → Keep n W_X9_numberIn Me M → wp (k4 l0 l1 l2 l3 M) (fun q => I n q.2 ∧ Keep n W_X9_numberIn Me q.2 ∧ ((-1) ≤ q.1 ∧ q.1 ≤ 7) ∧ True)) {l0 l1 l2 l3 : Int} {M : Mem} (r_l0 : 0 ≤ l0 ∧ l0 ≤ 255) (r_l1 : (-2147483648) ≤ l1 ∧ l1 ≤ 2147483647) (r_l2 : (-2147483648) ≤ l2 ∧ l2 ≤ 2147483647) (r_l3 : 0 ≤ l3 ∧ l3 ≤ 7) (hf4 : 9 - l3 < (fu4 : Int) + 1) (iM : I n M) (kM : Keep n W_X9_numberIn Me M) : wp (mX9_numberIn_33 k4 l0 l1 l2 l3 M) (fun q => I n q.2 ∧ Keep n W_X9_numberIn Me q.2 ∧ ((-1) ≤ q.1 ∧ q.1 ≤ 7) ∧ True) := by
  have hn : (169 : Int) ≤ (n : Int) := by have := iM.2.2.2.2.1; omega
  unfold mX9_numberIn_33
  have w1_ := wI_id (x := (l3 + 1)) (by omega) (by omega)
  exact hk4 _ _ _ _ _ ⟨by omega, by omega⟩ ⟨by omega, by omega⟩ ⟨by omega, by omega⟩ ⟨by omega, by omega⟩ (by omega) iM kM
theorem sb_X9_numberIn_4 {n : Nat} {Me : Mem} {k4 : Int → Int → Int → Int → Mem → Option (Int × Mem)} {fu4 : Nat} (hk4 : ∀ (l0 l1 l2 l3 : Int) (M : Mem), ((-1) ≤ l0 ∧ l0 ≤ 255) → ((-2147483648) ≤ l1 ∧ l1 ≤ 2147483647) → ((-2147483648) ≤ l2 ∧ l2 ≤ 2147483647) → (0 ≤ l3 ∧ l3 ≤ 8) → 9 - l3 < (fu4 : Int) → I n M → Keep n W_X9_numberIn Me M → wp (k4 l0 l1 l2 l3 M) (fun q => I n q.2 ∧ Keep n W_X9_numberIn Me q.2 ∧ ((-1) ≤ q.1 ∧ q.1 ≤ 7) ∧ True)) {l0 l1 l2 l3 : Int} {M : Mem} (r_l0 : (-1) ≤ l0 ∧ l0 ≤ 255) (r_l1 : (-2147483648) ≤ l1 ∧ l1 ≤ 2147483647) (r_l2 : (-2147483648) ≤ l2 ∧ l2 ≤ 2147483647) (r_l3 : 0 ≤ l3 ∧ l3 ≤ 8) (hf4 : 9 - l3 < (fu4 : Int) + 1) (iM : I n M) (kM : Keep n W_X9_numberIn Me M) : wp (bX9_numberIn_4 k4 l0 l1 l2 l3 M) (fun q => I n q.2 ∧ Keep n W_X9_numberIn Me q.2 ∧ ((-1) ≤ q.1 ∧ q.1 ≤ 7) ∧ True) := by
  have hn : (169 : Int) ≤ (n : Int) := by have := iM.2.2.2.2.1; omega
  unfold bX9_numberIn_4
  refine w_if (fun c1_ => ?_) (fun c1_ => ?_)
  · skip
    exact w_ret ⟨iM, kM, (show (-1) ≤ (-1) ∧ (-1) ≤ 7 from ⟨by omega, by omega⟩), trivial⟩
  · skip
    refine w_if (fun c2_ => ?_) (fun c2_ => ?_)
    · skip
      exact w_ret ⟨iM, kM, (show (-1) ≤ (-1) ∧ (-1) ≤ 7 from ⟨by omega, by omega⟩), trivial⟩
    · skip
      have w3_ := ishr_b (x := l0) (k := l3) (by omega) (by omega) (by omega) (by omega)
      have w4_ := iand_l (x := (ishr l0 l3)) (y := 1) (by omega) (by omega)
      have w5_ := iand_r (x := (ishr l0 l3)) (y := 1) (by omega) (by omega)
      refine w_if (fun c6_ => ?_) (fun c6_ => ?_)
      · skip
        exact s_X9_numberIn_33 hk4 ⟨by omega, by omega⟩ ⟨by omega, by omega⟩ ⟨by omega, by omega⟩ ⟨by omega, by omega⟩ (by omega) iM kM
      · skip
        refine w_if (fun c7_ => ?_) (fun c7_ => ?_)
        · skip
          exact w_ret ⟨iM, kM, (show (-1) ≤ l3 ∧ l3 ≤ 7 from ⟨by omega, by omega⟩), trivial⟩
        · skip
          have w8_ := And.intro (wI_lo (l2 + 1)) (wI_hi (l2 + 1))
          exact s_X9_numberIn_33 hk4 ⟨by omega, by omega⟩ ⟨by omega, by omega⟩ ⟨by omega, by omega⟩ ⟨by omega, by omega⟩ (by omega) iM kM
theorem s_X9_numberIn_4 {n : Nat} {Me : Mem} : ∀ (fu : Nat) (l0 l1 l2 l3 : Int) (M : Mem), ((-1) ≤ l0 ∧ l0 ≤ 255) → ((-2147483648) ≤ l1 ∧ l1 ≤ 2147483647) → ((-2147483648) ≤ l2 ∧ l2 ≤ 2147483647) → (0 ≤ l3 ∧ l3 ≤ 8) → 9 - l3 < (fu : Int) → I n M → Keep n W_X9_numberIn Me M → wp (mX9_numberIn_4 fu l0 l1 l2 l3 M) (fun q => I n q.2 ∧ Keep n W_X9_numberIn Me q.2 ∧ ((-1) ≤ q.1 ∧ q.1 ≤ 7) ∧ True) := by
  intro fu
  induction fu with
  | zero =>
    intro l0 l1 l2 l3 M r_l0 r_l1 r_l2 r_l3 hf iM kM
    exfalso
    omega
  | succ fu ih =>
    intro l0 l1 l2 l3 M r_l0 r_l1 r_l2 r_l3 hf iM kM
    exact sb_X9_numberIn_4 ih r_l0 r_l1 r_l2 r_l3 (by have e : ((fu + 1 : Nat) : Int) = (fu : Int) + 1 := rfl; rw [e] at hf; exact hf) iM kM
theorem s_X9_numberIn {n : Nat} {l0 l1 : Int} {M : Mem} (r_l0 : (-1) ≤ l0 ∧ l0 ≤ 255) (r_l1 : (-2147483648) ≤ l1 ∧ l1 ≤ 2147483647) (iM : I n M) : wp (mX9_numberIn l0 l1 M) (fun q => I n q.2 ∧ Keep n W_X9_numberIn M q.2 ∧ ((-1) ≤ q.1 ∧ q.1 ≤ 7) ∧ True) := by
  have hn : (169 : Int) ≤ (n : Int) := by have := iM.2.2.2.2.1; omega
  have kM : Keep n W_X9_numberIn M M := Keep.rf
  unfold mX9_numberIn
  exact s_X9_numberIn_4 FU _ _ _ _ _ ⟨by omega, by omega⟩ ⟨by omega, by omega⟩ ⟨by omega, by omega⟩ ⟨by omega, by omega⟩ (by show _ < (70000 : Int); omega) iM kM
def W_X9_core (b j : Int) : Prop := (152 ≤ b ∧ b ≤ 154) ∨ (160 ≤ b ∧ b ≤ 161) ∨ b = 163 ∨ (b = 126 ∧ j = 0) ∨ (b = 126 ∧ j = 46) ∨ (b = 126 ∧ j = 49) ∨ (b = 126 ∧ j = 50)
theorem s_X9_core {n : Nat} {l1 : Int} {M : Mem} (r_l1 : (-2147483648) ≤ l1 ∧ l1 ≤ 2147483647) (p_WF : WF M) (iM : I n M) : wp (mX9_core 126 l1 M) (fun q => I n q.2 ∧ Keep n W_X9_core M q.2 ∧ ((-1) ≤ q.1 ∧ q.1 ≤ 7) ∧ True) := by
  have hn : (169 : Int) ≤ (n : Int) := by have := iM.2.2.2.2.1; omega
  have kM : Keep n W_X9_core M M := Keep.rf
  unfold mX9_core
  refine w_pF (ji := 0) rfl (congrArg Prod.fst (kl_126 iM)) (fun M2 hM2 => ?_)
  replace hM2 : M2 = mS M 126 0 0 := hM2
  have iM2 : I n M2 := wr_Model_0 iM rfl ⟨by omega, by omega⟩ hM2
  have kM2 : Keep n W_X9_core M M2 := kM.st hM2 (Or.inl (Or.inr (Or.inr (Or.inr (Or.inl ⟨rfl, rfl⟩)))))
  refine w_gK (congrArg Prod.fst (kl_126 iM2)) ?_
  refine w_call (s_X9_canTell iM2) ?_
  intro v6 m6 pp6
  obtain ⟨im6, kk6, e6_0, e6_1, e6_2, e6_3, -⟩ := pp6
  try dsimp only
  replace im6 : I n m6 := im6
  replace kk6 : Keep n W_X9_canTell M2 m6 := kk6
  have km6 : Keep n W_X9_core M m6 := kM2.tr kk6 (fun b j z => by unfold W_X9_canTell at z; exact (Or.inl ⟨by omega, by omega⟩))
  replace e6_0 : 0 ≤ v6 ∧ v6 ≤ 1 := e6_0
  replace e6_1 : NP m6 := e6_1
  have gNP_m6 := e6_1
  replace e6_2 : SF m6 := e6_2
  have gSF_m6 := e6_2
  replace e6_3 : v6 = 1 → F12 m6 := e6_3
  have ev6 := e6_3
  refine w_if (fun c1_ => ?_) (fun c1_ => ?_)
  · skip
    exact w_ret ⟨im6, km6, (show (-1) ≤ (-1) ∧ (-1) ≤ 7 from ⟨by omega, by omega⟩), trivial⟩
  · skip
    have pF12_c1__m6 : F12 m6 := ev6 (by omega)
    refine w_gK (congrArg Prod.fst (kl_126 im6)) ?_
    have ppWF_m6 : WF m6 := (WF_of (WF_of p_WF (fun j => st_ne hM2 (fun z => ne_fam rfl rfl (by decide) z.1)) (fun j => st_ne hM2 (fun z => ne_fam rfl rfl (by decide) z.1)) (fun j => st_ne hM2 (fun z => ne_fam rfl rfl (by decide) z.1)) (fun j => st_ne hM2 (fun z => ne_fam rfl rfl (by decide) z.1)) (fun j => st_ne hM2 (fun z => ne_fam rfl rfl (by decide) z.1))) (fun j => kk6.2.2 141 j (by omega) (fun z => by unfold W_X9_canTell at z; (try unfold isWS at z); (try unfold isShape at z); (try unfold isTold at z); (try dsimp only at z); omega)) (fun j => kk6.2.2 142 j (by omega) (fun z => by unfold W_X9_canTell at z; (try unfold isWS at z); (try unfold isShape at z); (try unfold isTold at z); (try dsimp only at z); omega)) (fun j => kk6.2.2 143 j (by omega) (fun z => by unfold W_X9_canTell at z; (try unfold isWS at z); (try unfold isShape at z); (try unfold isTold at z); (try dsimp only at z); omega)) (fun j => kk6.2.2 144 j (by omega) (fun z => by unfold W_X9_canTell at z; (try unfold isWS at z); (try unfold isShape at z); (try unfold isTold at z); (try dsimp only at z); omega)) (fun j => kk6.2.2 138 j (by omega) (fun z => by unfold W_X9_canTell at z; (try unfold isWS at z); (try unfold isShape at z); (try unfold isTold at z); (try dsimp only at z); omega)))
    refine w_call (s_X9_findTogether ⟨by omega, by omega⟩ ⟨by omega, by omega⟩ pF12_c1__m6 gNP_m6 ppWF_m6 im6) ?_
    intro v17 m17 pp17
    obtain ⟨im17, kk17, -⟩ := pp17
    try dsimp only
    replace im17 : I n m17 := im17
    replace kk17 : Keep n W_X9_findTogether m6 m17 := kk17
    have km17 : Keep n W_X9_core M m17 := km6.tr kk17 (fun b j z => Or.elim z (fun z => (Or.inl ⟨by omega, by omega⟩)) (fun z => Or.elim z (fun z => (Or.inr (Or.inl z))) (fun z => Or.elim z (fun z => (Or.inr (Or.inr (Or.inl z)))) (fun z => Or.elim z (fun z => (Or.inr (Or.inr (Or.inr (Or.inr (Or.inl z)))))) (fun z => Or.elim z (fun z => (Or.inr (Or.inr (Or.inr (Or.inr (Or.inr (Or.inl z))))))) (fun z => (Or.inr (Or.inr (Or.inr (Or.inr (Or.inr (Or.inr z))))))))))))
    refine w_gK (congrArg Prod.fst (kl_126 im17)) ?_
    refine w_call (s_X9_fewestApart im17) ?_
    intro v21 m21 pp21
    obtain ⟨im21, kk21, e21_0, -⟩ := pp21
    try dsimp only
    replace im21 : I n m21 := im21
    replace kk21 : Keep n W_X9_fewestApart m17 m21 := kk21
    have km21 : Keep n W_X9_core M m21 := km17.tr kk21 (fun b j z => z.elim)
    replace e21_0 : (-1) ≤ v21 ∧ v21 ≤ 255 := e21_0
    refine w_call (s_X9_numberIn ⟨by omega, by omega⟩ ⟨by omega, by omega⟩ im21) ?_
    intro v27 m27 pp27
    obtain ⟨im27, kk27, e27_0, -⟩ := pp27
    try dsimp only
    replace im27 : I n m27 := im27
    replace kk27 : Keep n W_X9_numberIn m21 m27 := kk27
    have km27 : Keep n W_X9_core M m27 := km21.tr kk27 (fun b j z => z.elim)
    replace e27_0 : (-1) ≤ v27 ∧ v27 ≤ 7 := e27_0
    exact w_ret ⟨im27, km27, (show (-1) ≤ v27 ∧ v27 ≤ 7 from ⟨by omega, by omega⟩), trivial⟩
def W_X9_countFacts (b j : Int) : Prop := b = 154 ∨ (160 ≤ b ∧ b ≤ 161) ∨ b = 164 ∨ (b = 126 ∧ j = 46) ∨ (b = 126 ∧ j = 48) ∨ (b = 126 ∧ j = 49) ∨ (b = 126 ∧ j = 50) ∨ (b = 126 ∧ j = 57)
theorem s_X9_countFacts_99 {n : Nat} {Me : Mem} {k32 : Int → Int → Mem → Option (Int × Mem)} {fu32 : Nat} (hk32 : ∀ (l1 : Int) (M : Mem), (0 ≤ l1 ∧ l1 ≤ 4096) → (F12 M) → (NP M) → (WF M) → 4097 - l1 < (fu32 : Int) → I n M → Keep n W_X9_countFacts Me M → wp (k32 126 l1 M) (fun q => I n q.2 ∧ Keep n W_X9_countFacts Me q.2 ∧ True)) {l1 : Int} {M : Mem} (r_l1 : 0 ≤ l1 ∧ l1 ≤ 4095) (p_F12 : F12 M) (p_NP : NP M) (p_WF : WF M) (hf32 : 4097 - l1 < (fu32 : Int) + 1) (iM : I n M) (kM : Keep n W_X9_countFacts Me M) : wp (mX9_countFacts_99 k32 126 l1 M) (fun q => I n q.2 ∧ Keep n W_X9_countFacts Me q.2 ∧ True) := by
  have hn : (169 : Int) ≤ (n : Int) := by have := iM.2.2.2.2.1; omega
  unfold mX9_countFacts_99
  have w1_ := wI_id (x := (l1 + 1)) (by omega) (by omega)
  exact hk32 _ _ ⟨by omega, by omega⟩ p_F12 p_NP p_WF (by omega) iM kM
theorem s_X9_countFacts_91 {n : Nat} {Me : Mem} {k32 : Int → Int → Mem → Option (Int × Mem)} {fu32 : Nat} (hk32 : ∀ (l1 : Int) (M : Mem), (0 ≤ l1 ∧ l1 ≤ 4096) → (F12 M) → (NP M) → (WF M) → 4097 - l1 < (fu32 : Int) → I n M → Keep n W_X9_countFacts Me M → wp (k32 126 l1 M) (fun q => I n q.2 ∧ Keep n W_X9_countFacts Me q.2 ∧ True)) {k62 : Int → Int → Int → Mem → Option (Int × Mem)} {fu62 : Nat} (hk62 : ∀ (l1 l2 : Int) (M : Mem), (0 ≤ l1 ∧ l1 ≤ 4095) → (0 ≤ l2 ∧ l2 ≤ 12) → (F12 M) → (NP M) → (WF M) → 4097 - l1 < (fu32 : Int) + 1 → 13 - l2 < (fu62 : Int) → I n M → Keep n W_X9_countFacts Me M → wp (k62 126 l1 l2 M) (fun q => I n q.2 ∧ Keep n W_X9_countFacts Me q.2 ∧ True)) {l1 l2 s1 s2 s3 : Int} {M : Mem} (r_l1 : 0 ≤ l1 ∧ l1 ≤ 4095) (r_l2 : 0 ≤ l2 ∧ l2 ≤ 11) (r_s1 : 0 ≤ s1 ∧ s1 ≤ 11) (r_s2 : (-2147483648) ≤ s2 ∧ s2 ≤ 2147483647) (r_s3 : 0 ≤ s3 ∧ s3 ≤ 1) (p_F12 : F12 M) (p_NP : NP M) (p_WF : WF M) (hf32 : 4097 - l1 < (fu32 : Int) + 1) (hf62 : 13 - l2 < (fu62 : Int) + 1) (iM : I n M) (kM : Keep n W_X9_countFacts Me M) : wp (mX9_countFacts_91 k32 k62 126 l1 l2 164 s1 s2 s3 M) (fun q => I n q.2 ∧ Keep n W_X9_countFacts Me q.2 ∧ True) := by
  have hn : (169 : Int) ≤ (n : Int) := by have := iM.2.2.2.2.1; omega
  unfold mX9_countFacts_91
  have w1_ := And.intro (wI_lo (s2 + s3)) (wI_hi (s2 + s3))
  refine w_aS (kl_164 iM) (by omega) (by omega) (fun M92 hM92 => ?_)
  replace hM92 : M92 = mS M 164 s1 (wI (s2 + s3)) := hM92
  have iM92 : I n M92 := wr_Moften iM rfl ⟨by omega, by omega⟩ hM92
  have kM92 : Keep n W_X9_countFacts Me M92 := kM.st hM92 (Or.inl (Or.inr (Or.inr (Or.inl rfl))))
  obtain ⟨svM92, esvM92⟩ : ∃ z, z = (wI (s2 + s3)) := ⟨_, rfl⟩
  have w2_ := wI_id (x := (l2 + 1)) (by omega) (by omega)
  have ppF12_M92 : F12 M92 := (F12_of p_F12 (fun j => st_ne hM92 (fun z => ne_fam rfl rfl (by decide) z.1)) (fun j => st_ne hM92 (fun z => ne_fam rfl rfl (by decide) z.1)))
  have ppNP_M92 : NP M92 := (NP_of p_NP (fun j => st_ne hM92 (fun z => ne_fam rfl rfl (by decide) z.1)))
  have ppWF_M92 : WF M92 := (WF_of p_WF (fun j => st_ne hM92 (fun z => ne_fam rfl rfl (by decide) z.1)) (fun j => st_ne hM92 (fun z => ne_fam rfl rfl (by decide) z.1)) (fun j => st_ne hM92 (fun z => ne_fam rfl rfl (by decide) z.1)) (fun j => st_ne hM92 (fun z => ne_fam rfl rfl (by decide) z.1)) (fun j => st_ne hM92 (fun z => ne_fam rfl rfl (by decide) z.1)))
  exact hk62 _ _ _ ⟨by omega, by omega⟩ ⟨by omega, by omega⟩ ppF12_M92 ppNP_M92 ppWF_M92 (by omega) (by omega) iM92 kM92
theorem sb_X9_countFacts_62 {n : Nat} {Me : Mem} {k32 : Int → Int → Mem → Option (Int × Mem)} {fu32 : Nat} (hk32 : ∀ (l1 : Int) (M : Mem), (0 ≤ l1 ∧ l1 ≤ 4096) → (F12 M) → (NP M) → (WF M) → 4097 - l1 < (fu32 : Int) → I n M → Keep n W_X9_countFacts Me M → wp (k32 126 l1 M) (fun q => I n q.2 ∧ Keep n W_X9_countFacts Me q.2 ∧ True)) {k62 : Int → Int → Int → Mem → Option (Int × Mem)} {fu62 : Nat} (hk62 : ∀ (l1 l2 : Int) (M : Mem), (0 ≤ l1 ∧ l1 ≤ 4095) → (0 ≤ l2 ∧ l2 ≤ 12) → (F12 M) → (NP M) → (WF M) → 4097 - l1 < (fu32 : Int) + 1 → 13 - l2 < (fu62 : Int) → I n M → Keep n W_X9_countFacts Me M → wp (k62 126 l1 l2 M) (fun q => I n q.2 ∧ Keep n W_X9_countFacts Me q.2 ∧ True)) {l1 l2 : Int} {M : Mem} (r_l1 : 0 ≤ l1 ∧ l1 ≤ 4095) (r_l2 : 0 ≤ l2 ∧ l2 ≤ 12) (p_F12 : F12 M) (p_NP : NP M) (p_WF : WF M) (hf32 : 4097 - l1 < (fu32 : Int) + 1) (hf62 : 13 - l2 < (fu62 : Int) + 1) (iM : I n M) (kM : Keep n W_X9_countFacts Me M) : wp (bX9_countFacts_62 k32 k62 126 l1 l2 M) (fun q => I n q.2 ∧ Keep n W_X9_countFacts Me q.2 ∧ True) := by
  have hn : (169 : Int) ≤ (n : Int) := by have := iM.2.2.2.2.1; omega
  unfold bX9_countFacts_62
  refine w_gK (congrArg Prod.fst (kl_126 iM)) ?_
  refine w_call (s_X9_manyFacts iM) ?_
  intro v64 m64 pp64
  obtain ⟨im64, kk64, e64_0, e64_1, -⟩ := pp64
  try dsimp only
  replace im64 : I n m64 := im64
  replace kk64 : Keep n W_X9_manyFacts M m64 := kk64
  have km64 : Keep n W_X9_countFacts Me m64 := kM.tr kk64 (fun b j z => z.elim)
  replace e64_0 : 0 ≤ v64 ∧ v64 ≤ 36 := e64_0
  replace e64_1 : v64 = mG m64 153 (mG m64 134 0) := e64_1
  have ev64 := e64_1
  have ppF12_m64 : F12 m64 := (F12_of p_F12 (fun j => kk64.2.2 153 j (by omega) (fun z => z)) (fun j => kk64.2.2 134 j (by omega) (fun z => z)))
  have fv64 : v64 ≤ 12 := by rw [ev64]; exact ppF12_m64
  refine w_if (fun c1_ => ?_) (fun c1_ => ?_)
  · skip
    have ppNP_m64 : NP m64 := (NP_of p_NP (fun j => kk64.2.2 152 j (by omega) (fun z => z)))
    have ppWF_m64 : WF m64 := (WF_of p_WF (fun j => kk64.2.2 141 j (by omega) (fun z => z)) (fun j => kk64.2.2 142 j (by omega) (fun z => z)) (fun j => kk64.2.2 143 j (by omega) (fun z => z)) (fun j => kk64.2.2 144 j (by omega) (fun z => z)) (fun j => kk64.2.2 138 j (by omega) (fun z => z)))
    exact s_X9_countFacts_99 hk32 ⟨by omega, by omega⟩ ppF12_m64 ppNP_m64 ppWF_m64 (by omega) im64 km64
  · skip
    refine w_gFc (ji := 56) rfl (congrArg Prod.fst (kl_126 im64)) (show mG m64 126 56 = 164 from rd_Model_56 im64 (a := 126) rfl) ?_
    refine w_aG (kl_164 im64) (by omega) (by omega) (fun a76 ha76 => ?_)
    have ra76 : (-2147483648) ≤ a76 ∧ a76 ≤ 2147483647 := ha76.tr (P := fun z => (-2147483648) ≤ z ∧ z ≤ 2147483647) (rd_Moften im64 rfl)
    refine w_gFc (ji := 28) rfl (congrArg Prod.fst (kl_126 im64)) (show mG m64 126 28 = 154 from rd_Model_28 im64 (a := 126) rfl) ?_
    refine w_aG (kl_154 im64) (by omega) (by omega) (fun a82 ha82 => ?_)
    have ra82 : 0 ≤ a82 ∧ a82 ≤ 1 := ha82.tr (P := fun z => 0 ≤ z ∧ z ≤ 1) (rd_Mis im64 rfl)
    refine w_if (fun c2_ => ?_) (fun c2_ => ?_)
    · skip
      have ppNP_m64 : NP m64 := (NP_of p_NP (fun j => kk64.2.2 152 j (by omega) (fun z => z)))
      have ppWF_m64 : WF m64 := (WF_of p_WF (fun j => kk64.2.2 141 j (by omega) (fun z => z)) (fun j => kk64.2.2 142 j (by omega) (fun z => z)) (fun j => kk64.2.2 143 j (by omega) (fun z => z)) (fun j => kk64.2.2 144 j (by omega) (fun z => z)) (fun j => kk64.2.2 138 j (by omega) (fun z => z)))
      exact s_X9_countFacts_91 hk32 hk62 ⟨by omega, by omega⟩ ⟨by omega, by omega⟩ ⟨by omega, by omega⟩ ⟨by omega, by omega⟩ ⟨by omega, by omega⟩ ppF12_m64 ppNP_m64 ppWF_m64 (by omega) (by omega) im64 km64
    · skip
      have ppNP_m64 : NP m64 := (NP_of p_NP (fun j => kk64.2.2 152 j (by omega) (fun z => z)))
      have ppWF_m64 : WF m64 := (WF_of p_WF (fun j => kk64.2.2 141 j (by omega) (fun z => z)) (fun j => kk64.2.2 142 j (by omega) (fun z => z)) (fun j => kk64.2.2 143 j (by omega) (fun z => z)) (fun j => kk64.2.2 144 j (by omega) (fun z => z)) (fun j => kk64.2.2 138 j (by omega) (fun z => z)))
      exact s_X9_countFacts_91 hk32 hk62 ⟨by omega, by omega⟩ ⟨by omega, by omega⟩ ⟨by omega, by omega⟩ ⟨by omega, by omega⟩ ⟨by omega, by omega⟩ ppF12_m64 ppNP_m64 ppWF_m64 (by omega) (by omega) im64 km64
theorem s_X9_countFacts_62 {n : Nat} {Me : Mem} {k32 : Int → Int → Mem → Option (Int × Mem)} {fu32 : Nat} (hk32 : ∀ (l1 : Int) (M : Mem), (0 ≤ l1 ∧ l1 ≤ 4096) → (F12 M) → (NP M) → (WF M) → 4097 - l1 < (fu32 : Int) → I n M → Keep n W_X9_countFacts Me M → wp (k32 126 l1 M) (fun q => I n q.2 ∧ Keep n W_X9_countFacts Me q.2 ∧ True)) : ∀ (fu : Nat) (l1 l2 : Int) (M : Mem), (0 ≤ l1 ∧ l1 ≤ 4095) → (0 ≤ l2 ∧ l2 ≤ 12) → (F12 M) → (NP M) → (WF M) → 4097 - l1 < (fu32 : Int) + 1 → 13 - l2 < (fu : Int) → I n M → Keep n W_X9_countFacts Me M → wp (mX9_countFacts_62 k32 fu 126 l1 l2 M) (fun q => I n q.2 ∧ Keep n W_X9_countFacts Me q.2 ∧ True) := by
  intro fu
  induction fu with
  | zero =>
    intro l1 l2 M r_l1 r_l2 p_F12 p_NP p_WF hf32 hf iM kM
    exfalso
    omega
  | succ fu ih =>
    intro l1 l2 M r_l1 r_l2 p_F12 p_NP p_WF hf32 hf iM kM
    exact sb_X9_countFacts_62 hk32 ih r_l1 r_l2 p_F12 p_NP p_WF hf32 (by have e : ((fu + 1 : Nat) : Int) = (fu : Int) + 1 := rfl; rw [e] at hf; exact hf) iM kM
theorem sb_X9_countFacts_32 {n : Nat} {Me : Mem} {k32 : Int → Int → Mem → Option (Int × Mem)} {fu32 : Nat} (hk32 : ∀ (l1 : Int) (M : Mem), (0 ≤ l1 ∧ l1 ≤ 4096) → (F12 M) → (NP M) → (WF M) → 4097 - l1 < (fu32 : Int) → I n M → Keep n W_X9_countFacts Me M → wp (k32 126 l1 M) (fun q => I n q.2 ∧ Keep n W_X9_countFacts Me q.2 ∧ True)) {l1 : Int} {M : Mem} (r_l1 : 0 ≤ l1 ∧ l1 ≤ 4096) (p_F12 : F12 M) (p_NP : NP M) (p_WF : WF M) (hf32 : 4097 - l1 < (fu32 : Int) + 1) (iM : I n M) (kM : Keep n W_X9_countFacts Me M) : wp (bX9_countFacts_32 k32 126 l1 M) (fun q => I n q.2 ∧ Keep n W_X9_countFacts Me q.2 ∧ True) := by
  have hn : (169 : Int) ≤ (n : Int) := by have := iM.2.2.2.2.1; omega
  unfold bX9_countFacts_32
  refine w_gK (congrArg Prod.fst (kl_126 iM)) ?_
  refine w_call (s_X9_manyFacts iM) ?_
  intro v35 m35 pp35
  obtain ⟨im35, kk35, e35_0, e35_1, -⟩ := pp35
  try dsimp only
  replace im35 : I n m35 := im35
  replace kk35 : Keep n W_X9_manyFacts M m35 := kk35
  have km35 : Keep n W_X9_countFacts Me m35 := kM.tr kk35 (fun b j z => z.elim)
  replace e35_0 : 0 ≤ v35 ∧ v35 ≤ 36 := e35_0
  replace e35_1 : v35 = mG m35 153 (mG m35 134 0) := e35_1
  have ev35 := e35_1
  have ppF12_m35 : F12 m35 := (F12_of p_F12 (fun j => kk35.2.2 153 j (by omega) (fun z => z)) (fun j => kk35.2.2 134 j (by omega) (fun z => z)))
  have fv35 : v35 ≤ 12 := by rw [ev35]; exact ppF12_m35
  have w1_ := ishl1_b (k := v35) (B := 12) (by omega) (by omega) (by decide)
  refine w_if (fun c2_ => ?_) (fun c2_ => ?_)
  · skip
    exact w_ret ⟨im35, km35, trivial⟩
  · skip
    refine w_gK (congrArg Prod.fst (kl_126 im35)) ?_
    have ppNP_m35 : NP m35 := (NP_of p_NP (fun j => kk35.2.2 152 j (by omega) (fun z => z)))
    have ppWF_m35 : WF m35 := (WF_of p_WF (fun j => kk35.2.2 141 j (by omega) (fun z => z)) (fun j => kk35.2.2 142 j (by omega) (fun z => z)) (fun j => kk35.2.2 143 j (by omega) (fun z => z)) (fun j => kk35.2.2 144 j (by omega) (fun z => z)) (fun j => kk35.2.2 138 j (by omega) (fun z => z)))
    refine w_call (s_X9_isWorld ⟨by omega, by omega⟩ ppF12_m35 ppNP_m35 ppWF_m35 im35) ?_
    intro v44 m44 pp44
    obtain ⟨im44, kk44, e44_0, -⟩ := pp44
    try dsimp only
    replace im44 : I n m44 := im44
    replace kk44 : Keep n W_X9_isWorld m35 m44 := kk44
    have km44 : Keep n W_X9_countFacts Me m44 := km35.tr kk44 (fun b j z => Or.elim z (fun z => (Or.inl z)) (fun z => Or.elim z (fun z => (Or.inr (Or.inl z))) (fun z => (Or.inr (Or.inr (Or.inr (Or.inl z)))))))
    replace e44_0 : 0 ≤ v44 ∧ v44 ≤ 1 := e44_0
    refine w_if (fun c3_ => ?_) (fun c3_ => ?_)
    · skip
      have ppF12_m44 : F12 m44 := (F12_of ppF12_m35 (fun j => kk44.2.2 153 j (by omega) (fun z => by unfold W_X9_isWorld at z; (try unfold isWS at z); (try unfold isShape at z); (try unfold isTold at z); (try dsimp only at z); omega)) (fun j => kk44.2.2 134 j (by omega) (fun z => by unfold W_X9_isWorld at z; (try unfold isWS at z); (try unfold isShape at z); (try unfold isTold at z); (try dsimp only at z); omega)))
      have ppNP_m44 : NP m44 := (NP_of ppNP_m35 (fun j => kk44.2.2 152 j (by omega) (fun z => by unfold W_X9_isWorld at z; (try unfold isWS at z); (try unfold isShape at z); (try unfold isTold at z); (try dsimp only at z); omega)))
      have ppWF_m44 : WF m44 := (WF_of ppWF_m35 (fun j => kk44.2.2 141 j (by omega) (fun z => by unfold W_X9_isWorld at z; (try unfold isWS at z); (try unfold isShape at z); (try unfold isTold at z); (try dsimp only at z); omega)) (fun j => kk44.2.2 142 j (by omega) (fun z => by unfold W_X9_isWorld at z; (try unfold isWS at z); (try unfold isShape at z); (try unfold isTold at z); (try dsimp only at z); omega)) (fun j => kk44.2.2 143 j (by omega) (fun z => by unfold W_X9_isWorld at z; (try unfold isWS at z); (try unfold isShape at z); (try unfold isTold at z); (try dsimp only at z); omega)) (fun j => kk44.2.2 144 j (by omega) (fun z => by unfold W_X9_isWorld at z; (try unfold isWS at z); (try unfold isShape at z); (try unfold isTold at z); (try dsimp only at z); omega)) (fun j => kk44.2.2 138 j (by omega) (fun z => by unfold W_X9_isWorld at z; (try unfold isWS at z); (try unfold isShape at z); (try unfold isTold at z); (try dsimp only at z); omega)))
      exact s_X9_countFacts_99 hk32 ⟨by omega, by omega⟩ ppF12_m44 ppNP_m44 ppWF_m44 (by omega) im44 km44
    · skip
      refine w_gF (ji := 57) rfl (congrArg Prod.fst (kl_126 im44)) (fun a52 ha52 => ?_)
      have ra52 : (-2147483648) ≤ a52 ∧ a52 ≤ 2147483647 := ha52.tr (P := fun z => (-2147483648) ≤ z ∧ z ≤ 2147483647) (rd_Model_57 im44 rfl)
      have w4_ := And.intro (wI_lo (a52 + 1)) (wI_hi (a52 + 1))
      refine w_pF (ji := 57) rfl (congrArg Prod.fst (kl_126 im44)) (fun M57 hM57 => ?_)
      replace hM57 : M57 = mS m44 126 57 (wI (a52 + 1)) := hM57
      have iM57 : I n M57 := wr_Model_57 im44 rfl ⟨by omega, by omega⟩ hM57
      have kM57 : Keep n W_X9_countFacts Me M57 := km44.st hM57 (Or.inl (Or.inr (Or.inr (Or.inr (Or.inr (Or.inr (Or.inr (Or.inr ⟨rfl, rfl⟩))))))))
      obtain ⟨svM57, esvM57⟩ : ∃ z, z = (wI (a52 + 1)) := ⟨_, rfl⟩
      have ppF12_M57 : F12 M57 := (F12_of (F12_of ppF12_m35 (fun j => kk44.2.2 153 j (by omega) (fun z => by unfold W_X9_isWorld at z; (try unfold isWS at z); (try unfold isShape at z); (try unfold isTold at z); (try dsimp only at z); omega)) (fun j => kk44.2.2 134 j (by omega) (fun z => by unfold W_X9_isWorld at z; (try unfold isWS at z); (try unfold isShape at z); (try unfold isTold at z); (try dsimp only at z); omega))) (fun j => st_ne hM57 (fun z => ne_fam rfl rfl (by decide) z.1)) (fun j => st_ne hM57 (fun z => ne_fam rfl rfl (by decide) z.1)))
      have ppNP_M57 : NP M57 := (NP_of (NP_of ppNP_m35 (fun j => kk44.2.2 152 j (by omega) (fun z => by unfold W_X9_isWorld at z; (try unfold isWS at z); (try unfold isShape at z); (try unfold isTold at z); (try dsimp only at z); omega))) (fun j => st_ne hM57 (fun z => ne_fam rfl rfl (by decide) z.1)))
      have ppWF_M57 : WF M57 := (WF_of (WF_of ppWF_m35 (fun j => kk44.2.2 141 j (by omega) (fun z => by unfold W_X9_isWorld at z; (try unfold isWS at z); (try unfold isShape at z); (try unfold isTold at z); (try dsimp only at z); omega)) (fun j => kk44.2.2 142 j (by omega) (fun z => by unfold W_X9_isWorld at z; (try unfold isWS at z); (try unfold isShape at z); (try unfold isTold at z); (try dsimp only at z); omega)) (fun j => kk44.2.2 143 j (by omega) (fun z => by unfold W_X9_isWorld at z; (try unfold isWS at z); (try unfold isShape at z); (try unfold isTold at z); (try dsimp only at z); omega)) (fun j => kk44.2.2 144 j (by omega) (fun z => by unfold W_X9_isWorld at z; (try unfold isWS at z); (try unfold isShape at z); (try unfold isTold at z); (try dsimp only at z); omega)) (fun j => kk44.2.2 138 j (by omega) (fun z => by unfold W_X9_isWorld at z; (try unfold isWS at z); (try unfold isShape at z); (try unfold isTold at z); (try dsimp only at z); omega))) (fun j => st_ne hM57 (fun z => ne_fam rfl rfl (by decide) z.1)) (fun j => st_ne hM57 (fun z => ne_fam rfl rfl (by decide) z.1)) (fun j => st_ne hM57 (fun z => ne_fam rfl rfl (by decide) z.1)) (fun j => st_ne hM57 (fun z => ne_fam rfl rfl (by decide) z.1)) (fun j => st_ne hM57 (fun z => ne_fam rfl rfl (by decide) z.1)))
      exact s_X9_countFacts_62 hk32 FU _ _ _ ⟨by omega, by omega⟩ ⟨by omega, by omega⟩ ppF12_M57 ppNP_M57 ppWF_M57 (by omega) (by show _ < (70000 : Int); omega) iM57 kM57
theorem s_X9_countFacts_32 {n : Nat} {Me : Mem} : ∀ (fu : Nat) (l1 : Int) (M : Mem), (0 ≤ l1 ∧ l1 ≤ 4096) → (F12 M) → (NP M) → (WF M) → 4097 - l1 < (fu : Int) → I n M → Keep n W_X9_countFacts Me M → wp (mX9_countFacts_32 fu 126 l1 M) (fun q => I n q.2 ∧ Keep n W_X9_countFacts Me q.2 ∧ True) := by
  intro fu
  induction fu with
  | zero =>
    intro l1 M r_l1 p_F12 p_NP p_WF hf iM kM
    exfalso
    omega
  | succ fu ih =>
    intro l1 M r_l1 p_F12 p_NP p_WF hf iM kM
    exact sb_X9_countFacts_32 ih r_l1 p_F12 p_NP p_WF (by have e : ((fu + 1 : Nat) : Int) = (fu : Int) + 1 := rfl; rw [e] at hf; exact hf) iM kM
theorem sb_X9_countFacts_11 {n : Nat} {Me : Mem} {k11 : Int → Int → Mem → Option (Int × Mem)} {fu11 : Nat} (hk11 : ∀ (l1 : Int) (M : Mem), (0 ≤ l1 ∧ l1 ≤ 12) → (F12 M) → (NP M) → (WF M) → 13 - l1 < (fu11 : Int) → I n M → Keep n W_X9_countFacts Me M → wp (k11 126 l1 M) (fun q => I n q.2 ∧ Keep n W_X9_countFacts Me q.2 ∧ True)) {l1 : Int} {M : Mem} (r_l1 : 0 ≤ l1 ∧ l1 ≤ 12) (p_F12 : F12 M) (p_NP : NP M) (p_WF : WF M) (hf11 : 13 - l1 < (fu11 : Int) + 1) (iM : I n M) (kM : Keep n W_X9_countFacts Me M) : wp (bX9_countFacts_11 k11 126 l1 M) (fun q => I n q.2 ∧ Keep n W_X9_countFacts Me q.2 ∧ True) := by
  have hn : (169 : Int) ≤ (n : Int) := by have := iM.2.2.2.2.1; omega
  unfold bX9_countFacts_11
  refine w_if (fun c1_ => ?_) (fun c1_ => ?_)
  · skip
    exact s_X9_countFacts_32 FU _ _ ⟨by omega, by omega⟩ p_F12 p_NP p_WF (by show _ < (70000 : Int); omega) iM kM
  · skip
    refine w_gFc (ji := 56) rfl (congrArg Prod.fst (kl_126 iM)) (show mG M 126 56 = 164 from rd_Model_56 iM (a := 126) rfl) ?_
    refine w_aS (kl_164 iM) (by omega) (by omega) (fun M23 hM23 => ?_)
    replace hM23 : M23 = mS M 164 l1 0 := hM23
    have iM23 : I n M23 := wr_Moften iM rfl ⟨by omega, by omega⟩ hM23
    have kM23 : Keep n W_X9_countFacts Me M23 := kM.st hM23 (Or.inl (Or.inr (Or.inr (Or.inl rfl))))
    have w2_ := wI_id (x := (l1 + 1)) (by omega) (by omega)
    have ppF12_M23 : F12 M23 := (F12_of p_F12 (fun j => st_ne hM23 (fun z => ne_fam rfl rfl (by decide) z.1)) (fun j => st_ne hM23 (fun z => ne_fam rfl rfl (by decide) z.1)))
    have ppNP_M23 : NP M23 := (NP_of p_NP (fun j => st_ne hM23 (fun z => ne_fam rfl rfl (by decide) z.1)))
    have ppWF_M23 : WF M23 := (WF_of p_WF (fun j => st_ne hM23 (fun z => ne_fam rfl rfl (by decide) z.1)) (fun j => st_ne hM23 (fun z => ne_fam rfl rfl (by decide) z.1)) (fun j => st_ne hM23 (fun z => ne_fam rfl rfl (by decide) z.1)) (fun j => st_ne hM23 (fun z => ne_fam rfl rfl (by decide) z.1)) (fun j => st_ne hM23 (fun z => ne_fam rfl rfl (by decide) z.1)))
    exact hk11 _ _ ⟨by omega, by omega⟩ ppF12_M23 ppNP_M23 ppWF_M23 (by omega) iM23 kM23
theorem s_X9_countFacts_11 {n : Nat} {Me : Mem} : ∀ (fu : Nat) (l1 : Int) (M : Mem), (0 ≤ l1 ∧ l1 ≤ 12) → (F12 M) → (NP M) → (WF M) → 13 - l1 < (fu : Int) → I n M → Keep n W_X9_countFacts Me M → wp (mX9_countFacts_11 fu 126 l1 M) (fun q => I n q.2 ∧ Keep n W_X9_countFacts Me q.2 ∧ True) := by
  intro fu
  induction fu with
  | zero =>
    intro l1 M r_l1 p_F12 p_NP p_WF hf iM kM
    exfalso
    omega
  | succ fu ih =>
    intro l1 M r_l1 p_F12 p_NP p_WF hf iM kM
    exact sb_X9_countFacts_11 ih r_l1 p_F12 p_NP p_WF (by have e : ((fu + 1 : Nat) : Int) = (fu : Int) + 1 := rfl; rw [e] at hf; exact hf) iM kM
theorem s_X9_countFacts {n : Nat} {M : Mem} (p_F12 : F12 M) (p_NP : NP M) (p_WF : WF M) (iM : I n M) : wp (mX9_countFacts 126 M) (fun q => I n q.2 ∧ Keep n W_X9_countFacts M q.2 ∧ True) := by
  have hn : (169 : Int) ≤ (n : Int) := by have := iM.2.2.2.2.1; omega
  have kM : Keep n W_X9_countFacts M M := Keep.rf
  unfold mX9_countFacts
  refine w_gK (congrArg Prod.fst (kl_126 iM)) ?_
  refine w_call (s_X9_prepare p_F12 p_NP iM) ?_
  intro v1 m1 pp1
  obtain ⟨im1, kk1, -⟩ := pp1
  try dsimp only
  replace im1 : I n m1 := im1
  replace kk1 : Keep n W_X9_prepare M m1 := kk1
  have km1 : Keep n W_X9_countFacts M m1 := kM.tr kk1 (fun b j z => Or.elim z (fun z => (Or.inr (Or.inr (Or.inr (Or.inr (Or.inl z)))))) (fun z => Or.elim z (fun z => (Or.inr (Or.inr (Or.inr (Or.inr (Or.inr (Or.inl z))))))) (fun z => (Or.inr (Or.inr (Or.inr (Or.inr (Or.inr (Or.inr (Or.inl z))))))))))
  refine w_pF (ji := 57) rfl (congrArg Prod.fst (kl_126 im1)) (fun M6 hM6 => ?_)
  replace hM6 : M6 = mS m1 126 57 0 := hM6
  have iM6 : I n M6 := wr_Model_57 im1 rfl ⟨by omega, by omega⟩ hM6
  have kM6 : Keep n W_X9_countFacts M M6 := km1.st hM6 (Or.inl (Or.inr (Or.inr (Or.inr (Or.inr (Or.inr (Or.inr (Or.inr ⟨rfl, rfl⟩))))))))
  have ppF12_M6 : F12 M6 := (F12_of (F12_of p_F12 (fun j => kk1.2.2 153 j (by omega) (fun z => by unfold W_X9_prepare at z; (try unfold isWS at z); (try unfold isShape at z); (try unfold isTold at z); (try dsimp only at z); omega)) (fun j => kk1.2.2 134 j (by omega) (fun z => by unfold W_X9_prepare at z; (try unfold isWS at z); (try unfold isShape at z); (try unfold isTold at z); (try dsimp only at z); omega))) (fun j => st_ne hM6 (fun z => ne_fam rfl rfl (by decide) z.1)) (fun j => st_ne hM6 (fun z => ne_fam rfl rfl (by decide) z.1)))
  have ppNP_M6 : NP M6 := (NP_of (NP_of p_NP (fun j => kk1.2.2 152 j (by omega) (fun z => by unfold W_X9_prepare at z; (try unfold isWS at z); (try unfold isShape at z); (try unfold isTold at z); (try dsimp only at z); omega))) (fun j => st_ne hM6 (fun z => ne_fam rfl rfl (by decide) z.1)))
  have ppWF_M6 : WF M6 := (WF_of (WF_of p_WF (fun j => kk1.2.2 141 j (by omega) (fun z => by unfold W_X9_prepare at z; (try unfold isWS at z); (try unfold isShape at z); (try unfold isTold at z); (try dsimp only at z); omega)) (fun j => kk1.2.2 142 j (by omega) (fun z => by unfold W_X9_prepare at z; (try unfold isWS at z); (try unfold isShape at z); (try unfold isTold at z); (try dsimp only at z); omega)) (fun j => kk1.2.2 143 j (by omega) (fun z => by unfold W_X9_prepare at z; (try unfold isWS at z); (try unfold isShape at z); (try unfold isTold at z); (try dsimp only at z); omega)) (fun j => kk1.2.2 144 j (by omega) (fun z => by unfold W_X9_prepare at z; (try unfold isWS at z); (try unfold isShape at z); (try unfold isTold at z); (try dsimp only at z); omega)) (fun j => kk1.2.2 138 j (by omega) (fun z => by unfold W_X9_prepare at z; (try unfold isWS at z); (try unfold isShape at z); (try unfold isTold at z); (try dsimp only at z); omega))) (fun j => st_ne hM6 (fun z => ne_fam rfl rfl (by decide) z.1)) (fun j => st_ne hM6 (fun z => ne_fam rfl rfl (by decide) z.1)) (fun j => st_ne hM6 (fun z => ne_fam rfl rfl (by decide) z.1)) (fun j => st_ne hM6 (fun z => ne_fam rfl rfl (by decide) z.1)) (fun j => st_ne hM6 (fun z => ne_fam rfl rfl (by decide) z.1)))
  exact s_X9_countFacts_11 FU _ _ ⟨by omega, by omega⟩ ppF12_M6 ppNP_M6 ppWF_M6 (by show _ < (70000 : Int); omega) iM6 kM6
def W_X9_sure (b j : Int) : Prop := (152 ≤ b ∧ b ≤ 154) ∨ (160 ≤ b ∧ b ≤ 161) ∨ b = 164 ∨ (b = 126 ∧ j = 0) ∨ (b = 126 ∧ j = 46) ∨ (b = 126 ∧ j = 48) ∨ (b = 126 ∧ j = 49) ∨ (b = 126 ∧ j = 50) ∨ (b = 126 ∧ j = 57)
theorem s_X9_sure {n : Nat} {l1 l2 l3 : Int} {M : Mem} (r_l1 : (-2147483648) ≤ l1 ∧ l1 ≤ 2147483647) (r_l2 : (-2147483648) ≤ l2 ∧ l2 ≤ 2147483647) (r_l3 : (-2147483648) ≤ l3 ∧ l3 ≤ 2147483647) (p_WF : WF M) (iM : I n M) : wp (mX9_sure 126 l1 l2 l3 M) (fun q => I n q.2 ∧ Keep n W_X9_sure M q.2 ∧ ((-1) ≤ q.1 ∧ q.1 ≤ 1) ∧ True) := by
  have hn : (169 : Int) ≤ (n : Int) := by have := iM.2.2.2.2.1; omega
  have kM : Keep n W_X9_sure M M := Keep.rf
  unfold mX9_sure
  refine w_pF (ji := 0) rfl (congrArg Prod.fst (kl_126 iM)) (fun M2 hM2 => ?_)
  replace hM2 : M2 = mS M 126 0 0 := hM2
  have iM2 : I n M2 := wr_Model_0 iM rfl ⟨by omega, by omega⟩ hM2
  have kM2 : Keep n W_X9_sure M M2 := kM.st hM2 (Or.inl (Or.inr (Or.inr (Or.inr (Or.inl ⟨rfl, rfl⟩)))))
  refine w_gK (congrArg Prod.fst (kl_126 iM2)) ?_
  refine w_call (s_X9_toldFact ⟨by omega, by omega⟩ ⟨by omega, by omega⟩ ⟨by omega, by omega⟩ iM2) ?_
  intro v9 m9 pp9
  obtain ⟨im9, kk9, e9_0, e9_1, e9_2, e9_3, -⟩ := pp9
  try dsimp only
  replace im9 : I n m9 := im9
  replace kk9 : Keep n W_X9_toldFact M2 m9 := kk9
  have km9 : Keep n W_X9_sure M m9 := kM2.tr kk9 (fun b j z => by unfold W_X9_toldFact at z; exact (Or.inl ⟨by omega, by omega⟩))
  replace e9_0 : (-1) ≤ v9 ∧ v9 ≤ 35 := e9_0
  replace e9_1 : NP m9 := e9_1
  have gNP_m9 := e9_1
  replace e9_2 : SF m9 := e9_2
  have gSF_m9 := e9_2
  replace e9_3 : FB m9 v9 := e9_3
  refine w_if (fun c1_ => ?_) (fun c1_ => ?_)
  · skip
    exact w_ret ⟨im9, km9, (show (-1) ≤ (-1) ∧ (-1) ≤ 1 from ⟨by omega, by omega⟩), trivial⟩
  · skip
    refine w_gK (congrArg Prod.fst (kl_126 im9)) ?_
    refine w_call (s_X9_canTell im9) ?_
    intro v21 m21 pp21
    obtain ⟨im21, kk21, e21_0, e21_1, e21_2, e21_3, -⟩ := pp21
    try dsimp only
    replace im21 : I n m21 := im21
    replace kk21 : Keep n W_X9_canTell m9 m21 := kk21
    have km21 : Keep n W_X9_sure M m21 := km9.tr kk21 (fun b j z => by unfold W_X9_canTell at z; exact (Or.inl ⟨by omega, by omega⟩))
    replace e21_0 : 0 ≤ v21 ∧ v21 ≤ 1 := e21_0
    replace e21_1 : NP m21 := e21_1
    have gNP_m21 := e21_1
    replace e21_2 : SF m21 := e21_2
    have gSF_m21 := e21_2
    replace e21_3 : v21 = 1 → F12 m21 := e21_3
    have ev21 := e21_3
    refine w_if (fun c2_ => ?_) (fun c2_ => ?_)
    · skip
      exact w_ret ⟨im21, km21, (show (-1) ≤ (-1) ∧ (-1) ≤ 1 from ⟨by omega, by omega⟩), trivial⟩
    · skip
      have pF12_c2__m21 : F12 m21 := ev21 (by omega)
      refine w_gK (congrArg Prod.fst (kl_126 im21)) ?_
      have ppWF_m21 : WF m21 := (WF_of (WF_of (WF_of p_WF (fun j => st_ne hM2 (fun z => ne_fam rfl rfl (by decide) z.1)) (fun j => st_ne hM2 (fun z => ne_fam rfl rfl (by decide) z.1)) (fun j => st_ne hM2 (fun z => ne_fam rfl rfl (by decide) z.1)) (fun j => st_ne hM2 (fun z => ne_fam rfl rfl (by decide) z.1)) (fun j => st_ne hM2 (fun z => ne_fam rfl rfl (by decide) z.1))) (fun j => kk9.2.2 141 j (by omega) (fun z => by unfold W_X9_toldFact at z; (try unfold isWS at z); (try unfold isShape at z); (try unfold isTold at z); (try dsimp only at z); omega)) (fun j => kk9.2.2 142 j (by omega) (fun z => by unfold W_X9_toldFact at z; (try unfold isWS at z); (try unfold isShape at z); (try unfold isTold at z); (try dsimp only at z); omega)) (fun j => kk9.2.2 143 j (by omega) (fun z => by unfold W_X9_toldFact at z; (try unfold isWS at z); (try unfold isShape at z); (try unfold isTold at z); (try dsimp only at z); omega)) (fun j => kk9.2.2 144 j (by omega) (fun z => by unfold W_X9_toldFact at z; (try unfold isWS at z); (try unfold isShape at z); (try unfold isTold at z); (try dsimp only at z); omega)) (fun j => kk9.2.2 138 j (by omega) (fun z => by unfold W_X9_toldFact at z; (try unfold isWS at z); (try unfold isShape at z); (try unfold isTold at z); (try dsimp only at z); omega))) (fun j => kk21.2.2 141 j (by omega) (fun z => by unfold W_X9_canTell at z; (try unfold isWS at z); (try unfold isShape at z); (try unfold isTold at z); (try dsimp only at z); omega)) (fun j => kk21.2.2 142 j (by omega) (fun z => by unfold W_X9_canTell at z; (try unfold isWS at z); (try unfold isShape at z); (try unfold isTold at z); (try dsimp only at z); omega)) (fun j => kk21.2.2 143 j (by omega) (fun z => by unfold W_X9_canTell at z; (try unfold isWS at z); (try unfold isShape at z); (try unfold isTold at z); (try dsimp only at z); omega)) (fun j => kk21.2.2 144 j (by omega) (fun z => by unfold W_X9_canTell at z; (try unfold isWS at z); (try unfold isShape at z); (try unfold isTold at z); (try dsimp only at z); omega)) (fun j => kk21.2.2 138 j (by omega) (fun z => by unfold W_X9_canTell at z; (try unfold isWS at z); (try unfold isShape at z); (try unfold isTold at z); (try dsimp only at z); omega)))
      refine w_call (s_X9_countFacts pF12_c2__m21 gNP_m21 ppWF_m21 im21) ?_
      intro v30 m30 pp30
      obtain ⟨im30, kk30, -⟩ := pp30
      try dsimp only
      replace im30 : I n m30 := im30
      replace kk30 : Keep n W_X9_countFacts m21 m30 := kk30
      have km30 : Keep n W_X9_sure M m30 := km21.tr kk30 (fun b j z => Or.elim z (fun z => (Or.inl ⟨by omega, by omega⟩)) (fun z => Or.elim z (fun z => (Or.inr (Or.inl z))) (fun z => Or.elim z (fun z => (Or.inr (Or.inr (Or.inl z)))) (fun z => Or.elim z (fun z => (Or.inr (Or.inr (Or.inr (Or.inr (Or.inl z)))))) (fun z => Or.elim z (fun z => (Or.inr (Or.inr (Or.inr (Or.inr (Or.inr (Or.inl z))))))) (fun z => Or.elim z (fun z => (Or.inr (Or.inr (Or.inr (Or.inr (Or.inr (Or.inr (Or.inl z)))))))) (fun z => Or.elim z (fun z => (Or.inr (Or.inr (Or.inr (Or.inr (Or.inr (Or.inr (Or.inr (Or.inl z))))))))) (fun z => (Or.inr (Or.inr (Or.inr (Or.inr (Or.inr (Or.inr (Or.inr (Or.inr z))))))))))))))))
      refine w_gF (ji := 57) rfl (congrArg Prod.fst (kl_126 im30)) (fun a34 ha34 => ?_)
      have ra34 : (-2147483648) ≤ a34 ∧ a34 ≤ 2147483647 := ha34.tr (P := fun z => (-2147483648) ≤ z ∧ z ≤ 2147483647) (rd_Model_57 im30 rfl)
      refine w_if (fun c3_ => ?_) (fun c3_ => ?_)
      · skip
        exact w_ret ⟨im30, km30, (show (-1) ≤ (-1) ∧ (-1) ≤ 1 from ⟨by omega, by omega⟩), trivial⟩
      · skip
        refine w_gFc (ji := 56) rfl (congrArg Prod.fst (kl_126 im30)) (show mG m30 126 56 = 164 from rd_Model_56 im30 (a := 126) rfl) ?_
        have lp4_ : FB m30 (v9) := (FB_of (FB_of e9_3 (fun j => kk21.2.2 133 j (by omega) (fun z => by unfold W_X9_canTell at z; (try unfold isWS at z); (try unfold isShape at z); (try unfold isTold at z); (try dsimp only at z); omega)) (fun j => kk21.2.2 134 j (by omega) (fun z => by unfold W_X9_canTell at z; (try unfold isWS at z); (try unfold isShape at z); (try unfold isTold at z); (try dsimp only at z); omega)) (fun j => kk21.2.2 135 j (by omega) (fun z => by unfold W_X9_canTell at z; (try unfold isWS at z); (try unfold isShape at z); (try unfold isTold at z); (try dsimp only at z); omega)) (fun j => kk21.2.2 136 j (by omega) (fun z => by unfold W_X9_canTell at z; (try unfold isWS at z); (try unfold isShape at z); (try unfold isTold at z); (try dsimp only at z); omega))) (fun j => kk30.2.2 133 j (by omega) (fun z => by unfold W_X9_countFacts at z; (try unfold isWS at z); (try unfold isShape at z); (try unfold isTold at z); (try dsimp only at z); omega)) (fun j => kk30.2.2 134 j (by omega) (fun z => by unfold W_X9_countFacts at z; (try unfold isWS at z); (try unfold isShape at z); (try unfold isTold at z); (try dsimp only at z); omega)) (fun j => kk30.2.2 135 j (by omega) (fun z => by unfold W_X9_countFacts at z; (try unfold isWS at z); (try unfold isShape at z); (try unfold isTold at z); (try dsimp only at z); omega)) (fun j => kk30.2.2 136 j (by omega) (fun z => by unfold W_X9_countFacts at z; (try unfold isWS at z); (try unfold isShape at z); (try unfold isTold at z); (try dsimp only at z); omega)))
        have ppSF_m30 : SF m30 := (SF_of gSF_m21 (fun j => kk30.2.2 153 j (by omega) (fun z => by unfold W_X9_countFacts at z; (try unfold isWS at z); (try unfold isShape at z); (try unfold isTold at z); (try dsimp only at z); omega)) (fun j => kk30.2.2 134 j (by omega) (fun z => by unfold W_X9_countFacts at z; (try unfold isWS at z); (try unfold isShape at z); (try unfold isTold at z); (try dsimp only at z); omega)) (fun j => kk30.2.2 133 j (by omega) (fun z => by unfold W_X9_countFacts at z; (try unfold isWS at z); (try unfold isShape at z); (try unfold isTold at z); (try dsimp only at z); omega)) (fun j => kk30.2.2 135 j (by omega) (fun z => by unfold W_X9_countFacts at z; (try unfold isWS at z); (try unfold isShape at z); (try unfold isTold at z); (try dsimp only at z); omega)) (fun j => kk30.2.2 136 j (by omega) (fun z => by unfold W_X9_countFacts at z; (try unfold isWS at z); (try unfold isShape at z); (try unfold isTold at z); (try dsimp only at z); omega)) (fun j => kk30.2.2 152 j (by omega) (fun z => by unfold W_X9_countFacts at z; (try unfold isWS at z); (try unfold isShape at z); (try unfold isTold at z); (try dsimp only at z); omega)))
        have ppF12_m30 : F12 m30 := (F12_of pF12_c2__m21 (fun j => kk30.2.2 153 j (by omega) (fun z => by unfold W_X9_countFacts at z; (try unfold isWS at z); (try unfold isShape at z); (try unfold isTold at z); (try dsimp only at z); omega)) (fun j => kk30.2.2 134 j (by omega) (fun z => by unfold W_X9_countFacts at z; (try unfold isWS at z); (try unfold isShape at z); (try unfold isTold at z); (try dsimp only at z); omega)))
        have w5_ := FB.lt lp4_ ppSF_m30 ppF12_m30 im30
        refine w_aG (kl_164 im30) (by omega) (by omega) (fun a50 ha50 => ?_)
        have ra50 : (-2147483648) ≤ a50 ∧ a50 ≤ 2147483647 := ha50.tr (P := fun z => (-2147483648) ≤ z ∧ z ≤ 2147483647) (rd_Moften im30 rfl)
        refine w_gFc (ji := 57) rfl (congrArg Prod.fst (kl_126 im30)) (show mG m30 126 57 = a34 from (show mG m30 126 57 = a34 from ha34)) ?_
        refine w_if (fun c6_ => ?_) (fun c6_ => ?_)
        · skip
          exact w_ret ⟨im30, km30, (show (-1) ≤ 1 ∧ 1 ≤ 1 from ⟨by omega, by omega⟩), trivial⟩
        · skip
          refine w_gFc (ji := 56) rfl (congrArg Prod.fst (kl_126 im30)) (show mG m30 126 56 = 164 from rd_Model_56 im30 (a := 126) rfl) ?_
          refine w_aGc (kl_164 im30) (by omega) (by omega) (show mG m30 164 v9 = a50 from (show mG m30 164 v9 = a50 from ha50)) ?_
          refine w_if (fun c7_ => ?_) (fun c7_ => ?_)
          · skip
            exact w_ret ⟨im30, km30, (show (-1) ≤ 0 ∧ 0 ≤ 1 from ⟨by omega, by omega⟩), trivial⟩
          · skip
            exact w_ret ⟨im30, km30, (show (-1) ≤ (-1) ∧ (-1) ≤ 1 from ⟨by omega, by omega⟩), trivial⟩
def W_X9_cause (b j : Int) : Prop := (152 ≤ b ∧ b ≤ 154) ∨ (160 ≤ b ∧ b ≤ 161) ∨ (163 ≤ b ∧ b ≤ 164) ∨ (b = 126 ∧ j = 0) ∨ (b = 126 ∧ j = 46) ∨ (b = 126 ∧ j = 48) ∨ (b = 126 ∧ j = 49) ∨ (b = 126 ∧ j = 50) ∨ (b = 126 ∧ j = 57)
theorem s_X9_cause_84 {n : Nat} {Me : Mem} {l4 s1 s2 : Int} {M : Mem} (r_l4 : (-2147483648) ≤ l4 ∧ l4 ≤ 2147483647) (r_s1 : 0 ≤ s1 ∧ s1 ≤ 35) (r_s2 : 0 ≤ s2 ∧ s2 ≤ 1) (p_F12 : F12 M) (p_NP : NP M) (p_SF : SF M) (p_WF : WF M) (iM : I n M) (kM : Keep n W_X9_cause Me M) : wp (mX9_cause_84 126 l4 126 s1 s2 M) (fun q => I n q.2 ∧ Keep n W_X9_cause Me q.2 ∧ ((-1) ≤ q.1 ∧ q.1 ≤ 7) ∧ True) := by
  have hn : (169 : Int) ≤ (n : Int) := by have := iM.2.2.2.2.1; omega
  unfold mX9_cause_84
  refine w_gK (congrArg Prod.fst (kl_126 iM)) ?_
  refine w_call (s_X9_findTogether ⟨by omega, by omega⟩ ⟨by omega, by omega⟩ p_F12 p_NP p_WF iM) ?_
  intro v84 m84 pp84
  obtain ⟨im84, kk84, -⟩ := pp84
  try dsimp only
  replace im84 : I n m84 := im84
  replace kk84 : Keep n W_X9_findTogether M m84 := kk84
  have km84 : Keep n W_X9_cause Me m84 := kM.tr kk84 (fun b j z => Or.elim z (fun z => (Or.inl ⟨by omega, by omega⟩)) (fun z => Or.elim z (fun z => (Or.inr (Or.inl z))) (fun z => Or.elim z (fun z => (Or.inr (Or.inr (Or.inl ⟨by omega, by omega⟩)))) (fun z => Or.elim z (fun z => (Or.inr (Or.inr (Or.inr (Or.inr (Or.inl z)))))) (fun z => Or.elim z (fun z => (Or.inr (Or.inr (Or.inr (Or.inr (Or.inr (Or.inr (Or.inl z)))))))) (fun z => (Or.inr (Or.inr (Or.inr (Or.inr (Or.inr (Or.inr (Or.inr (Or.inl z))))))))))))))
  refine w_gK (congrArg Prod.fst (kl_126 im84)) ?_
  refine w_call (s_X9_fewestApart im84) ?_
  intro v88 m88 pp88
  obtain ⟨im88, kk88, e88_0, -⟩ := pp88
  try dsimp only
  replace im88 : I n m88 := im88
  replace kk88 : Keep n W_X9_fewestApart m84 m88 := kk88
  have km88 : Keep n W_X9_cause Me m88 := km84.tr kk88 (fun b j z => z.elim)
  replace e88_0 : (-1) ≤ v88 ∧ v88 ≤ 255 := e88_0
  refine w_call (s_X9_numberIn ⟨by omega, by omega⟩ ⟨by omega, by omega⟩ im88) ?_
  intro v93 m93 pp93
  obtain ⟨im93, kk93, e93_0, -⟩ := pp93
  try dsimp only
  replace im93 : I n m93 := im93
  replace kk93 : Keep n W_X9_numberIn m88 m93 := kk93
  have km93 : Keep n W_X9_cause Me m93 := km88.tr kk93 (fun b j z => z.elim)
  replace e93_0 : (-1) ≤ v93 ∧ v93 ≤ 7 := e93_0
  exact w_ret ⟨im93, km93, (show (-1) ≤ v93 ∧ v93 ≤ 7 from ⟨by omega, by omega⟩), trivial⟩
theorem s_X9_cause_66 {n : Nat} {Me : Mem} {l4 l5 : Int} {M : Mem} (r_l4 : (-2147483648) ≤ l4 ∧ l4 ≤ 2147483647) (r_l5 : 0 ≤ l5 ∧ l5 ≤ 35) (lpFB : FB M (l5)) (p_F12 : F12 M) (p_NP : NP M) (p_SF : SF M) (p_WF : WF M) (iM : I n M) (kM : Keep n W_X9_cause Me M) : wp (mX9_cause_66 126 l4 l5 M) (fun q => I n q.2 ∧ Keep n W_X9_cause Me q.2 ∧ ((-1) ≤ q.1 ∧ q.1 ≤ 7) ∧ True) := by
  have hn : (169 : Int) ≤ (n : Int) := by have := iM.2.2.2.2.1; omega
  unfold mX9_cause_66
  refine w_gFc (ji := 56) rfl (congrArg Prod.fst (kl_126 iM)) (show mG M 126 56 = 164 from rd_Model_56 iM (a := 126) rfl) ?_
  have w1_ := FB.lt lpFB p_SF p_F12 iM
  refine w_aG (kl_164 iM) (by omega) (by omega) (fun a75 ha75 => ?_)
  have ra75 : (-2147483648) ≤ a75 ∧ a75 ≤ 2147483647 := ha75.tr (P := fun z => (-2147483648) ≤ z ∧ z ≤ 2147483647) (rd_Moften iM rfl)
  refine w_if (fun c2_ => ?_) (fun c2_ => ?_)
  · skip
    exact s_X9_cause_84 ⟨by omega, by omega⟩ ⟨by omega, by omega⟩ ⟨by omega, by omega⟩ p_F12 p_NP p_SF p_WF iM kM
  · skip
    exact s_X9_cause_84 ⟨by omega, by omega⟩ ⟨by omega, by omega⟩ ⟨by omega, by omega⟩ p_F12 p_NP p_SF p_WF iM kM
theorem s_X9_cause {n : Nat} {l1 l2 l3 l4 : Int} {M : Mem} (r_l1 : (-2147483648) ≤ l1 ∧ l1 ≤ 2147483647) (r_l2 : (-2147483648) ≤ l2 ∧ l2 ≤ 2147483647) (r_l3 : (-2147483648) ≤ l3 ∧ l3 ≤ 2147483647) (r_l4 : (-2147483648) ≤ l4 ∧ l4 ≤ 2147483647) (p_WF : WF M) (iM : I n M) : wp (mX9_cause 126 l1 l2 l3 l4 M) (fun q => I n q.2 ∧ Keep n W_X9_cause M q.2 ∧ ((-1) ≤ q.1 ∧ q.1 ≤ 7) ∧ True) := by
  have hn : (169 : Int) ≤ (n : Int) := by have := iM.2.2.2.2.1; omega
  have kM : Keep n W_X9_cause M M := Keep.rf
  unfold mX9_cause
  refine w_pF (ji := 0) rfl (congrArg Prod.fst (kl_126 iM)) (fun M2 hM2 => ?_)
  replace hM2 : M2 = mS M 126 0 0 := hM2
  have iM2 : I n M2 := wr_Model_0 iM rfl ⟨by omega, by omega⟩ hM2
  have kM2 : Keep n W_X9_cause M M2 := kM.st hM2 (Or.inl (Or.inr (Or.inr (Or.inr (Or.inl ⟨rfl, rfl⟩)))))
  refine w_gK (congrArg Prod.fst (kl_126 iM2)) ?_
  refine w_call (s_X9_toldFact ⟨by omega, by omega⟩ ⟨by omega, by omega⟩ ⟨by omega, by omega⟩ iM2) ?_
  intro v9 m9 pp9
  obtain ⟨im9, kk9, e9_0, e9_1, e9_2, e9_3, -⟩ := pp9
  try dsimp only
  replace im9 : I n m9 := im9
  replace kk9 : Keep n W_X9_toldFact M2 m9 := kk9
  have km9 : Keep n W_X9_cause M m9 := kM2.tr kk9 (fun b j z => by unfold W_X9_toldFact at z; exact (Or.inl ⟨by omega, by omega⟩))
  replace e9_0 : (-1) ≤ v9 ∧ v9 ≤ 35 := e9_0
  replace e9_1 : NP m9 := e9_1
  have gNP_m9 := e9_1
  replace e9_2 : SF m9 := e9_2
  have gSF_m9 := e9_2
  replace e9_3 : FB m9 v9 := e9_3
  refine w_if (fun c1_ => ?_) (fun c1_ => ?_)
  · skip
    exact w_ret ⟨im9, km9, (show (-1) ≤ (-1) ∧ (-1) ≤ 7 from ⟨by omega, by omega⟩), trivial⟩
  · skip
    refine w_gK (congrArg Prod.fst (kl_126 im9)) ?_
    refine w_call (s_X9_canTell im9) ?_
    intro v21 m21 pp21
    obtain ⟨im21, kk21, e21_0, e21_1, e21_2, e21_3, -⟩ := pp21
    try dsimp only
    replace im21 : I n m21 := im21
    replace kk21 : Keep n W_X9_canTell m9 m21 := kk21
    have km21 : Keep n W_X9_cause M m21 := km9.tr kk21 (fun b j z => by unfold W_X9_canTell at z; exact (Or.inl ⟨by omega, by omega⟩))
    replace e21_0 : 0 ≤ v21 ∧ v21 ≤ 1 := e21_0
    replace e21_1 : NP m21 := e21_1
    have gNP_m21 := e21_1
    replace e21_2 : SF m21 := e21_2
    have gSF_m21 := e21_2
    replace e21_3 : v21 = 1 → F12 m21 := e21_3
    have ev21 := e21_3
    refine w_if (fun c2_ => ?_) (fun c2_ => ?_)
    · skip
      exact w_ret ⟨im21, km21, (show (-1) ≤ (-1) ∧ (-1) ≤ 7 from ⟨by omega, by omega⟩), trivial⟩
    · skip
      have pF12_c2__m21 : F12 m21 := ev21 (by omega)
      refine w_gK (congrArg Prod.fst (kl_126 im21)) ?_
      have ppWF_m21 : WF m21 := (WF_of (WF_of (WF_of p_WF (fun j => st_ne hM2 (fun z => ne_fam rfl rfl (by decide) z.1)) (fun j => st_ne hM2 (fun z => ne_fam rfl rfl (by decide) z.1)) (fun j => st_ne hM2 (fun z => ne_fam rfl rfl (by decide) z.1)) (fun j => st_ne hM2 (fun z => ne_fam rfl rfl (by decide) z.1)) (fun j => st_ne hM2 (fun z => ne_fam rfl rfl (by decide) z.1))) (fun j => kk9.2.2 141 j (by omega) (fun z => by unfold W_X9_toldFact at z; (try unfold isWS at z); (try unfold isShape at z); (try unfold isTold at z); (try dsimp only at z); omega)) (fun j => kk9.2.2 142 j (by omega) (fun z => by unfold W_X9_toldFact at z; (try unfold isWS at z); (try unfold isShape at z); (try unfold isTold at z); (try dsimp only at z); omega)) (fun j => kk9.2.2 143 j (by omega) (fun z => by unfold W_X9_toldFact at z; (try unfold isWS at z); (try unfold isShape at z); (try unfold isTold at z); (try dsimp only at z); omega)) (fun j => kk9.2.2 144 j (by omega) (fun z => by unfold W_X9_toldFact at z; (try unfold isWS at z); (try unfold isShape at z); (try unfold isTold at z); (try dsimp only at z); omega)) (fun j => kk9.2.2 138 j (by omega) (fun z => by unfold W_X9_toldFact at z; (try unfold isWS at z); (try unfold isShape at z); (try unfold isTold at z); (try dsimp only at z); omega))) (fun j => kk21.2.2 141 j (by omega) (fun z => by unfold W_X9_canTell at z; (try unfold isWS at z); (try unfold isShape at z); (try unfold isTold at z); (try dsimp only at z); omega)) (fun j => kk21.2.2 142 j (by omega) (fun z => by unfold W_X9_canTell at z; (try unfold isWS at z); (try unfold isShape at z); (try unfold isTold at z); (try dsimp only at z); omega)) (fun j => kk21.2.2 143 j (by omega) (fun z => by unfold W_X9_canTell at z; (try unfold isWS at z); (try unfold isShape at z); (try unfold isTold at z); (try dsimp only at z); omega)) (fun j => kk21.2.2 144 j (by omega) (fun z => by unfold W_X9_canTell at z; (try unfold isWS at z); (try unfold isShape at z); (try unfold isTold at z); (try dsimp only at z); omega)) (fun j => kk21.2.2 138 j (by omega) (fun z => by unfold W_X9_canTell at z; (try unfold isWS at z); (try unfold isShape at z); (try unfold isTold at z); (try dsimp only at z); omega)))
      refine w_call (s_X9_countFacts pF12_c2__m21 gNP_m21 ppWF_m21 im21) ?_
      intro v30 m30 pp30
      obtain ⟨im30, kk30, -⟩ := pp30
      try dsimp only
      replace im30 : I n m30 := im30
      replace kk30 : Keep n W_X9_countFacts m21 m30 := kk30
      have km30 : Keep n W_X9_cause M m30 := km21.tr kk30 (fun b j z => Or.elim z (fun z => (Or.inl ⟨by omega, by omega⟩)) (fun z => Or.elim z (fun z => (Or.inr (Or.inl z))) (fun z => Or.elim z (fun z => (Or.inr (Or.inr (Or.inl ⟨by omega, by omega⟩)))) (fun z => Or.elim z (fun z => (Or.inr (Or.inr (Or.inr (Or.inr (Or.inl z)))))) (fun z => Or.elim z (fun z => (Or.inr (Or.inr (Or.inr (Or.inr (Or.inr (Or.inl z))))))) (fun z => Or.elim z (fun z => (Or.inr (Or.inr (Or.inr (Or.inr (Or.inr (Or.inr (Or.inl z)))))))) (fun z => Or.elim z (fun z => (Or.inr (Or.inr (Or.inr (Or.inr (Or.inr (Or.inr (Or.inr (Or.inl z))))))))) (fun z => (Or.inr (Or.inr (Or.inr (Or.inr (Or.inr (Or.inr (Or.inr (Or.inr z))))))))))))))))
      refine w_gF (ji := 57) rfl (congrArg Prod.fst (kl_126 im30)) (fun a34 ha34 => ?_)
      have ra34 : (-2147483648) ≤ a34 ∧ a34 ≤ 2147483647 := ha34.tr (P := fun z => (-2147483648) ≤ z ∧ z ≤ 2147483647) (rd_Model_57 im30 rfl)
      refine w_if (fun c3_ => ?_) (fun c3_ => ?_)
      · skip
        exact w_ret ⟨im30, km30, (show (-1) ≤ (-1) ∧ (-1) ≤ 7 from ⟨by omega, by omega⟩), trivial⟩
      · skip
        refine w_gFc (ji := 56) rfl (congrArg Prod.fst (kl_126 im30)) (show mG m30 126 56 = 164 from rd_Model_56 im30 (a := 126) rfl) ?_
        have lp4_ : FB m30 (v9) := (FB_of (FB_of e9_3 (fun j => kk21.2.2 133 j (by omega) (fun z => by unfold W_X9_canTell at z; (try unfold isWS at z); (try unfold isShape at z); (try unfold isTold at z); (try dsimp only at z); omega)) (fun j => kk21.2.2 134 j (by omega) (fun z => by unfold W_X9_canTell at z; (try unfold isWS at z); (try unfold isShape at z); (try unfold isTold at z); (try dsimp only at z); omega)) (fun j => kk21.2.2 135 j (by omega) (fun z => by unfold W_X9_canTell at z; (try unfold isWS at z); (try unfold isShape at z); (try unfold isTold at z); (try dsimp only at z); omega)) (fun j => kk21.2.2 136 j (by omega) (fun z => by unfold W_X9_canTell at z; (try unfold isWS at z); (try unfold isShape at z); (try unfold isTold at z); (try dsimp only at z); omega))) (fun j => kk30.2.2 133 j (by omega) (fun z => by unfold W_X9_countFacts at z; (try unfold isWS at z); (try unfold isShape at z); (try unfold isTold at z); (try dsimp only at z); omega)) (fun j => kk30.2.2 134 j (by omega) (fun z => by unfold W_X9_countFacts at z; (try unfold isWS at z); (try unfold isShape at z); (try unfold isTold at z); (try dsimp only at z); omega)) (fun j => kk30.2.2 135 j (by omega) (fun z => by unfold W_X9_countFacts at z; (try unfold isWS at z); (try unfold isShape at z); (try unfold isTold at z); (try dsimp only at z); omega)) (fun j => kk30.2.2 136 j (by omega) (fun z => by unfold W_X9_countFacts at z; (try unfold isWS at z); (try unfold isShape at z); (try unfold isTold at z); (try dsimp only at z); omega)))
        have ppSF_m30 : SF m30 := (SF_of gSF_m21 (fun j => kk30.2.2 153 j (by omega) (fun z => by unfold W_X9_countFacts at z; (try unfold isWS at z); (try unfold isShape at z); (try unfold isTold at z); (try dsimp only at z); omega)) (fun j => kk30.2.2 134 j (by omega) (fun z => by unfold W_X9_countFacts at z; (try unfold isWS at z); (try unfold isShape at z); (try unfold isTold at z); (try dsimp only at z); omega)) (fun j => kk30.2.2 133 j (by omega) (fun z => by unfold W_X9_countFacts at z; (try unfold isWS at z); (try unfold isShape at z); (try unfold isTold at z); (try dsimp only at z); omega)) (fun j => kk30.2.2 135 j (by omega) (fun z => by unfold W_X9_countFacts at z; (try unfold isWS at z); (try unfold isShape at z); (try unfold isTold at z); (try dsimp only at z); omega)) (fun j => kk30.2.2 136 j (by omega) (fun z => by unfold W_X9_countFacts at z; (try unfold isWS at z); (try unfold isShape at z); (try unfold isTold at z); (try dsimp only at z); omega)) (fun j => kk30.2.2 152 j (by omega) (fun z => by unfold W_X9_countFacts at z; (try unfold isWS at z); (try unfold isShape at z); (try unfold isTold at z); (try dsimp only at z); omega)))
        have ppF12_m30 : F12 m30 := (F12_of pF12_c2__m21 (fun j => kk30.2.2 153 j (by omega) (fun z => by unfold W_X9_countFacts at z; (try unfold isWS at z); (try unfold isShape at z); (try unfold isTold at z); (try dsimp only at z); omega)) (fun j => kk30.2.2 134 j (by omega) (fun z => by unfold W_X9_countFacts at z; (try unfold isWS at z); (try unfold isShape at z); (try unfold isTold at z); (try dsimp only at z); omega)))
        have w5_ := FB.lt lp4_ ppSF_m30 ppF12_m30 im30
        refine w_aG (kl_164 im30) (by omega) (by omega) (fun a46 ha46 => ?_)
        have ra46 : (-2147483648) ≤ a46 ∧ a46 ≤ 2147483647 := ha46.tr (P := fun z => (-2147483648) ≤ z ∧ z ≤ 2147483647) (rd_Moften im30 rfl)
        refine w_if (fun c6_ => ?_) (fun c6_ => ?_)
        · skip
          have ppNP_m30 : NP m30 := (NP_of gNP_m21 (fun j => kk30.2.2 152 j (by omega) (fun z => by unfold W_X9_countFacts at z; (try unfold isWS at z); (try unfold isShape at z); (try unfold isTold at z); (try dsimp only at z); omega)))
          have ppWF_m30 : WF m30 := (WF_of ppWF_m21 (fun j => kk30.2.2 141 j (by omega) (fun z => by unfold W_X9_countFacts at z; (try unfold isWS at z); (try unfold isShape at z); (try unfold isTold at z); (try dsimp only at z); omega)) (fun j => kk30.2.2 142 j (by omega) (fun z => by unfold W_X9_countFacts at z; (try unfold isWS at z); (try unfold isShape at z); (try unfold isTold at z); (try dsimp only at z); omega)) (fun j => kk30.2.2 143 j (by omega) (fun z => by unfold W_X9_countFacts at z; (try unfold isWS at z); (try unfold isShape at z); (try unfold isTold at z); (try dsimp only at z); omega)) (fun j => kk30.2.2 144 j (by omega) (fun z => by unfold W_X9_countFacts at z; (try unfold isWS at z); (try unfold isShape at z); (try unfold isTold at z); (try dsimp only at z); omega)) (fun j => kk30.2.2 138 j (by omega) (fun z => by unfold W_X9_countFacts at z; (try unfold isWS at z); (try unfold isShape at z); (try unfold isTold at z); (try dsimp only at z); omega)))
          exact s_X9_cause_66 ⟨by omega, by omega⟩ ⟨by omega, by omega⟩ (FB.mono lp4_ (by omega)) ppF12_m30 ppNP_m30 ppSF_m30 ppWF_m30 im30 km30
        · skip
          refine w_gFc (ji := 56) rfl (congrArg Prod.fst (kl_126 im30)) (show mG m30 126 56 = 164 from rd_Model_56 im30 (a := 126) rfl) ?_
          refine w_aGc (kl_164 im30) (by omega) (by omega) (show mG m30 164 v9 = a46 from (show mG m30 164 v9 = a46 from ha46)) ?_
          refine w_gFc (ji := 57) rfl (congrArg Prod.fst (kl_126 im30)) (show mG m30 126 57 = a34 from (show mG m30 126 57 = a34 from ha34)) ?_
          refine w_if (fun c7_ => ?_) (fun c7_ => ?_)
          · skip
            have ppNP_m30 : NP m30 := (NP_of gNP_m21 (fun j => kk30.2.2 152 j (by omega) (fun z => by unfold W_X9_countFacts at z; (try unfold isWS at z); (try unfold isShape at z); (try unfold isTold at z); (try dsimp only at z); omega)))
            have ppWF_m30 : WF m30 := (WF_of ppWF_m21 (fun j => kk30.2.2 141 j (by omega) (fun z => by unfold W_X9_countFacts at z; (try unfold isWS at z); (try unfold isShape at z); (try unfold isTold at z); (try dsimp only at z); omega)) (fun j => kk30.2.2 142 j (by omega) (fun z => by unfold W_X9_countFacts at z; (try unfold isWS at z); (try unfold isShape at z); (try unfold isTold at z); (try dsimp only at z); omega)) (fun j => kk30.2.2 143 j (by omega) (fun z => by unfold W_X9_countFacts at z; (try unfold isWS at z); (try unfold isShape at z); (try unfold isTold at z); (try dsimp only at z); omega)) (fun j => kk30.2.2 144 j (by omega) (fun z => by unfold W_X9_countFacts at z; (try unfold isWS at z); (try unfold isShape at z); (try unfold isTold at z); (try dsimp only at z); omega)) (fun j => kk30.2.2 138 j (by omega) (fun z => by unfold W_X9_countFacts at z; (try unfold isWS at z); (try unfold isShape at z); (try unfold isTold at z); (try dsimp only at z); omega)))
            exact s_X9_cause_66 ⟨by omega, by omega⟩ ⟨by omega, by omega⟩ (FB.mono lp4_ (by omega)) ppF12_m30 ppNP_m30 ppSF_m30 ppWF_m30 im30 km30
          · skip
            exact w_ret ⟨im30, km30, (show (-1) ≤ (-1) ∧ (-1) ≤ 7 from ⟨by omega, by omega⟩), trivial⟩
