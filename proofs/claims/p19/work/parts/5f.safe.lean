def W_X0_sizeAt (b j : Int) : Prop := False
theorem s_X0_sizeAt {n : Nat} {l1 : Int} {M : Mem} (r_l1 : 0 ≤ l1 ∧ l1 ≤ 39) (lpLPt : LPt n M (l1)) (p_JS : JS M) (p_JT : JT M) (iM : I n M) : wp (mX0_sizeAt 20 l1 M) (fun q => I n q.2 ∧ Keep n W_X0_sizeAt M q.2 ∧ (0 ≤ q.1 ∧ q.1 ≤ 3) ∧ True) := by
  have hn : (169 : Int) ≤ (n : Int) := by have := iM.2.2.2.2.1; omega
  have kM : Keep n W_X0_sizeAt M M := Keep.rf
  unfold mX0_sizeAt
  refine w_gF (ji := 1) rfl (congrArg Prod.fst (kl_20 iM)) (fun a1 ha1 => ?_)
  have xa1 : TX n M a1 := by rw [← ha1.e]; exact iM.2.2.1.2.2
  have na1 : ¬ a1 = 0 := by rw [← ha1.e]; exact p_JT
  obtain ⟨q1_, m2_, t3_⟩ := TX.nn xa1 na1
  refine w_gFc (ji := 3) rfl (congrArg Prod.fst (tn_k t3_)) (tn_3 t3_) ?_
  have w4_ := tn_p t3_
  have w5_ := LPt.use lpLPt ((show mG M 20 1 = a1 from ha1)) t3_
  refine w_aG (tn_a3 t3_) (by omega) (by omega) (fun a8 ha8 => ?_)
  refine w_if (fun c6_ => ?_) (fun c6_ => ?_)
  · skip
    exact w_ret ⟨iM, kM, (show 0 ≤ 0 ∧ 0 ≤ 3 from ⟨by omega, by omega⟩), trivial⟩
  · skip
    refine w_if (fun c7_ => ?_) (fun c7_ => ?_)
    · skip
      exact w_ret ⟨iM, kM, (show 0 ≤ 0 ∧ 0 ≤ 3 from ⟨by omega, by omega⟩), trivial⟩
    · skip
      refine w_gF (ji := 0) rfl (congrArg Prod.fst (kl_20 iM)) (fun a20 ha20 => ?_)
      have h_a20 : isShape a20 := by rw [← ha20.e]; exact p_JS
      have u_a20 := h_a20
      unfold isShape at u_a20
      refine w_gFc (ji := 0) rfl (congrArg Prod.fst (k_Shape iM h_a20)) (show mG M a20 0 = (a20 + 1) from rd_Shape_0 iM (a := a20) (f_Shape h_a20)) ?_
      refine w_aG (k_Ssizes iM h_a20) (by omega) (by omega) (fun a27 ha27 => ?_)
      have ra27 : 1 ≤ a27 ∧ a27 ≤ 3 := ha27.tr (P := fun z => 1 ≤ z ∧ z ≤ 3) (rd_Ssizes iM (f_Ssizes h_a20) (by omega) (by omega))
      exact w_ret ⟨iM, kM, (show 0 ≤ a27 ∧ a27 ≤ 3 from ⟨by omega, by omega⟩), trivial⟩
def W_X0_atLeast (b j : Int) : Prop := False
theorem s_X0_atLeast {n : Nat} {l0 l1 l3 l5 : Int} {M : Mem} (iM : I n M) : wp (mX0_atLeast l0 l1 l3 l5 M) (fun q => I n q.2 ∧ Keep n W_X0_atLeast M q.2 ∧ True) := by
  have hn : (169 : Int) ≤ (n : Int) := by have := iM.2.2.2.2.1; omega
  have kM : Keep n W_X0_atLeast M M := Keep.rf
  unfold mX0_atLeast
  refine w_if (fun c1_ => ?_) (fun c1_ => ?_)
  · skip
    exact w_ret ⟨iM, kM, trivial⟩
  · skip
    refine w_if (fun c2_ => ?_) (fun c2_ => ?_)
    · skip
      exact w_ret ⟨iM, kM, trivial⟩
    · skip
      refine w_if (fun c3_ => ?_) (fun c3_ => ?_)
      · skip
        exact w_ret ⟨iM, kM, trivial⟩
      · skip
        refine w_if (fun c4_ => ?_) (fun c4_ => ?_)
        · skip
          exact w_ret ⟨iM, kM, trivial⟩
        · skip
          exact w_ret ⟨iM, kM, trivial⟩
theorem sb_X0_counted_42 {n : Nat} {Me : Mem} {dd : Int} {f_judged : Int → Int → Int → Mem → Option (Int × Mem)} (hf_judged : ∀ (l1 l2 : Int) (M : Mem), (0 ≤ l1 ∧ l1 ≤ 40) → (0 ≤ l2 ∧ l2 ≤ 41) → (41 - l2 < dd) → (JS M) → (JT M) → I n M → wp (f_judged 20 l1 l2 M) (fun q => I n q.2 ∧ Keep n W_X0_judged M q.2 ∧ True)) {f_counted : Int → Int → Int → Mem → Option (Int × Mem)} {f_joined : Int → Int → Int → Mem → Option (Int × Mem)} {k42 : Int → Int → Int → Int → Int → Int → Int → Int → Int → Mem → Option (Int × Mem)} {fu42 : Nat} (hk42 : ∀ (l1 l2 l3 l4 l5 l7 l9 l11 : Int) (M : Mem), (0 ≤ l1 ∧ l1 ≤ 39) → (0 ≤ l2 ∧ l2 ≤ 40) → (0 ≤ l3 ∧ l3 ≤ 3) → (0 ≤ l4 ∧ l4 ≤ 3) → (0 ≤ l11 ∧ l11 ≤ 3) → (41 - l2 < dd + 1) → (LPt n M (l1)) → (JS M) → (JT M) → 4 - l11 < (fu42 : Int) → I n M → Keep n W_X0_counted Me M → wp (k42 20 l1 l2 l3 l4 l5 l7 l9 l11 M) (fun q => I n q.2 ∧ Keep n W_X0_counted Me q.2 ∧ True)) {l1 l2 l3 l4 l5 l7 l9 l11 : Int} {M : Mem} (r_l1 : 0 ≤ l1 ∧ l1 ≤ 39) (r_l2 : 0 ≤ l2 ∧ l2 ≤ 40) (r_l3 : 0 ≤ l3 ∧ l3 ≤ 3) (r_l4 : 0 ≤ l4 ∧ l4 ≤ 3) (r_l11 : 0 ≤ l11 ∧ l11 ≤ 3) (z0 : 41 - l2 < dd + 1) (lpLPt : LPt n M (l1)) (p_JS : JS M) (p_JT : JT M) (hf42 : 4 - l11 < (fu42 : Int) + 1) (iM : I n M) (kM : Keep n W_X0_counted Me M) : wp (bX0_counted_42 f_judged f_counted f_joined k42 20 l1 l2 l3 l4 l5 l7 l9 l11 M) (fun q => I n q.2 ∧ Keep n W_X0_counted Me q.2 ∧ True) := by
  have hn : (169 : Int) ≤ (n : Int) := by have := iM.2.2.2.2.1; omega
  unfold bX0_counted_42
  refine w_if (fun c1_ => ?_) (fun c1_ => ?_)
  · skip
    refine w_gF (ji := 1) rfl (congrArg Prod.fst (kl_20 iM)) (fun a103 ha103 => ?_)
    have xa103 : TX n M a103 := by rw [← ha103.e]; exact iM.2.2.1.2.2
    have na103 : ¬ a103 = 0 := by rw [← ha103.e]; exact p_JT
    obtain ⟨q2_, m3_, t4_⟩ := TX.nn xa103 na103
    refine w_gFc (ji := 0) rfl (congrArg Prod.fst (tn_k t4_)) (tn_0 t4_) ?_
    have w5_ := tn_p t4_
    have w6_ := LPt.use lpLPt ((show mG M 20 1 = a103 from ha103)) t4_
    refine w_aG (tn_a0 t4_) (by omega) (by omega) (fun a110 ha110 => ?_)
    refine w_if (fun c7_ => ?_) (fun c7_ => ?_)
    · skip
      refine w_call (s_X0_atLeast iM) ?_
      intro v143 m143 pp143
      obtain ⟨im143, kk143, -⟩ := pp143
      try dsimp only
      replace im143 : I n m143 := im143
      replace kk143 : Keep n W_X0_atLeast M m143 := kk143
      have km143 : Keep n W_X0_counted Me m143 := kM.tr kk143 (fun b j z => z.elim)
      exact w_ret ⟨im143, km143, trivial⟩
    · skip
      refine w_if (fun c8_ => ?_) (fun c8_ => ?_)
      · skip
        exact w_ret ⟨iM, kM, trivial⟩
      · skip
        refine w_if (fun c9_ => ?_) (fun c9_ => ?_)
        · skip
          refine w_gFc (ji := 1) rfl (congrArg Prod.fst (kl_20 iM)) (show mG M 20 1 = a103 from (show mG M 20 1 = a103 from ha103)) ?_
          refine w_gFc (ji := 1) rfl (congrArg Prod.fst (tn_k t4_)) (tn_1 t4_) ?_
          have w10_ := tn_p t4_
          have w11_ := LPt.use lpLPt ((show mG M 20 1 = a103 from ha103)) t4_
          refine w_aG (tn_a1 t4_) (by omega) (by omega) (fun a158 ha158 => ?_)
          refine w_call (s_X0_atLeast iM) ?_
          intro v165 m165 pp165
          obtain ⟨im165, kk165, -⟩ := pp165
          try dsimp only
          replace im165 : I n m165 := im165
          replace kk165 : Keep n W_X0_atLeast M m165 := kk165
          have km165 : Keep n W_X0_counted Me m165 := kM.tr kk165 (fun b j z => z.elim)
          exact w_ret ⟨im165, km165, trivial⟩
        · skip
          refine w_gFc (ji := 1) rfl (congrArg Prod.fst (kl_20 iM)) (show mG M 20 1 = a103 from (show mG M 20 1 = a103 from ha103)) ?_
          refine w_gFc (ji := 1) rfl (congrArg Prod.fst (tn_k t4_)) (tn_1 t4_) ?_
          have w12_ := tn_p t4_
          have w13_ := LPt.use lpLPt ((show mG M 20 1 = a103 from ha103)) t4_
          refine w_aG (tn_a1 t4_) (by omega) (by omega) (fun a177 ha177 => ?_)
          have w14_ := And.intro (wI_lo (a177 + 1)) (wI_hi (a177 + 1))
          refine w_call (s_X0_atLeast iM) ?_
          intro v186 m186 pp186
          obtain ⟨im186, kk186, -⟩ := pp186
          try dsimp only
          replace im186 : I n m186 := im186
          replace kk186 : Keep n W_X0_atLeast M m186 := kk186
          have km186 : Keep n W_X0_counted Me m186 := kM.tr kk186 (fun b j z => z.elim)
          exact w_ret ⟨im186, km186, trivial⟩
  · skip
    refine w_gFc (ji := 3) rfl (congrArg Prod.fst (kl_20 iM)) (show mG M 20 3 = 22 from rd_Judge_3 iM (a := 20) rfl) ?_
    refine w_aS (kl_22 iM) (by omega) (by omega) (fun M56 hM56 => ?_)
    replace hM56 : M56 = mS M 22 l4 l11 := hM56
    have iM56 : I n M56 := wr_Jchosen iM rfl ⟨by omega, by omega⟩ hM56
    have kM56 : Keep n W_X0_counted Me M56 := kM.st hM56 (Or.inl (Or.inl ⟨by decide, by decide⟩))
    refine w_gK (congrArg Prod.fst (kl_20 iM56)) ?_
    have w15_ := wI_id (x := (l1 + 1)) (by omega) (by omega)
    have w16_ := wI_id (x := (l2 + 1)) (by omega) (by omega)
    have ppJS_M56 : JS M56 := (JS_of p_JS (st_ne hM56 (fun z => ne_fam rfl rfl (by decide) z.1)))
    have ppJT_M56 : JT M56 := (JT_of p_JT (st_ne hM56 (fun z => ne_fam rfl rfl (by decide) z.1)))
    refine w_call (hf_judged _ _ _ ⟨by omega, by omega⟩ ⟨by omega, by omega⟩ (by all_goals omega) ppJS_M56 ppJT_M56 iM56) ?_
    intro v64 m64 pp64
    obtain ⟨im64, kk64, -⟩ := pp64
    try dsimp only
    replace im64 : I n m64 := im64
    replace kk64 : Keep n W_X0_judged M56 m64 := kk64
    have km64 : Keep n W_X0_counted Me m64 := kM56.tr kk64 (fun b j z => Or.elim z (fun z => (Or.inl z)) (fun z => (Or.inr z)))
    have w22_ := wI_id (x := (l11 + 1)) (by omega) (by omega)
    have lp23_ : LPt n m64 (l1) := (LPt_of (LPt_of lpLPt (st_ne hM56 (fun z => ne_fam rfl rfl (by decide) z.1)) (otx_st hM56 (by omega))) (kk64.2.2 20 1 (by omega) (fun z => by unfold W_X0_judged at z; (try unfold isWS at z); (try unfold isShape at z); (try unfold isTold at z); (try dsimp only at z); omega)) (otx_kp kk64 (fun b j z => by unfold W_X0_judged at z; (try unfold isWS at z); (try unfold isShape at z); (try unfold isTold at z); (try dsimp only at z); omega)))
    have ppJS_m64 : JS m64 := (JS_of ppJS_M56 (kk64.2.2 20 0 (by omega) (fun z => by unfold W_X0_judged at z; (try unfold isWS at z); (try unfold isShape at z); (try unfold isTold at z); (try dsimp only at z); omega)))
    have ppJT_m64 : JT m64 := (JT_of ppJT_M56 (kk64.2.2 20 1 (by omega) (fun z => by unfold W_X0_judged at z; (try unfold isWS at z); (try unfold isShape at z); (try unfold isTold at z); (try dsimp only at z); omega)))
    exact hk42 _ _ _ _ _ _ _ _ _ ⟨by omega, by omega⟩ ⟨by omega, by omega⟩ ⟨by omega, by omega⟩ ⟨by omega, by omega⟩ ⟨by omega, by omega⟩ (by all_goals omega) (LPt.mono lp23_ (by omega)) ppJS_m64 ppJT_m64 (by omega) im64 km64
theorem s_X0_counted_42 {n : Nat} {Me : Mem} {dd : Int} {f_judged : Int → Int → Int → Mem → Option (Int × Mem)} (hf_judged : ∀ (l1 l2 : Int) (M : Mem), (0 ≤ l1 ∧ l1 ≤ 40) → (0 ≤ l2 ∧ l2 ≤ 41) → (41 - l2 < dd) → (JS M) → (JT M) → I n M → wp (f_judged 20 l1 l2 M) (fun q => I n q.2 ∧ Keep n W_X0_judged M q.2 ∧ True)) {f_counted : Int → Int → Int → Mem → Option (Int × Mem)} {f_joined : Int → Int → Int → Mem → Option (Int × Mem)} : ∀ (fu : Nat) (l1 l2 l3 l4 l5 l7 l9 l11 : Int) (M : Mem), (0 ≤ l1 ∧ l1 ≤ 39) → (0 ≤ l2 ∧ l2 ≤ 40) → (0 ≤ l3 ∧ l3 ≤ 3) → (0 ≤ l4 ∧ l4 ≤ 3) → (0 ≤ l11 ∧ l11 ≤ 3) → (41 - l2 < dd + 1) → (LPt n M (l1)) → (JS M) → (JT M) → 4 - l11 < (fu : Int) → I n M → Keep n W_X0_counted Me M → wp (mX0_counted_42 f_judged f_counted f_joined fu 20 l1 l2 l3 l4 l5 l7 l9 l11 M) (fun q => I n q.2 ∧ Keep n W_X0_counted Me q.2 ∧ True) := by
  intro fu
  induction fu with
  | zero =>
    intro l1 l2 l3 l4 l5 l7 l9 l11 M r_l1 r_l2 r_l3 r_l4 r_l11 z0 lpLPt p_JS p_JT hf iM kM
    exfalso
    omega
  | succ fu ih =>
    intro l1 l2 l3 l4 l5 l7 l9 l11 M r_l1 r_l2 r_l3 r_l4 r_l11 z0 lpLPt p_JS p_JT hf iM kM
    exact sb_X0_counted_42 hf_judged ih r_l1 r_l2 r_l3 r_l4 r_l11 z0 lpLPt p_JS p_JT (by have e : ((fu + 1 : Nat) : Int) = (fu : Int) + 1 := rfl; rw [e] at hf; exact hf) iM kM
theorem s_X0_counted {n : Nat} {dd : Int} {f_judged : Int → Int → Int → Mem → Option (Int × Mem)} (hf_judged : ∀ (l1 l2 : Int) (M : Mem), (0 ≤ l1 ∧ l1 ≤ 40) → (0 ≤ l2 ∧ l2 ≤ 41) → (41 - l2 < dd) → (JS M) → (JT M) → I n M → wp (f_judged 20 l1 l2 M) (fun q => I n q.2 ∧ Keep n W_X0_judged M q.2 ∧ True)) {f_counted : Int → Int → Int → Mem → Option (Int × Mem)} {f_joined : Int → Int → Int → Mem → Option (Int × Mem)} {l1 l2 : Int} {M : Mem} (r_l1 : 0 ≤ l1 ∧ l1 ≤ 39) (r_l2 : 0 ≤ l2 ∧ l2 ≤ 40) (z0 : 41 - l2 < dd + 1) (lpLPt : LPt n M (l1)) (p_JS : JS M) (p_JT : JT M) (iM : I n M) : wp (mX0_counted f_judged f_counted f_joined 20 l1 l2 M) (fun q => I n q.2 ∧ Keep n W_X0_counted M q.2 ∧ True) := by
  have hn : (169 : Int) ≤ (n : Int) := by have := iM.2.2.2.2.1; omega
  have kM : Keep n W_X0_counted M M := Keep.rf
  unfold mX0_counted
  refine w_gK (congrArg Prod.fst (kl_20 iM)) ?_
  refine w_call (s_X0_sizeAt ⟨by omega, by omega⟩ (LPt.mono lpLPt (by omega)) p_JS p_JT iM) ?_
  intro v2 m2 pp2
  obtain ⟨im2, kk2, e2_0, -⟩ := pp2
  try dsimp only
  replace im2 : I n m2 := im2
  replace kk2 : Keep n W_X0_sizeAt M m2 := kk2
  have km2 : Keep n W_X0_counted M m2 := kM.tr kk2 (fun b j z => z.elim)
  replace e2_0 : 0 ≤ v2 ∧ v2 ≤ 3 := e2_0
  refine w_gF (ji := 1) rfl (congrArg Prod.fst (kl_20 im2)) (fun a7 ha7 => ?_)
  have xa7 : TX n m2 a7 := by rw [← ha7.e]; exact im2.2.2.1.2.2
  have ppJT_m2 : JT m2 := (JT_of p_JT (kk2.2.2 20 1 (by omega) (fun z => z)))
  have na7 : ¬ a7 = 0 := by rw [← ha7.e]; exact ppJT_m2
  obtain ⟨q1_, m2_, t3_⟩ := TX.nn xa7 na7
  refine w_gFc (ji := 2) rfl (congrArg Prod.fst (tn_k t3_)) (tn_2 t3_) ?_
  have w4_ := tn_p t3_
  have lp5_ : LPt n m2 (l1) := (LPt_of lpLPt (kk2.2.2 20 1 (by omega) (fun z => z)) (otx_kp kk2 (fun b j z => z.elim)))
  have w6_ := LPt.use lp5_ ((show mG m2 20 1 = a7 from ha7)) t3_
  refine w_aG (tn_a2 t3_) (by omega) (by omega) (fun a14 ha14 => ?_)
  refine w_if (fun c7_ => ?_) (fun c7_ => ?_)
  · skip
    exact w_ret ⟨im2, km2, trivial⟩
  · skip
    refine w_if (fun c8_ => ?_) (fun c8_ => ?_)
    · skip
      have ppJS_m2 : JS m2 := (JS_of p_JS (kk2.2.2 20 0 (by omega) (fun z => z)))
      exact s_X0_counted_42 hf_judged FU _ _ _ _ _ _ _ _ _ ⟨by omega, by omega⟩ ⟨by omega, by omega⟩ ⟨by omega, by omega⟩ ⟨by omega, by omega⟩ ⟨by omega, by omega⟩ (by all_goals omega) (LPt.mono lp5_ (by omega)) ppJS_m2 ppJT_m2 (by show _ < (70000 : Int); omega) im2 km2
    · skip
      exact w_ret ⟨im2, km2, trivial⟩
theorem s_X0_joined {n : Nat} {dd : Int} {f_judged : Int → Int → Int → Mem → Option (Int × Mem)} (hf_judged : ∀ (l1 l2 : Int) (M : Mem), (0 ≤ l1 ∧ l1 ≤ 40) → (0 ≤ l2 ∧ l2 ≤ 41) → (41 - l2 < dd) → (JS M) → (JT M) → I n M → wp (f_judged 20 l1 l2 M) (fun q => I n q.2 ∧ Keep n W_X0_judged M q.2 ∧ True)) {f_counted : Int → Int → Int → Mem → Option (Int × Mem)} {f_joined : Int → Int → Int → Mem → Option (Int × Mem)} {l1 l2 : Int} {M : Mem} (r_l1 : 0 ≤ l1 ∧ l1 ≤ 39) (r_l2 : 0 ≤ l2 ∧ l2 ≤ 40) (z0 : 41 - l2 < dd + 1) (lpLPt : LPt n M (l1)) (p_JS : JS M) (p_JT : JT M) (iM : I n M) : wp (mX0_joined f_judged f_counted f_joined 20 l1 l2 M) (fun q => I n q.2 ∧ Keep n W_X0_joined M q.2 ∧ True) := by
  have hn : (169 : Int) ≤ (n : Int) := by have := iM.2.2.2.2.1; omega
  have kM : Keep n W_X0_joined M M := Keep.rf
  unfold mX0_joined
  refine w_gF (ji := 1) rfl (congrArg Prod.fst (kl_20 iM)) (fun a4 ha4 => ?_)
  have xa4 : TX n M a4 := by rw [← ha4.e]; exact iM.2.2.1.2.2
  have na4 : ¬ a4 = 0 := by rw [← ha4.e]; exact p_JT
  obtain ⟨q1_, m2_, t3_⟩ := TX.nn xa4 na4
  refine w_gF (ji := 5) rfl (congrArg Prod.fst (tn_k t3_)) (fun a7 ha7 => ?_)
  have ra7 : a7 = (m2_ : Int) ∧ 1 ≤ a7 ∧ a7 ≤ 40 := by rw [← ha7.e]; exact tn_p t3_
  have w4_ := wI_id (x := (l1 + 1)) (by omega) (by omega)
  refine w_if (fun c5_ => ?_) (fun c5_ => ?_)
  · skip
    refine w_gK (congrArg Prod.fst (kl_20 iM)) ?_
    have w6_ := wI_id (x := (l2 + 1)) (by omega) (by omega)
    refine w_call (hf_judged _ _ _ ⟨by omega, by omega⟩ ⟨by omega, by omega⟩ (by all_goals omega) p_JS p_JT iM) ?_
    intro v22 m22 pp22
    obtain ⟨im22, kk22, -⟩ := pp22
    try dsimp only
    replace im22 : I n m22 := im22
    replace kk22 : Keep n W_X0_judged M m22 := kk22
    have km22 : Keep n W_X0_joined M m22 := kM.tr kk22 (fun b j z => Or.elim z (fun z => (Or.inl z)) (fun z => (Or.inr z)))
    refine w_gFc (ji := 1) rfl (congrArg Prod.fst (kl_20 im22)) (show mG m22 20 1 = a4 from ((kk22.2.2 20 1 (by omega) (fun z => by unfold W_X0_judged at z; (try unfold isWS at z); (try unfold isShape at z); (try unfold isTold at z); (try dsimp only at z); omega)).trans (show mG M 20 1 = a4 from ha4))) ?_
    have x7_ : TX n m22 a4 := (TX.ot xa4 (otx_kp kk22 (fun b j z => by unfold W_X0_judged at z; (try unfold isWS at z); (try unfold isShape at z); (try unfold isTold at z); (try dsimp only at z); omega)))
    have t11_ : TextN m22 a4 m2_ := (TextN.ot (n := n) t3_ (otx_kp kk22 (fun b j z => by unfold W_X0_judged at z; (try unfold isWS at z); (try unfold isShape at z); (try unfold isTold at z); (try dsimp only at z); omega)) (by omega) (by omega))
    refine w_gFc (ji := 4) rfl (congrArg Prod.fst (tn_k t11_)) (tn_4 t11_) ?_
    have w12_ := tn_p t11_
    have lp13_ : LPt n m22 (l1) := (LPt_of lpLPt (kk22.2.2 20 1 (by omega) (fun z => by unfold W_X0_judged at z; (try unfold isWS at z); (try unfold isShape at z); (try unfold isTold at z); (try dsimp only at z); omega)) (otx_kp kk22 (fun b j z => by unfold W_X0_judged at z; (try unfold isWS at z); (try unfold isShape at z); (try unfold isTold at z); (try dsimp only at z); omega)))
    have w14_ := LPt.use lp13_ (((kk22.2.2 20 1 (by omega) (fun z => by unfold W_X0_judged at z; (try unfold isWS at z); (try unfold isShape at z); (try unfold isTold at z); (try dsimp only at z); omega)).trans (show mG M 20 1 = a4 from ha4))) t11_
    refine w_aG (tn_a4 t11_) (by omega) (by omega) (fun a36 ha36 => ?_)
    have ra36 : 0 ≤ a36 ∧ a36 ≤ 40 := by rw [← ha36.e]; exact tn_b t11_
    refine w_gFc (ji := 1) rfl (congrArg Prod.fst (kl_20 im22)) (show mG m22 20 1 = a4 from ((kk22.2.2 20 1 (by omega) (fun z => by unfold W_X0_judged at z; (try unfold isWS at z); (try unfold isShape at z); (try unfold isTold at z); (try dsimp only at z); omega)).trans (show mG M 20 1 = a4 from ha4))) ?_
    refine w_gFc (ji := 0) rfl (congrArg Prod.fst (tn_k t11_)) (tn_0 t11_) ?_
    have w15_ := tn_p t11_
    have w16_ := LPt.use lp13_ (((kk22.2.2 20 1 (by omega) (fun z => by unfold W_X0_judged at z; (try unfold isWS at z); (try unfold isShape at z); (try unfold isTold at z); (try dsimp only at z); omega)).trans (show mG M 20 1 = a4 from ha4))) t11_
    refine w_aG (tn_a0 t11_) (by omega) (by omega) (fun a47 ha47 => ?_)
    refine w_if (fun c17_ => ?_) (fun c17_ => ?_)
    · skip
      exact w_ret ⟨im22, km22, trivial⟩
    · skip
      refine w_if (fun c18_ => ?_) (fun c18_ => ?_)
      · skip
        have w19_ := lcmp_0 (v22) (0)
        refine w_if (fun c20_ => ?_) (fun c20_ => ?_)
        · skip
          exact w_ret ⟨im22, km22, trivial⟩
        · skip
          refine w_gK (congrArg Prod.fst (kl_20 im22)) ?_
          have ppJS_m22 : JS m22 := (JS_of p_JS (kk22.2.2 20 0 (by omega) (fun z => by unfold W_X0_judged at z; (try unfold isWS at z); (try unfold isShape at z); (try unfold isTold at z); (try dsimp only at z); omega)))
          have ppJT_m22 : JT m22 := (JT_of p_JT (kk22.2.2 20 1 (by omega) (fun z => by unfold W_X0_judged at z; (try unfold isWS at z); (try unfold isShape at z); (try unfold isTold at z); (try dsimp only at z); omega)))
          refine w_call (hf_judged _ _ _ ⟨by omega, by omega⟩ ⟨by omega, by omega⟩ (by all_goals omega) ppJS_m22 ppJT_m22 im22) ?_
          intro v99 m99 pp99
          obtain ⟨im99, kk99, -⟩ := pp99
          try dsimp only
          replace im99 : I n m99 := im99
          replace kk99 : Keep n W_X0_judged m22 m99 := kk99
          have km99 : Keep n W_X0_joined M m99 := km22.tr kk99 (fun b j z => Or.elim z (fun z => (Or.inl z)) (fun z => (Or.inr z)))
          exact w_ret ⟨im99, km99, trivial⟩
      · skip
        refine w_if (fun c21_ => ?_) (fun c21_ => ?_)
        · skip
          have w22_ := lcmp_0 (v22) ((-1))
          refine w_if (fun c23_ => ?_) (fun c23_ => ?_)
          · skip
            exact w_ret ⟨im22, km22, trivial⟩
          · skip
            refine w_gK (congrArg Prod.fst (kl_20 im22)) ?_
            have ppJS_m22 : JS m22 := (JS_of p_JS (kk22.2.2 20 0 (by omega) (fun z => by unfold W_X0_judged at z; (try unfold isWS at z); (try unfold isShape at z); (try unfold isTold at z); (try dsimp only at z); omega)))
            have ppJT_m22 : JT m22 := (JT_of p_JT (kk22.2.2 20 1 (by omega) (fun z => by unfold W_X0_judged at z; (try unfold isWS at z); (try unfold isShape at z); (try unfold isTold at z); (try dsimp only at z); omega)))
            refine w_call (hf_judged _ _ _ ⟨by omega, by omega⟩ ⟨by omega, by omega⟩ (by all_goals omega) ppJS_m22 ppJT_m22 im22) ?_
            intro v125 m125 pp125
            obtain ⟨im125, kk125, -⟩ := pp125
            try dsimp only
            replace im125 : I n m125 := im125
            replace kk125 : Keep n W_X0_judged m22 m125 := kk125
            have km125 : Keep n W_X0_joined M m125 := km22.tr kk125 (fun b j z => Or.elim z (fun z => (Or.inl z)) (fun z => (Or.inr z)))
            exact w_ret ⟨im125, km125, trivial⟩
        · skip
          have w24_ := lcmp_0 (v22) (0)
          refine w_if (fun c25_ => ?_) (fun c25_ => ?_)
          · skip
            exact w_ret ⟨im22, km22, trivial⟩
          · skip
            refine w_gK (congrArg Prod.fst (kl_20 im22)) ?_
            have ppJS_m22 : JS m22 := (JS_of p_JS (kk22.2.2 20 0 (by omega) (fun z => by unfold W_X0_judged at z; (try unfold isWS at z); (try unfold isShape at z); (try unfold isTold at z); (try dsimp only at z); omega)))
            have ppJT_m22 : JT m22 := (JT_of p_JT (kk22.2.2 20 1 (by omega) (fun z => by unfold W_X0_judged at z; (try unfold isWS at z); (try unfold isShape at z); (try unfold isTold at z); (try dsimp only at z); omega)))
            refine w_call (hf_judged _ _ _ ⟨by omega, by omega⟩ ⟨by omega, by omega⟩ (by all_goals omega) ppJS_m22 ppJT_m22 im22) ?_
            intro v153 m153 pp153
            obtain ⟨im153, kk153, -⟩ := pp153
            try dsimp only
            replace im153 : I n m153 := im153
            replace kk153 : Keep n W_X0_judged m22 m153 := kk153
            have km153 : Keep n W_X0_joined M m153 := km22.tr kk153 (fun b j z => Or.elim z (fun z => (Or.inl z)) (fun z => (Or.inr z)))
            exact w_ret ⟨im153, km153, trivial⟩
  · skip
    exact w_ret ⟨iM, kM, trivial⟩
theorem s_g0 {n : Nat} : ∀ (d : Nat) (l1 l2 : Int) (M : Mem), (0 ≤ l1 ∧ l1 ≤ 40) → (0 ≤ l2 ∧ l2 ≤ 41) → (41 - l2 < (d : Int)) → (JS M) → (JT M) → I n M → wp (gX0_judged d 20 l1 l2 M) (fun q => I n q.2 ∧ Keep n W_X0_judged M q.2 ∧ True) := by
  intro d
  induction d with
  | zero =>
    intro l1 l2 M r_l1 r_l2 z0 p_JS p_JT iM
    exfalso
    omega
  | succ d ih =>
    intro l1 l2 M r_l1 r_l2 z0 p_JS p_JT iM
    exact s_X0_judged (dd := (d : Int)) (f_judged := noF) (f_counted := mX0_counted (gX0_judged d) noF noF) (f_joined := mX0_joined (gX0_judged d) noF noF) (fun l1 l2 M r_l1 r_l2 z0 lpLPt p_JS p_JT iM => s_X0_counted (dd := (d : Int)) (f_judged := gX0_judged d) (f_counted := noF) (f_joined := noF) ih r_l1 r_l2 z0 lpLPt p_JS p_JT iM) (fun l1 l2 M r_l1 r_l2 z0 lpLPt p_JS p_JT iM => s_X0_joined (dd := (d : Int)) (f_judged := gX0_judged d) (f_counted := noF) (f_joined := noF) ih r_l1 r_l2 z0 lpLPt p_JS p_JT iM) r_l1 r_l2 z0 p_JS p_JT iM
theorem s_gX0_judged {n : Nat} {l1 l2 : Int} {M : Mem} (r_l1 : 0 ≤ l1 ∧ l1 ≤ 40) (r_l2 : 0 ≤ l2 ∧ l2 ≤ 41) (z0 : 41 - l2 < (45 : Int)) (p_JS : JS M) (p_JT : JT M) (iM : I n M) : wp (gX0_judged 45 20 l1 l2 M) (fun q => I n q.2 ∧ Keep n W_X0_judged M q.2 ∧ True) := s_g0 45 _ _ _ r_l1 r_l2 z0 p_JS p_JT iM

def W_X0_isSoIn (l1 : Int) (b j : Int) : Prop := (21 ≤ b ∧ b ≤ 23) ∨ (b = 20 ∧ j = 0) ∨ (b = 20 ∧ j = 1) ∨ (b = 20 ∧ j = 5)
theorem s_X0_isSoIn {n : Nat} {l1 l2 l3 : Int} {M : Mem} (h_l1 : isShape l1) (x_l2 : TX n M l2) (n_l2 : ¬ l2 = 0) (iM : I n M) : wp (mX0_isSoIn 20 l1 l2 l3 M) (fun q => I n q.2 ∧ Keep n (W_X0_isSoIn l1) M q.2 ∧ (0 ≤ q.1 ∧ q.1 ≤ 1) ∧ True) := by
  have hn : (169 : Int) ≤ (n : Int) := by have := iM.2.2.2.2.1; omega
  have kM : Keep n (W_X0_isSoIn l1) M M := Keep.rf
  have u_l1 := h_l1
  unfold isShape at u_l1
  obtain ⟨q_l2, m_l2, t_l2⟩ := TX.nn x_l2 n_l2
  unfold mX0_isSoIn
  refine w_gK (congrArg Prod.fst (kl_20 iM)) ?_
  refine w_call (s_X0_takeWorld h_l1 x_l2 n_l2 iM) ?_
  intro v4 m4 pp4
  obtain ⟨im4, kk4, e4_0, e4_1, -⟩ := pp4
  try dsimp only
  replace im4 : I n m4 := im4
  replace kk4 : Keep n (W_X0_takeWorld l1) M m4 := kk4
  have km4 : Keep n (W_X0_isSoIn l1) M m4 := kM.tr kk4 (fun b j z => Or.elim z (fun z => (Or.inl ⟨by omega, by omega⟩)) (fun z => Or.elim z (fun z => (Or.inr (Or.inl z))) (fun z => Or.elim z (fun z => (Or.inr (Or.inr (Or.inl z)))) (fun z => (Or.inr (Or.inr (Or.inr z)))))))
  replace e4_0 : JS m4 := e4_0
  have gJS_m4 := e4_0
  replace e4_1 : JT m4 := e4_1
  have gJT_m4 := e4_1
  refine w_gK (congrArg Prod.fst (kl_20 im4)) ?_
  refine w_call (s_gX0_judged ⟨by omega, by omega⟩ ⟨by omega, by omega⟩ (by all_goals omega) gJS_m4 gJT_m4 im4) ?_
  intro v10 m10 pp10
  obtain ⟨im10, kk10, -⟩ := pp10
  try dsimp only
  replace im10 : I n m10 := im10
  replace kk10 : Keep n W_X0_judged m4 m10 := kk10
  have km10 : Keep n (W_X0_isSoIn l1) M m10 := km4.tr kk10 (fun b j z => Or.elim z (fun z => (Or.inl ⟨by omega, by omega⟩)) (fun z => (Or.inr (Or.inr (Or.inr z)))))
  have w1_ := lcmp_0 (v10) (0)
  refine w_if (fun c2_ => ?_) (fun c2_ => ?_)
  · skip
    exact w_ret ⟨im10, km10, (show 0 ≤ 0 ∧ 0 ≤ 1 from ⟨by omega, by omega⟩), trivial⟩
  · skip
    exact w_ret ⟨im10, km10, (show 0 ≤ 1 ∧ 1 ≤ 1 from ⟨by omega, by omega⟩), trivial⟩
def W_X8_so (b j : Int) : Prop := (21 ≤ b ∧ b ≤ 23) ∨ (b = 20 ∧ j = 0) ∨ (b = 20 ∧ j = 1) ∨ (b = 20 ∧ j = 5)
theorem s_X8_so_23 {n : Nat} {Me : Mem} {s0 : Int} {M : Mem} (x_s0 : TX n M s0) (iM : I n M) (kM : Keep n W_X8_so Me M) : wp (mX8_so_23 1 s0 M) (fun q => I n q.2 ∧ Keep n W_X8_so Me q.2 ∧ ((-1) ≤ q.1 ∧ q.1 ≤ 1) ∧ True) := by
  have hn : (169 : Int) ≤ (n : Int) := by have := iM.2.2.2.2.1; omega
  unfold mX8_so_23
  refine w_if (fun c1_ => ?_) (fun c1_ => ?_)
  · skip
    exact w_ret ⟨iM, kM, (show (-1) ≤ (-1) ∧ (-1) ≤ 1 from ⟨by omega, by omega⟩), trivial⟩
  · skip
    obtain ⟨q2_, m3_, t4_⟩ := TX.nn x_s0 c1_
    refine w_gFc (ji := 0) rfl (congrArg Prod.fst (kl_1 iM)) (show mG M 1 0 = 2 from rd_VS_0 iM (a := 1) rfl) ?_
    refine w_gFc (ji := 1) rfl (congrArg Prod.fst (kl_2 iM)) (show mG M 2 1 = 20 from rd_Solver_1 iM (a := 2) rfl) ?_
    refine w_gFc (ji := 1) rfl (congrArg Prod.fst (kl_1 iM)) (show mG M 1 1 = 3 from rd_VS_1 iM (a := 1) rfl) ?_
    refine w_gFc (ji := 0) rfl (congrArg Prod.fst (kl_3 iM)) (show mG M 3 0 = 4 from rd_Told_0 iM (a := 3) rfl) ?_
    refine w_gFc (ji := 1) rfl (congrArg Prod.fst (kl_1 iM)) (show mG M 1 1 = 3 from rd_VS_1 iM (a := 1) rfl) ?_
    refine w_gF (ji := 1) rfl (congrArg Prod.fst (kl_3 iM)) (fun a49 ha49 => ?_)
    refine w_gK (congrArg Prod.fst (kl_20 iM)) ?_
    refine w_call (s_X0_isSoIn (by unfold isShape; omega) x_s0 c1_ iM) ?_
    intro v52 m52 pp52
    obtain ⟨im52, kk52, e52_0, -⟩ := pp52
    try dsimp only
    replace im52 : I n m52 := im52
    replace kk52 : Keep n (W_X0_isSoIn 4) M m52 := kk52
    have km52 : Keep n W_X8_so Me m52 := kM.tr kk52 (fun b j z => Or.elim z (fun z => (Or.inl z)) (fun z => Or.elim z (fun z => (Or.inr (Or.inl z))) (fun z => Or.elim z (fun z => (Or.inr (Or.inr (Or.inl z)))) (fun z => (Or.inr (Or.inr (Or.inr z)))))))
    replace e52_0 : 0 ≤ v52 ∧ v52 ≤ 1 := e52_0
    refine w_if (fun c5_ => ?_) (fun c5_ => ?_)
    · skip
      exact w_ret ⟨im52, km52, (show (-1) ≤ 0 ∧ 0 ≤ 1 from ⟨by omega, by omega⟩), trivial⟩
    · skip
      exact w_ret ⟨im52, km52, (show (-1) ≤ 1 ∧ 1 ≤ 1 from ⟨by omega, by omega⟩), trivial⟩
theorem s_X8_so {n : Nat} {l1 : Int} {M : Mem} (r_l1 : (-2147483648) ≤ l1 ∧ l1 ≤ 2147483647) (iM : I n M) : wp (mX8_so 1 l1 M) (fun q => I n q.2 ∧ Keep n W_X8_so M q.2 ∧ ((-1) ≤ q.1 ∧ q.1 ≤ 1) ∧ True) := by
  have hn : (169 : Int) ≤ (n : Int) := by have := iM.2.2.2.2.1; omega
  have kM : Keep n W_X8_so M M := Keep.rf
  unfold mX8_so
  refine w_if (fun c1_ => ?_) (fun c1_ => ?_)
  · skip
    refine w_gFc (ji := 1) rfl (congrArg Prod.fst (kl_1 iM)) (show mG M 1 1 = 3 from rd_VS_1 iM (a := 1) rfl) ?_
    refine w_gF (ji := 12) rfl (congrArg Prod.fst (kl_3 iM)) (fun a9 ha9 => ?_)
    have xa9 : TX n M a9 := by rw [← ha9.e]; exact iM.2.2.1.2.1 3 (by unfold isTold; omega)
    exact s_X8_so_23 xa9 iM kM
  · skip
    refine w_gFc (ji := 1) rfl (congrArg Prod.fst (kl_1 iM)) (show mG M 1 1 = 3 from rd_VS_1 iM (a := 1) rfl) ?_
    refine w_gK (congrArg Prod.fst (kl_3 iM)) ?_
    refine w_call (s_X6_storyText ⟨by omega, by omega⟩ iM) ?_
    intro v20 m20 pp20
    obtain ⟨im20, kk20, e20_0, -⟩ := pp20
    try dsimp only
    replace im20 : I n m20 := im20
    replace kk20 : Keep n W_X6_storyText M m20 := kk20
    have km20 : Keep n W_X8_so M m20 := kM.tr kk20 (fun b j z => z.elim)
    replace e20_0 : TX n m20 v20 := e20_0
    exact s_X8_so_23 e20_0 im20 km20
def W_X0_chooseNext (b j : Int) : Prop := b = 22
theorem sb_X0_chooseNext_4 {n : Nat} {Me : Mem} {k4 : Int → Int → Mem → Option (Int × Mem)} {fu4 : Nat} (hk4 : ∀ (l2 : Int) (M : Mem), ((-1) ≤ l2 ∧ l2 ≤ 3) → (LPt n M (l2)) → (JS M) → (JT M) → l2 - (-2) < (fu4 : Int) → I n M → Keep n W_X0_chooseNext Me M → wp (k4 20 l2 M) (fun q => I n q.2 ∧ Keep n W_X0_chooseNext Me q.2 ∧ True)) {l2 : Int} {M : Mem} (r_l2 : (-1) ≤ l2 ∧ l2 ≤ 3) (lpLPt : LPt n M (l2)) (p_JS : JS M) (p_JT : JT M) (hf4 : l2 - (-2) < (fu4 : Int) + 1) (iM : I n M) (kM : Keep n W_X0_chooseNext Me M) : wp (bX0_chooseNext_4 k4 20 l2 M) (fun q => I n q.2 ∧ Keep n W_X0_chooseNext Me q.2 ∧ True) := by
  have hn : (169 : Int) ≤ (n : Int) := by have := iM.2.2.2.2.1; omega
  unfold bX0_chooseNext_4
  refine w_if (fun c1_ => ?_) (fun c1_ => ?_)
  · skip
    exact w_ret ⟨iM, kM, trivial⟩
  · skip
    refine w_gFc (ji := 3) rfl (congrArg Prod.fst (kl_20 iM)) (show mG M 20 3 = 22 from rd_Judge_3 iM (a := 20) rfl) ?_
    refine w_aG (kl_22 iM) (by omega) (by omega) (fun a14 ha14 => ?_)
    have ra14 : (-2147483648) ≤ a14 ∧ a14 ≤ 2147483647 := ha14.tr (P := fun z => (-2147483648) ≤ z ∧ z ≤ 2147483647) (rd_Jchosen iM rfl)
    have w2_ := And.intro (wI_lo (a14 + 1)) (wI_hi (a14 + 1))
    refine w_aS (kl_22 iM) (by omega) (by omega) (fun M17 hM17 => ?_)
    replace hM17 : M17 = mS M 22 l2 (wI (a14 + 1)) := hM17
    have iM17 : I n M17 := wr_Jchosen iM rfl ⟨by omega, by omega⟩ hM17
    have kM17 : Keep n W_X0_chooseNext Me M17 := kM.st hM17 (Or.inl rfl)
    obtain ⟨svM17, esvM17⟩ : ∃ z, z = (wI (a14 + 1)) := ⟨_, rfl⟩
    refine w_gFc (ji := 3) rfl (congrArg Prod.fst (kl_20 iM17)) (show mG M17 20 3 = 22 from rd_Judge_3 iM17 (a := 20) rfl) ?_
    refine w_aGc (kl_22 iM17) (by omega) (by omega) (show mG M17 22 l2 = svM17 from (show mG M17 22 l2 = svM17 from ((st_eq hM17).trans esvM17.symm))) ?_
    refine w_gK (congrArg Prod.fst (kl_20 iM17)) ?_
    have lp3_ : LPt n M17 (l2) := (LPt_of lpLPt (st_ne hM17 (fun z => ne_fam rfl rfl (by decide) z.1)) (otx_st hM17 (by omega)))
    have ppJS_M17 : JS M17 := (JS_of p_JS (st_ne hM17 (fun z => ne_fam rfl rfl (by decide) z.1)))
    have ppJT_M17 : JT M17 := (JT_of p_JT (st_ne hM17 (fun z => ne_fam rfl rfl (by decide) z.1)))
    refine w_call (s_X0_sizeAt ⟨by omega, by omega⟩ (LPt.mono lp3_ (by omega)) ppJS_M17 ppJT_M17 iM17) ?_
    intro v26 m26 pp26
    obtain ⟨im26, kk26, e26_0, -⟩ := pp26
    try dsimp only
    replace im26 : I n m26 := im26
    replace kk26 : Keep n W_X0_sizeAt M17 m26 := kk26
    have km26 : Keep n W_X0_chooseNext Me m26 := kM17.tr kk26 (fun b j z => z.elim)
    replace e26_0 : 0 ≤ v26 ∧ v26 ≤ 3 := e26_0
    refine w_if (fun c4_ => ?_) (fun c4_ => ?_)
    · skip
      refine w_gFc (ji := 3) rfl (congrArg Prod.fst (kl_20 im26)) (show mG m26 20 3 = 22 from rd_Judge_3 im26 (a := 20) rfl) ?_
      refine w_aS (kl_22 im26) (by omega) (by omega) (fun M39 hM39 => ?_)
      replace hM39 : M39 = mS m26 22 l2 0 := hM39
      have iM39 : I n M39 := wr_Jchosen im26 rfl ⟨by omega, by omega⟩ hM39
      have kM39 : Keep n W_X0_chooseNext Me M39 := km26.st hM39 (Or.inl rfl)
      have w5_ := wI_id (x := (l2 + (-1))) (by omega) (by omega)
      have lp6_ : LPt n M39 (l2) := (LPt_of (LPt_of lp3_ (kk26.2.2 20 1 (by omega) (fun z => z)) (otx_kp kk26 (fun b j z => z.elim))) (st_ne hM39 (fun z => ne_fam rfl rfl (by decide) z.1)) (otx_st hM39 (by omega)))
      have ppJS_M39 : JS M39 := (JS_of (JS_of ppJS_M17 (kk26.2.2 20 0 (by omega) (fun z => z))) (st_ne hM39 (fun z => ne_fam rfl rfl (by decide) z.1)))
      have ppJT_M39 : JT M39 := (JT_of (JT_of ppJT_M17 (kk26.2.2 20 1 (by omega) (fun z => z))) (st_ne hM39 (fun z => ne_fam rfl rfl (by decide) z.1)))
      exact hk4 _ _ ⟨by omega, by omega⟩ (LPt.mono lp6_ (by omega)) ppJS_M39 ppJT_M39 (by omega) iM39 kM39
    · skip
      exact w_ret ⟨im26, km26, trivial⟩
theorem s_X0_chooseNext_4 {n : Nat} {Me : Mem} : ∀ (fu : Nat) (l2 : Int) (M : Mem), ((-1) ≤ l2 ∧ l2 ≤ 3) → (LPt n M (l2)) → (JS M) → (JT M) → l2 - (-2) < (fu : Int) → I n M → Keep n W_X0_chooseNext Me M → wp (mX0_chooseNext_4 fu 20 l2 M) (fun q => I n q.2 ∧ Keep n W_X0_chooseNext Me q.2 ∧ True) := by
  intro fu
  induction fu with
  | zero =>
    intro l2 M r_l2 lpLPt p_JS p_JT hf iM kM
    exfalso
    omega
  | succ fu ih =>
    intro l2 M r_l2 lpLPt p_JS p_JT hf iM kM
    exact sb_X0_chooseNext_4 ih r_l2 lpLPt p_JS p_JT (by have e : ((fu + 1 : Nat) : Int) = (fu : Int) + 1 := rfl; rw [e] at hf; exact hf) iM kM
theorem s_X0_chooseNext {n : Nat} {l1 : Int} {M : Mem} (r_l1 : 1 ≤ l1 ∧ l1 ≤ 4) (lpLPt : LPt n M (l1 - 1)) (p_JS : JS M) (p_JT : JT M) (iM : I n M) : wp (mX0_chooseNext 20 l1 M) (fun q => I n q.2 ∧ Keep n W_X0_chooseNext M q.2 ∧ True) := by
  have hn : (169 : Int) ≤ (n : Int) := by have := iM.2.2.2.2.1; omega
  have kM : Keep n W_X0_chooseNext M M := Keep.rf
  unfold mX0_chooseNext
  have w1_ := wI_id (x := (l1 - 1)) (by omega) (by omega)
  exact s_X0_chooseNext_4 FU _ _ ⟨by omega, by omega⟩ (LPt.mono lpLPt (by omega)) p_JS p_JT (by show _ < (70000 : Int); omega) iM kM
def W_X0_breakNumber (l1 : Int) (b j : Int) : Prop := (21 ≤ b ∧ b ≤ 23) ∨ (b = 20 ∧ j = 0) ∨ (b = 20 ∧ j = 1) ∨ (b = 20 ∧ j = 5)
theorem sb_X0_breakNumber_71 {n : Nat} {Me : Mem} {l1 : Int} (h_l1 : isShape l1) {k71 : Int → Int → Int → Int → Int → Mem → Option (Int × Mem)} {fu71 : Nat} (hk71 : ∀ (l5 l6 l7 l8 : Int) (M : Mem), (0 ≤ l5 ∧ l5 ≤ 3) → (1 ≤ l6 ∧ l6 ≤ 4) → (0 ≤ l7 ∧ l7 ≤ 81) → (0 ≤ l8 ∧ l8 ≤ 81) → (LPt n M (l6 - 1)) → (JS M) → (JT M) → 82 - l8 < (fu71 : Int) → I n M → Keep n (W_X0_breakNumber l1) Me M → wp (k71 20 l5 l6 l7 l8 M) (fun q => I n q.2 ∧ Keep n (W_X0_breakNumber l1) Me q.2 ∧ ((-2147483648) ≤ q.1 ∧ q.1 ≤ 2147483647) ∧ True)) {l5 l6 l7 l8 : Int} {M : Mem} (r_l5 : 0 ≤ l5 ∧ l5 ≤ 3) (r_l6 : 1 ≤ l6 ∧ l6 ≤ 4) (r_l7 : 0 ≤ l7 ∧ l7 ≤ 81) (r_l8 : 0 ≤ l8 ∧ l8 ≤ 81) (lpLPt : LPt n M (l6 - 1)) (p_JS : JS M) (p_JT : JT M) (hf71 : 82 - l8 < (fu71 : Int) + 1) (iM : I n M) (kM : Keep n (W_X0_breakNumber l1) Me M) : wp (bX0_breakNumber_71 k71 20 l5 l6 l7 l8 M) (fun q => I n q.2 ∧ Keep n (W_X0_breakNumber l1) Me q.2 ∧ ((-2147483648) ≤ q.1 ∧ q.1 ≤ 2147483647) ∧ True) := by
  have hn : (169 : Int) ≤ (n : Int) := by have := iM.2.2.2.2.1; omega
  have u_l1 := h_l1
  unfold isShape at u_l1
  unfold bX0_breakNumber_71
  refine w_if (fun c1_ => ?_) (fun c1_ => ?_)
  · skip
    exact w_ret ⟨iM, kM, (show (-2147483648) ≤ (-1) ∧ (-1) ≤ 2147483647 from ⟨by omega, by omega⟩), trivial⟩
  · skip
    refine w_gK (congrArg Prod.fst (kl_20 iM)) ?_
    refine w_call (s_gX0_judged ⟨by omega, by omega⟩ ⟨by omega, by omega⟩ (by all_goals omega) p_JS p_JT iM) ?_
    intro v83 m83 pp83
    obtain ⟨im83, kk83, -⟩ := pp83
    try dsimp only
    replace im83 : I n m83 := im83
    replace kk83 : Keep n W_X0_judged M m83 := kk83
    have km83 : Keep n (W_X0_breakNumber l1) Me m83 := kM.tr kk83 (fun b j z => Or.elim z (fun z => (Or.inl ⟨by omega, by omega⟩)) (fun z => (Or.inr (Or.inr (Or.inr z)))))
    have w2_ := lcmp_0 (v83) (0)
    refine w_if (fun c3_ => ?_) (fun c3_ => ?_)
    · skip
      refine w_gFc (ji := 3) rfl (congrArg Prod.fst (kl_20 im83)) (show mG m83 20 3 = 22 from rd_Judge_3 im83 (a := 20) rfl) ?_
      refine w_aG (kl_22 im83) (by omega) (by omega) (fun a97 ha97 => ?_)
      have ra97 : (-2147483648) ≤ a97 ∧ a97 ≤ 2147483647 := ha97.tr (P := fun z => (-2147483648) ≤ z ∧ z ≤ 2147483647) (rd_Jchosen im83 rfl)
      exact w_ret ⟨im83, km83, (show (-2147483648) ≤ a97 ∧ a97 ≤ 2147483647 from ⟨by omega, by omega⟩), trivial⟩
    · skip
      refine w_gK (congrArg Prod.fst (kl_20 im83)) ?_
      have lp4_ : LPt n m83 (l6 - 1) := (LPt_of lpLPt (kk83.2.2 20 1 (by omega) (fun z => by unfold W_X0_judged at z; (try unfold isWS at z); (try unfold isShape at z); (try unfold isTold at z); (try dsimp only at z); omega)) (otx_kp kk83 (fun b j z => by unfold W_X0_judged at z; (try unfold isWS at z); (try unfold isShape at z); (try unfold isTold at z); (try dsimp only at z); omega)))
      have ppJS_m83 : JS m83 := (JS_of p_JS (kk83.2.2 20 0 (by omega) (fun z => by unfold W_X0_judged at z; (try unfold isWS at z); (try unfold isShape at z); (try unfold isTold at z); (try dsimp only at z); omega)))
      have ppJT_m83 : JT m83 := (JT_of p_JT (kk83.2.2 20 1 (by omega) (fun z => by unfold W_X0_judged at z; (try unfold isWS at z); (try unfold isShape at z); (try unfold isTold at z); (try dsimp only at z); omega)))
      refine w_call (s_X0_chooseNext ⟨by omega, by omega⟩ (LPt.mono lp4_ (by omega)) ppJS_m83 ppJT_m83 im83) ?_
      intro v102 m102 pp102
      obtain ⟨im102, kk102, -⟩ := pp102
      try dsimp only
      replace im102 : I n m102 := im102
      replace kk102 : Keep n W_X0_chooseNext m83 m102 := kk102
      have km102 : Keep n (W_X0_breakNumber l1) Me m102 := km83.tr kk102 (fun b j z => by unfold W_X0_chooseNext at z; exact (Or.inl ⟨by omega, by omega⟩))
      have w5_ := wI_id (x := (l8 + 1)) (by omega) (by omega)
      have lp6_ : LPt n m102 (l6 - 1) := (LPt_of lp4_ (kk102.2.2 20 1 (by omega) (fun z => by unfold W_X0_chooseNext at z; (try unfold isWS at z); (try unfold isShape at z); (try unfold isTold at z); (try dsimp only at z); omega)) (otx_kp kk102 (fun b j z => by unfold W_X0_chooseNext at z; (try unfold isWS at z); (try unfold isShape at z); (try unfold isTold at z); (try dsimp only at z); omega)))
      have ppJS_m102 : JS m102 := (JS_of ppJS_m83 (kk102.2.2 20 0 (by omega) (fun z => by unfold W_X0_chooseNext at z; (try unfold isWS at z); (try unfold isShape at z); (try unfold isTold at z); (try dsimp only at z); omega)))
      have ppJT_m102 : JT m102 := (JT_of ppJT_m83 (kk102.2.2 20 1 (by omega) (fun z => by unfold W_X0_chooseNext at z; (try unfold isWS at z); (try unfold isShape at z); (try unfold isTold at z); (try dsimp only at z); omega)))
      exact hk71 _ _ _ _ _ ⟨by omega, by omega⟩ ⟨by omega, by omega⟩ ⟨by omega, by omega⟩ ⟨by omega, by omega⟩ (LPt.mono lp6_ (by omega)) ppJS_m102 ppJT_m102 (by omega) im102 km102
theorem s_X0_breakNumber_71 {n : Nat} {Me : Mem} {l1 : Int} (h_l1 : isShape l1) : ∀ (fu : Nat) (l5 l6 l7 l8 : Int) (M : Mem), (0 ≤ l5 ∧ l5 ≤ 3) → (1 ≤ l6 ∧ l6 ≤ 4) → (0 ≤ l7 ∧ l7 ≤ 81) → (0 ≤ l8 ∧ l8 ≤ 81) → (LPt n M (l6 - 1)) → (JS M) → (JT M) → 82 - l8 < (fu : Int) → I n M → Keep n (W_X0_breakNumber l1) Me M → wp (mX0_breakNumber_71 fu 20 l5 l6 l7 l8 M) (fun q => I n q.2 ∧ Keep n (W_X0_breakNumber l1) Me q.2 ∧ ((-2147483648) ≤ q.1 ∧ q.1 ≤ 2147483647) ∧ True) := by
  intro fu
  induction fu with
  | zero =>
    intro l5 l6 l7 l8 M r_l5 r_l6 r_l7 r_l8 lpLPt p_JS p_JT hf iM kM
    exfalso
    omega
  | succ fu ih =>
    intro l5 l6 l7 l8 M r_l5 r_l6 r_l7 r_l8 lpLPt p_JS p_JT hf iM kM
    exact sb_X0_breakNumber_71 h_l1 ih r_l5 r_l6 r_l7 r_l8 lpLPt p_JS p_JT (by have e : ((fu + 1 : Nat) : Int) = (fu : Int) + 1 := rfl; rw [e] at hf; exact hf) iM kM
theorem sb_X0_breakNumber_36 {n : Nat} {Me : Mem} {l1 : Int} (h_l1 : isShape l1) {k36 : Int → Int → Int → Int → Int → Mem → Option (Int × Mem)} {fu36 : Nat} (hk36 : ∀ (l5 l6 l7 l8 : Int) (M : Mem), (0 ≤ l5 ∧ l5 ≤ 3) → (1 ≤ l6 ∧ l6 ≤ 4) → (0 ≤ l7 ∧ l7 ≤ 81) → (0 ≤ l8 ∧ l8 ≤ 4) → ((l8 = 0 ∧ l7 = 1) ∨ (l8 = 1 ∧ 0 ≤ l7 ∧ l7 ≤ 3) ∨ (l8 = 2 ∧ 0 ≤ l7 ∧ l7 ≤ 9) ∨ (l8 = 3 ∧ 0 ≤ l7 ∧ l7 ≤ 27) ∨ (l8 = 4 ∧ 0 ≤ l7 ∧ l7 ≤ 81)) → (LPt n M (l6 - 1)) → (JS M) → (JT M) → 5 - l8 < (fu36 : Int) → I n M → Keep n (W_X0_breakNumber l1) Me M → wp (k36 20 l5 l6 l7 l8 M) (fun q => I n q.2 ∧ Keep n (W_X0_breakNumber l1) Me q.2 ∧ ((-2147483648) ≤ q.1 ∧ q.1 ≤ 2147483647) ∧ True)) {l5 l6 l7 l8 : Int} {M : Mem} (r_l5 : 0 ≤ l5 ∧ l5 ≤ 3) (r_l6 : 1 ≤ l6 ∧ l6 ≤ 4) (r_l7 : 0 ≤ l7 ∧ l7 ≤ 81) (r_l8 : 0 ≤ l8 ∧ l8 ≤ 4) (z0 : (l8 = 0 ∧ l7 = 1) ∨ (l8 = 1 ∧ 0 ≤ l7 ∧ l7 ≤ 3) ∨ (l8 = 2 ∧ 0 ≤ l7 ∧ l7 ≤ 9) ∨ (l8 = 3 ∧ 0 ≤ l7 ∧ l7 ≤ 27) ∨ (l8 = 4 ∧ 0 ≤ l7 ∧ l7 ≤ 81)) (lpLPt : LPt n M (l6 - 1)) (p_JS : JS M) (p_JT : JT M) (hf36 : 5 - l8 < (fu36 : Int) + 1) (iM : I n M) (kM : Keep n (W_X0_breakNumber l1) Me M) : wp (bX0_breakNumber_36 k36 20 l5 l6 l7 l8 M) (fun q => I n q.2 ∧ Keep n (W_X0_breakNumber l1) Me q.2 ∧ ((-2147483648) ≤ q.1 ∧ q.1 ≤ 2147483647) ∧ True) := by
  have hn : (169 : Int) ≤ (n : Int) := by have := iM.2.2.2.2.1; omega
  have u_l1 := h_l1
  unfold isShape at u_l1
  unfold bX0_breakNumber_36
  refine w_if (fun c1_ => ?_) (fun c1_ => ?_)
  · skip
    exact s_X0_breakNumber_71 h_l1 FU _ _ _ _ _ ⟨by omega, by omega⟩ ⟨by omega, by omega⟩ ⟨by omega, by omega⟩ ⟨by omega, by omega⟩ (LPt.mono lpLPt (by omega)) p_JS p_JT (by show _ < (70000 : Int); omega) iM kM
  · skip
    refine w_gFc (ji := 3) rfl (congrArg Prod.fst (kl_20 iM)) (show mG M 20 3 = 22 from rd_Judge_3 iM (a := 20) rfl) ?_
    refine w_aS (kl_22 iM) (by omega) (by omega) (fun M50 hM50 => ?_)
    replace hM50 : M50 = mS M 22 l8 0 := hM50
    have iM50 : I n M50 := wr_Jchosen iM rfl ⟨by omega, by omega⟩ hM50
    have kM50 : Keep n (W_X0_breakNumber l1) Me M50 := kM.st hM50 (Or.inl (Or.inl ⟨by decide, by decide⟩))
    refine w_gK (congrArg Prod.fst (kl_20 iM50)) ?_
    have lp2_ : LPt n M50 (l6 - 1) := (LPt_of lpLPt (st_ne hM50 (fun z => ne_fam rfl rfl (by decide) z.1)) (otx_st hM50 (by omega)))
    have ppJS_M50 : JS M50 := (JS_of p_JS (st_ne hM50 (fun z => ne_fam rfl rfl (by decide) z.1)))
    have ppJT_M50 : JT M50 := (JT_of p_JT (st_ne hM50 (fun z => ne_fam rfl rfl (by decide) z.1)))
    refine w_call (s_X0_sizeAt ⟨by omega, by omega⟩ (LPt.mono lp2_ (by omega)) ppJS_M50 ppJT_M50 iM50) ?_
    intro v56 m56 pp56
    obtain ⟨im56, kk56, e56_0, -⟩ := pp56
    try dsimp only
    replace im56 : I n m56 := im56
    replace kk56 : Keep n W_X0_sizeAt M50 m56 := kk56
    have km56 : Keep n (W_X0_breakNumber l1) Me m56 := kM50.tr kk56 (fun b j z => z.elim)
    replace e56_0 : 0 ≤ v56 ∧ v56 ≤ 3 := e56_0
    have w3_ := mul_b (x := l7) (y := v56) (a := 81) (b := 3) (by omega) (by omega) (by omega) (by omega)
    have w4_ := mul_3 (x := l7) (y := v56) (by omega) (by omega)
    have w5_ := wI_id (x := (l7 * v56)) (by omega) (by omega)
    have w6_ := wI_id (x := (l8 + 1)) (by omega) (by omega)
    have lp7_ : LPt n m56 (l6 - 1) := (LPt_of lp2_ (kk56.2.2 20 1 (by omega) (fun z => z)) (otx_kp kk56 (fun b j z => z.elim)))
    have ppJS_m56 : JS m56 := (JS_of ppJS_M50 (kk56.2.2 20 0 (by omega) (fun z => z)))
    have ppJT_m56 : JT m56 := (JT_of ppJT_M50 (kk56.2.2 20 1 (by omega) (fun z => z)))
    exact hk36 _ _ _ _ _ ⟨by omega, by omega⟩ ⟨by omega, by omega⟩ ⟨by omega, by omega⟩ ⟨by omega, by omega⟩ (by all_goals omega) (LPt.mono lp7_ (by omega)) ppJS_m56 ppJT_m56 (by omega) im56 km56
theorem s_X0_breakNumber_36 {n : Nat} {Me : Mem} {l1 : Int} (h_l1 : isShape l1) : ∀ (fu : Nat) (l5 l6 l7 l8 : Int) (M : Mem), (0 ≤ l5 ∧ l5 ≤ 3) → (1 ≤ l6 ∧ l6 ≤ 4) → (0 ≤ l7 ∧ l7 ≤ 81) → (0 ≤ l8 ∧ l8 ≤ 4) → ((l8 = 0 ∧ l7 = 1) ∨ (l8 = 1 ∧ 0 ≤ l7 ∧ l7 ≤ 3) ∨ (l8 = 2 ∧ 0 ≤ l7 ∧ l7 ≤ 9) ∨ (l8 = 3 ∧ 0 ≤ l7 ∧ l7 ≤ 27) ∨ (l8 = 4 ∧ 0 ≤ l7 ∧ l7 ≤ 81)) → (LPt n M (l6 - 1)) → (JS M) → (JT M) → 5 - l8 < (fu : Int) → I n M → Keep n (W_X0_breakNumber l1) Me M → wp (mX0_breakNumber_36 fu 20 l5 l6 l7 l8 M) (fun q => I n q.2 ∧ Keep n (W_X0_breakNumber l1) Me q.2 ∧ ((-2147483648) ≤ q.1 ∧ q.1 ≤ 2147483647) ∧ True) := by
  intro fu
  induction fu with
  | zero =>
    intro l5 l6 l7 l8 M r_l5 r_l6 r_l7 r_l8 z0 lpLPt p_JS p_JT hf iM kM
    exfalso
    omega
  | succ fu ih =>
    intro l5 l6 l7 l8 M r_l5 r_l6 r_l7 r_l8 z0 lpLPt p_JS p_JT hf iM kM
    exact sb_X0_breakNumber_36 h_l1 ih r_l5 r_l6 r_l7 r_l8 z0 lpLPt p_JS p_JT (by have e : ((fu + 1 : Nat) : Int) = (fu : Int) + 1 := rfl; rw [e] at hf; exact hf) iM kM
theorem s_X0_breakNumber {n : Nat} {l1 l2 l3 l5 : Int} {M : Mem} (h_l1 : isShape l1) (x_l2 : TX n M l2) (n_l2 : ¬ l2 = 0) (r_l5 : (-2147483648) ≤ l5 ∧ l5 ≤ 2147483647) (iM : I n M) : wp (mX0_breakNumber 20 l1 l2 l3 l5 M) (fun q => I n q.2 ∧ Keep n (W_X0_breakNumber l1) M q.2 ∧ ((-2147483648) ≤ q.1 ∧ q.1 ≤ 2147483647) ∧ True) := by
  have hn : (169 : Int) ≤ (n : Int) := by have := iM.2.2.2.2.1; omega
  have kM : Keep n (W_X0_breakNumber l1) M M := Keep.rf
  have u_l1 := h_l1
  unfold isShape at u_l1
  obtain ⟨q_l2, m_l2, t_l2⟩ := TX.nn x_l2 n_l2
  unfold mX0_breakNumber
  refine w_gK (congrArg Prod.fst (kl_20 iM)) ?_
  refine w_call (s_X0_takeWorld h_l1 x_l2 n_l2 iM) ?_
  intro v4 m4 pp4
  obtain ⟨im4, kk4, e4_0, e4_1, -⟩ := pp4
  try dsimp only
  replace im4 : I n m4 := im4
  replace kk4 : Keep n (W_X0_takeWorld l1) M m4 := kk4
  have km4 : Keep n (W_X0_breakNumber l1) M m4 := kM.tr kk4 (fun b j z => Or.elim z (fun z => (Or.inl ⟨by omega, by omega⟩)) (fun z => Or.elim z (fun z => (Or.inr (Or.inl z))) (fun z => Or.elim z (fun z => (Or.inr (Or.inr (Or.inl z)))) (fun z => (Or.inr (Or.inr (Or.inr z)))))))
  replace e4_0 : JS m4 := e4_0
  have gJS_m4 := e4_0
  replace e4_1 : JT m4 := e4_1
  have gJT_m4 := e4_1
  refine w_gF (ji := 1) rfl (congrArg Prod.fst (kl_20 im4)) (fun a8 ha8 => ?_)
  have xa8 : TX n m4 a8 := by rw [← ha8.e]; exact im4.2.2.1.2.2
  have na8 : ¬ a8 = 0 := by rw [← ha8.e]; exact gJT_m4
  obtain ⟨q1_, m2_, t3_⟩ := TX.nn xa8 na8
  refine w_gK (congrArg Prod.fst (tn_k t3_)) ?_
  refine w_call (s_X5_leadingAlls xa8 na8 im4) ?_
  intro v11 m11 pp11
  obtain ⟨im11, kk11, e11_0, e11_1, -⟩ := pp11
  try dsimp only
  replace im11 : I n m11 := im11
  replace kk11 : Keep n W_X5_leadingAlls m4 m11 := kk11
  have km11 : Keep n (W_X0_breakNumber l1) M m11 := km4.tr kk11 (fun b j z => z.elim)
  replace e11_0 : 0 ≤ v11 ∧ v11 ≤ 4 := e11_0
  replace e11_1 : ∀ m2 : Nat, TextN m4 a8 m2 → v11 ≤ (m2 : Int) := e11_1
  have x4_ : TX n m11 a8 := (TX.ot xa8 (otx_kp kk11 (fun b j z => z.elim)))
  have t8_ : TextN m11 a8 m2_ := (TextN.ot (n := n) t3_ (otx_kp kk11 (fun b j z => z.elim)) (by omega) (by omega))
  have lal11 : v11 ≤ (m2_ : Int) := e11_1 _ t3_
  have lpa11 : LPt n m11 (v11 - 1) := LPt.mk (((kk11.2.2 20 1 (by omega) (fun z => z)).trans (show mG m4 20 1 = a8 from ha8))) t8_ (by omega) (by omega)
  refine w_if (fun c9_ => ?_) (fun c9_ => ?_)
  · skip
    exact w_ret ⟨im11, km11, (show (-2147483648) ≤ (-1) ∧ (-1) ≤ 2147483647 from ⟨by omega, by omega⟩), trivial⟩
  · skip
    refine w_if (fun c10_ => ?_) (fun c10_ => ?_)
    · skip
      have ppJS_m11 : JS m11 := (JS_of gJS_m4 (kk11.2.2 20 0 (by omega) (fun z => z)))
      have ppJT_m11 : JT m11 := (JT_of gJT_m4 (kk11.2.2 20 1 (by omega) (fun z => z)))
      exact s_X0_breakNumber_36 h_l1 FU _ _ _ _ _ ⟨by omega, by omega⟩ ⟨by omega, by omega⟩ ⟨by omega, by omega⟩ ⟨by omega, by omega⟩ (by all_goals omega) (LPt.mono lpa11 (by omega)) ppJS_m11 ppJT_m11 (by show _ < (70000 : Int); omega) im11 km11
    · skip
      exact w_ret ⟨im11, km11, (show (-2147483648) ≤ (-1) ∧ (-1) ≤ 2147483647 from ⟨by omega, by omega⟩), trivial⟩
def W_X8_breaks (b j : Int) : Prop := (21 ≤ b ∧ b ≤ 23) ∨ (b = 20 ∧ j = 0) ∨ (b = 20 ∧ j = 1) ∨ (b = 20 ∧ j = 5)
theorem s_X8_breaks {n : Nat} {l1 l2 : Int} {M : Mem} (r_l1 : (-2147483648) ≤ l1 ∧ l1 ≤ 2147483647) (r_l2 : (-2147483648) ≤ l2 ∧ l2 ≤ 2147483647) (iM : I n M) : wp (mX8_breaks 1 l1 l2 M) (fun q => I n q.2 ∧ Keep n W_X8_breaks M q.2 ∧ ((-2147483648) ≤ q.1 ∧ q.1 ≤ 2147483647) ∧ True) := by
  have hn : (169 : Int) ≤ (n : Int) := by have := iM.2.2.2.2.1; omega
  have kM : Keep n W_X8_breaks M M := Keep.rf
  unfold mX8_breaks
  refine w_gFc (ji := 1) rfl (congrArg Prod.fst (kl_1 iM)) (show mG M 1 1 = 3 from rd_VS_1 iM (a := 1) rfl) ?_
  refine w_gK (congrArg Prod.fst (kl_3 iM)) ?_
  refine w_call (s_X6_storyText ⟨by omega, by omega⟩ iM) ?_
  intro v5 m5 pp5
  obtain ⟨im5, kk5, e5_0, -⟩ := pp5
  try dsimp only
  replace im5 : I n m5 := im5
  replace kk5 : Keep n W_X6_storyText M m5 := kk5
  have km5 : Keep n W_X8_breaks M m5 := kM.tr kk5 (fun b j z => z.elim)
  replace e5_0 : TX n m5 v5 := e5_0
  refine w_if (fun c1_ => ?_) (fun c1_ => ?_)
  · skip
    exact w_ret ⟨im5, km5, (show (-2147483648) ≤ (-1) ∧ (-1) ≤ 2147483647 from ⟨by omega, by omega⟩), trivial⟩
  · skip
    obtain ⟨q2_, m3_, t4_⟩ := TX.nn e5_0 c1_
    refine w_gFc (ji := 0) rfl (congrArg Prod.fst (kl_1 im5)) (show mG m5 1 0 = 2 from rd_VS_0 im5 (a := 1) rfl) ?_
    refine w_gFc (ji := 1) rfl (congrArg Prod.fst (kl_2 im5)) (show mG m5 2 1 = 20 from rd_Solver_1 im5 (a := 2) rfl) ?_
    refine w_gFc (ji := 1) rfl (congrArg Prod.fst (kl_1 im5)) (show mG m5 1 1 = 3 from rd_VS_1 im5 (a := 1) rfl) ?_
    refine w_gFc (ji := 0) rfl (congrArg Prod.fst (kl_3 im5)) (show mG m5 3 0 = 4 from rd_Told_0 im5 (a := 3) rfl) ?_
    refine w_gFc (ji := 1) rfl (congrArg Prod.fst (kl_1 im5)) (show mG m5 1 1 = 3 from rd_VS_1 im5 (a := 1) rfl) ?_
    refine w_gF (ji := 1) rfl (congrArg Prod.fst (kl_3 im5)) (fun a34 ha34 => ?_)
    refine w_gK (congrArg Prod.fst (kl_20 im5)) ?_
    refine w_call (s_X0_breakNumber (by unfold isShape; omega) e5_0 c1_ ⟨by omega, by omega⟩ im5) ?_
    intro v38 m38 pp38
    obtain ⟨im38, kk38, e38_0, -⟩ := pp38
    try dsimp only
    replace im38 : I n m38 := im38
    replace kk38 : Keep n (W_X0_breakNumber 4) m5 m38 := kk38
    have km38 : Keep n W_X8_breaks M m38 := km5.tr kk38 (fun b j z => Or.elim z (fun z => (Or.inl z)) (fun z => Or.elim z (fun z => (Or.inr (Or.inl z))) (fun z => Or.elim z (fun z => (Or.inr (Or.inr (Or.inl z)))) (fun z => (Or.inr (Or.inr (Or.inr z)))))))
    replace e38_0 : (-2147483648) ≤ v38 ∧ v38 ≤ 2147483647 := e38_0
    exact w_ret ⟨im38, km38, (show (-2147483648) ≤ v38 ∧ v38 ≤ 2147483647 from ⟨by omega, by omega⟩), trivial⟩
def W_X7_takeNone (l0 : Int) (b j : Int) : Prop := b = (l0 + 1) ∨ (b = l0 ∧ j = 1) ∨ (b = l0 ∧ j = 2)
theorem sb_X7_takeNone_42 {n : Nat} {Me : Mem} {l0 : Int} (h_l0 : isWS l0) {k42 : Int → Int → Mem → Option (Int × Mem)} {fu42 : Nat} (hk42 : ∀ (l2 : Int) (M : Mem), (0 ≤ l2 ∧ l2 ≤ 64) → 65 - l2 < (fu42 : Int) → I n M → Keep n (W_X7_takeNone l0) Me M → wp (k42 l0 l2 M) (fun q => I n q.2 ∧ Keep n (W_X7_takeNone l0) Me q.2 ∧ True)) {l2 : Int} {M : Mem} (r_l2 : 0 ≤ l2 ∧ l2 ≤ 64) (hf42 : 65 - l2 < (fu42 : Int) + 1) (iM : I n M) (kM : Keep n (W_X7_takeNone l0) Me M) : wp (bX7_takeNone_42 k42 l0 l2 M) (fun q => I n q.2 ∧ Keep n (W_X7_takeNone l0) Me q.2 ∧ True) := by
  have hn : (169 : Int) ≤ (n : Int) := by have := iM.2.2.2.2.1; omega
  have u_l0 := h_l0
  unfold isWS at u_l0
  unfold bX7_takeNone_42
  refine w_gF (ji := 1) rfl (congrArg Prod.fst (k_WS iM h_l0)) (fun a44 ha44 => ?_)
  have ra44 : 0 ≤ a44 ∧ a44 ≤ 64 := ha44.tr (P := fun z => 0 ≤ z ∧ z ≤ 64) (rd_WS_1 iM (f_WS h_l0))
  refine w_if (fun c1_ => ?_) (fun c1_ => ?_)
  · skip
    exact w_ret ⟨iM, kM, trivial⟩
  · skip
    refine w_gFc (ji := 0) rfl (congrArg Prod.fst (k_WS iM h_l0)) (show mG M l0 0 = (l0 + 1) from rd_WS_0 iM (a := l0) (f_WS h_l0)) ?_
    refine w_aS (k_Wwords iM h_l0) (by omega) (by omega) (fun M56 hM56 => ?_)
    replace hM56 : M56 = mS M (l0 + 1) l2 0 := hM56
    have iM56 : I n M56 := wr_Wwords iM (f_Wwords h_l0) hM56
    have kM56 : Keep n (W_X7_takeNone l0) Me M56 := kM.st hM56 (Or.inl (Or.inl rfl))
    have w2_ := wI_id (x := (l2 + 1)) (by omega) (by omega)
    exact hk42 _ _ ⟨by omega, by omega⟩ (by omega) iM56 kM56
theorem s_X7_takeNone_42 {n : Nat} {Me : Mem} {l0 : Int} (h_l0 : isWS l0) : ∀ (fu : Nat) (l2 : Int) (M : Mem), (0 ≤ l2 ∧ l2 ≤ 64) → 65 - l2 < (fu : Int) → I n M → Keep n (W_X7_takeNone l0) Me M → wp (mX7_takeNone_42 fu l0 l2 M) (fun q => I n q.2 ∧ Keep n (W_X7_takeNone l0) Me q.2 ∧ True) := by
  intro fu
  induction fu with
  | zero =>
    intro l2 M r_l2 hf iM kM
    exfalso
    omega
  | succ fu ih =>
    intro l2 M r_l2 hf iM kM
    exact sb_X7_takeNone_42 h_l0 ih r_l2 (by have e : ((fu + 1 : Nat) : Int) = (fu : Int) + 1 := rfl; rw [e] at hf; exact hf) iM kM
theorem s_X7_takeNone_37 {n : Nat} {Me : Mem} {l0 : Int} (h_l0 : isWS l0) {s1 : Int} {M : Mem} (r_s1 : 1 ≤ s1 ∧ s1 ≤ 64) (iM : I n M) (kM : Keep n (W_X7_takeNone l0) Me M) : wp (mX7_takeNone_37 l0 l0 s1 M) (fun q => I n q.2 ∧ Keep n (W_X7_takeNone l0) Me q.2 ∧ True) := by
  have hn : (169 : Int) ≤ (n : Int) := by have := iM.2.2.2.2.1; omega
  have u_l0 := h_l0
  unfold isWS at u_l0
  unfold mX7_takeNone_37
  refine w_pF (ji := 1) rfl (congrArg Prod.fst (k_WS iM h_l0)) (fun M37 hM37 => ?_)
  replace hM37 : M37 = mS M l0 1 s1 := hM37
  have iM37 : I n M37 := wr_WS_1 iM (f_WS h_l0) ⟨by omega, by omega⟩ hM37
  have kM37 : Keep n (W_X7_takeNone l0) Me M37 := kM.st hM37 (Or.inl (Or.inr (Or.inl ⟨rfl, rfl⟩)))
  exact s_X7_takeNone_42 h_l0 FU _ _ ⟨by omega, by omega⟩ (by show _ < (70000 : Int); omega) iM37 kM37
theorem s_X7_takeNone {n : Nat} {l0 l1 : Int} {M : Mem} (h_l0 : isWS l0) (r_l1 : 0 ≤ l1 ∧ l1 ≤ 36) (iM : I n M) : wp (mX7_takeNone l0 l1 M) (fun q => I n q.2 ∧ Keep n (W_X7_takeNone l0) M q.2 ∧ True) := by
  have hn : (169 : Int) ≤ (n : Int) := by have := iM.2.2.2.2.1; omega
  have kM : Keep n (W_X7_takeNone l0) M M := Keep.rf
  have u_l0 := h_l0
  unfold isWS at u_l0
  unfold mX7_takeNone
  obtain ⟨w1_e, w1_⟩ : ∃ z, (if 12 < l1 then 12 else l1) = z := ⟨_, rfl⟩
  have w1_x : (12 < l1 ∧ w1_e = 12) ∨ (¬ 12 < l1 ∧ w1_e = l1) := by rw [← w1_]; split <;> omega
  have w1_y : (if 12 < l1 then 12 else l1) = w1_e := w1_
  obtain ⟨w2_e, w2_⟩ : ∃ z, (if 0 < (if 12 < l1 then 12 else l1) then (if 12 < l1 then 12 else l1) else 0) = z := ⟨_, rfl⟩
  have w2_x : (0 < (if 12 < l1 then 12 else l1) ∧ w2_e = (if 12 < l1 then 12 else l1)) ∨ (¬ 0 < (if 12 < l1 then 12 else l1) ∧ w2_e = 0) := by rw [← w2_]; split <;> omega
  have w2_y : (if 0 < (if 12 < l1 then 12 else l1) then (if 12 < l1 then 12 else l1) else 0) = w2_e := w2_
  refine w_pF (ji := 2) rfl (congrArg Prod.fst (k_WS iM h_l0)) (fun M11 hM11 => ?_)
  replace hM11 : M11 = mS M l0 2 (if 0 < (if 12 < l1 then 12 else l1) then (if 12 < l1 then 12 else l1) else 0) := hM11
  have iM11 : I n M11 := wr_WS_2 iM (f_WS h_l0) ⟨by omega, by omega⟩ hM11
  have kM11 : Keep n (W_X7_takeNone l0) M M11 := kM.st hM11 (Or.inl (Or.inr (Or.inr ⟨rfl, rfl⟩)))
  obtain ⟨svM11, esvM11⟩ : ∃ z, z = (if 0 < (if 12 < l1 then 12 else l1) then (if 12 < l1 then 12 else l1) else 0) := ⟨_, rfl⟩
  refine w_gFc (ji := 2) rfl (congrArg Prod.fst (k_WS iM11 h_l0)) (show mG M11 l0 2 = svM11 from (show mG M11 l0 2 = svM11 from ((st_eq hM11).trans esvM11.symm))) ?_
  refine w_if (fun c3_ => ?_) (fun c3_ => ?_)
  · skip
    refine w_gFc (ji := 2) rfl (congrArg Prod.fst (k_WS iM11 h_l0)) (show mG M11 l0 2 = svM11 from (show mG M11 l0 2 = svM11 from ((st_eq hM11).trans esvM11.symm))) ?_
    have w4_ := wI_id (x := (svM11 - 6)) (by omega) (by omega)
    have w5_ := ishl1_b (k := (wI (svM11 - 6))) (B := 6) (by omega) (by omega) (by decide)
    exact s_X7_takeNone_37 h_l0 ⟨by omega, by omega⟩ iM11 kM11
  · skip
    exact s_X7_takeNone_37 h_l0 ⟨by omega, by omega⟩ iM11 kM11
def W_X7_takeAll (l0 : Int) (b j : Int) : Prop := b = (l0 + 1) ∨ (b = l0 ∧ j = 1) ∨ (b = l0 ∧ j = 2)
theorem s_X7_takeAll_45 {n : Nat} {Me : Mem} {l0 : Int} (h_l0 : isWS l0) {k7 : Int → Int → Mem → Option (Int × Mem)} {fu7 : Nat} (hk7 : ∀ (l2 : Int) (M : Mem), (0 ≤ l2 ∧ l2 ≤ 64) → 65 - l2 < (fu7 : Int) → I n M → Keep n (W_X7_takeAll l0) Me M → wp (k7 l0 l2 M) (fun q => I n q.2 ∧ Keep n (W_X7_takeAll l0) Me q.2 ∧ True)) {l2 s1 s2 : Int} {M : Mem} (r_l2 : 0 ≤ l2 ∧ l2 ≤ 63) (r_s1 : 0 ≤ s1 ∧ s1 ≤ 63) (hf7 : 65 - l2 < (fu7 : Int) + 1) (iM : I n M) (kM : Keep n (W_X7_takeAll l0) Me M) : wp (mX7_takeAll_45 k7 l0 l2 (l0 + 1) s1 s2 M) (fun q => I n q.2 ∧ Keep n (W_X7_takeAll l0) Me q.2 ∧ True) := by
  have hn : (169 : Int) ≤ (n : Int) := by have := iM.2.2.2.2.1; omega
  have u_l0 := h_l0
  unfold isWS at u_l0
  unfold mX7_takeAll_45
  refine w_aS (k_Wwords iM h_l0) (by omega) (by omega) (fun M45 hM45 => ?_)
  replace hM45 : M45 = mS M (l0 + 1) s1 s2 := hM45
  have iM45 : I n M45 := wr_Wwords iM (f_Wwords h_l0) hM45
  have kM45 : Keep n (W_X7_takeAll l0) Me M45 := kM.st hM45 (Or.inl (Or.inl rfl))
  have w1_ := wI_id (x := (l2 + 1)) (by omega) (by omega)
  exact hk7 _ _ ⟨by omega, by omega⟩ (by omega) iM45 kM45
theorem sb_X7_takeAll_7 {n : Nat} {Me : Mem} {l0 : Int} (h_l0 : isWS l0) {k7 : Int → Int → Mem → Option (Int × Mem)} {fu7 : Nat} (hk7 : ∀ (l2 : Int) (M : Mem), (0 ≤ l2 ∧ l2 ≤ 64) → 65 - l2 < (fu7 : Int) → I n M → Keep n (W_X7_takeAll l0) Me M → wp (k7 l0 l2 M) (fun q => I n q.2 ∧ Keep n (W_X7_takeAll l0) Me q.2 ∧ True)) {l2 : Int} {M : Mem} (r_l2 : 0 ≤ l2 ∧ l2 ≤ 64) (hf7 : 65 - l2 < (fu7 : Int) + 1) (iM : I n M) (kM : Keep n (W_X7_takeAll l0) Me M) : wp (bX7_takeAll_7 k7 l0 l2 M) (fun q => I n q.2 ∧ Keep n (W_X7_takeAll l0) Me q.2 ∧ True) := by
  have hn : (169 : Int) ≤ (n : Int) := by have := iM.2.2.2.2.1; omega
  have u_l0 := h_l0
  unfold isWS at u_l0
  unfold bX7_takeAll_7
  refine w_gF (ji := 1) rfl (congrArg Prod.fst (k_WS iM h_l0)) (fun a9 ha9 => ?_)
  have ra9 : 0 ≤ a9 ∧ a9 ≤ 64 := ha9.tr (P := fun z => 0 ≤ z ∧ z ≤ 64) (rd_WS_1 iM (f_WS h_l0))
  refine w_if (fun c1_ => ?_) (fun c1_ => ?_)
  · skip
    exact w_ret ⟨iM, kM, trivial⟩
  · skip
    refine w_gFc (ji := 0) rfl (congrArg Prod.fst (k_WS iM h_l0)) (show mG M l0 0 = (l0 + 1) from rd_WS_0 iM (a := l0) (f_WS h_l0)) ?_
    refine w_gF (ji := 2) rfl (congrArg Prod.fst (k_WS iM h_l0)) (fun a21 ha21 => ?_)
    have ra21 : 0 ≤ a21 ∧ a21 ≤ 12 := ha21.tr (P := fun z => 0 ≤ z ∧ z ≤ 12) (rd_WS_2 iM (f_WS h_l0))
    refine w_if (fun c2_ => ?_) (fun c2_ => ?_)
    · skip
      exact s_X7_takeAll_45 h_l0 hk7 ⟨by omega, by omega⟩ ⟨by omega, by omega⟩ (by omega) iM kM
    · skip
      refine w_gFc (ji := 2) rfl (congrArg Prod.fst (k_WS iM h_l0)) (show mG M l0 2 = a21 from (show mG M l0 2 = a21 from ha21)) ?_
      have w3_ := ishl1_b (k := a21) (B := 5) (by omega) (by omega) (by decide)
      exact s_X7_takeAll_45 h_l0 hk7 ⟨by omega, by omega⟩ ⟨by omega, by omega⟩ (by omega) iM kM
theorem s_X7_takeAll_7 {n : Nat} {Me : Mem} {l0 : Int} (h_l0 : isWS l0) : ∀ (fu : Nat) (l2 : Int) (M : Mem), (0 ≤ l2 ∧ l2 ≤ 64) → 65 - l2 < (fu : Int) → I n M → Keep n (W_X7_takeAll l0) Me M → wp (mX7_takeAll_7 fu l0 l2 M) (fun q => I n q.2 ∧ Keep n (W_X7_takeAll l0) Me q.2 ∧ True) := by
  intro fu
  induction fu with
  | zero =>
    intro l2 M r_l2 hf iM kM
    exfalso
    omega
  | succ fu ih =>
    intro l2 M r_l2 hf iM kM
    exact sb_X7_takeAll_7 h_l0 ih r_l2 (by have e : ((fu + 1 : Nat) : Int) = (fu : Int) + 1 := rfl; rw [e] at hf; exact hf) iM kM
theorem s_X7_takeAll {n : Nat} {l0 l1 : Int} {M : Mem} (h_l0 : isWS l0) (r_l1 : 0 ≤ l1 ∧ l1 ≤ 36) (iM : I n M) : wp (mX7_takeAll l0 l1 M) (fun q => I n q.2 ∧ Keep n (W_X7_takeAll l0) M q.2 ∧ True) := by
  have hn : (169 : Int) ≤ (n : Int) := by have := iM.2.2.2.2.1; omega
  have kM : Keep n (W_X7_takeAll l0) M M := Keep.rf
  have u_l0 := h_l0
  unfold isWS at u_l0
  unfold mX7_takeAll
  refine w_gK (congrArg Prod.fst (k_WS iM h_l0)) ?_
  refine w_call (s_X7_takeNone h_l0 ⟨by omega, by omega⟩ iM) ?_
  intro v2 m2 pp2
  obtain ⟨im2, kk2, -⟩ := pp2
  try dsimp only
  replace im2 : I n m2 := im2
  replace kk2 : Keep n (W_X7_takeNone l0) M m2 := kk2
  have km2 : Keep n (W_X7_takeAll l0) M m2 := kM.tr kk2 (fun b j z => Or.elim z (fun z => (Or.inl z)) (fun z => Or.elim z (fun z => (Or.inr (Or.inl z))) (fun z => (Or.inr (Or.inr z)))))
  exact s_X7_takeAll_7 h_l0 FU _ _ ⟨by omega, by omega⟩ (by show _ < (70000 : Int); omega) im2 km2
def W_X6_viewedDay (b j : Int) : Prop := False
theorem s_X6_viewedDay {n : Nat} {M : Mem} (iM : I n M) : wp (mX6_viewedDay 3 M) (fun q => I n q.2 ∧ Keep n W_X6_viewedDay M q.2 ∧ (0 ≤ q.1 ∧ q.1 ≤ 999) ∧ True) := by
  have hn : (169 : Int) ≤ (n : Int) := by have := iM.2.2.2.2.1; omega
  have kM : Keep n W_X6_viewedDay M M := Keep.rf
  unfold mX6_viewedDay
  refine w_gF (ji := 14) rfl (congrArg Prod.fst (kl_3 iM)) (fun a1 ha1 => ?_)
  have ra1 : (-1) ≤ a1 ∧ a1 ≤ 999 := ha1.tr (P := fun z => (-1) ≤ z ∧ z ≤ 999) (rd_Told_14 iM rfl)
  refine w_if (fun c1_ => ?_) (fun c1_ => ?_)
  · skip
    refine w_gF (ji := 13) rfl (congrArg Prod.fst (kl_3 iM)) (fun a9 ha9 => ?_)
    have ra9 : 0 ≤ a9 ∧ a9 ≤ 999 := ha9.tr (P := fun z => 0 ≤ z ∧ z ≤ 999) (rd_Told_13 iM rfl)
    exact w_ret ⟨iM, kM, (show 0 ≤ a9 ∧ a9 ≤ 999 from ⟨by omega, by omega⟩), trivial⟩
  · skip
    refine w_gFc (ji := 14) rfl (congrArg Prod.fst (kl_3 iM)) (show mG M 3 14 = a1 from (show mG M 3 14 = a1 from ha1)) ?_
    exact w_ret ⟨iM, kM, (show 0 ≤ a1 ∧ a1 ≤ 999 from ⟨by omega, by omega⟩), trivial⟩
def W_X6_knownOf (b j : Int) : Prop := False
theorem s_X6_knownOf_69 {n : Nat} {Me : Mem} {k17 : Int → Int → Int → Int → Mem → Option (Int × Mem)} {fu17 : Nat} (hk17 : ∀ (l4 l5 l6 : Int) (M : Mem), (0 ≤ l4 ∧ l4 ≤ 35) → ((-1) ≤ l5 ∧ l5 ≤ 1) → (0 ≤ l6 ∧ l6 ≤ 40) → 41 - l6 < (fu17 : Int) → I n M → Keep n W_X6_knownOf Me M → wp (k17 3 l4 l5 l6 M) (fun q => I n q.2 ∧ Keep n W_X6_knownOf Me q.2 ∧ ((-1) ≤ q.1 ∧ q.1 ≤ 1) ∧ True)) {l4 l5 l6 : Int} {M : Mem} (r_l4 : 0 ≤ l4 ∧ l4 ≤ 35) (r_l5 : (-1) ≤ l5 ∧ l5 ≤ 1) (r_l6 : 0 ≤ l6 ∧ l6 ≤ 39) (hf17 : 41 - l6 < (fu17 : Int) + 1) (iM : I n M) (kM : Keep n W_X6_knownOf Me M) : wp (mX6_knownOf_69 k17 3 l4 l5 l6 M) (fun q => I n q.2 ∧ Keep n W_X6_knownOf Me q.2 ∧ ((-1) ≤ q.1 ∧ q.1 ≤ 1) ∧ True) := by
  have hn : (169 : Int) ≤ (n : Int) := by have := iM.2.2.2.2.1; omega
  unfold mX6_knownOf_69
  have w1_ := wI_id (x := (l6 + 1)) (by omega) (by omega)
  exact hk17 _ _ _ _ ⟨by omega, by omega⟩ ⟨by omega, by omega⟩ ⟨by omega, by omega⟩ (by omega) iM kM
theorem s_X6_knownOf_67 {n : Nat} {Me : Mem} {k17 : Int → Int → Int → Int → Mem → Option (Int × Mem)} {fu17 : Nat} (hk17 : ∀ (l4 l5 l6 : Int) (M : Mem), (0 ≤ l4 ∧ l4 ≤ 35) → ((-1) ≤ l5 ∧ l5 ≤ 1) → (0 ≤ l6 ∧ l6 ≤ 40) → 41 - l6 < (fu17 : Int) → I n M → Keep n W_X6_knownOf Me M → wp (k17 3 l4 l5 l6 M) (fun q => I n q.2 ∧ Keep n W_X6_knownOf Me q.2 ∧ ((-1) ≤ q.1 ∧ q.1 ≤ 1) ∧ True)) {l4 l6 s0 : Int} {M : Mem} (r_l4 : 0 ≤ l4 ∧ l4 ≤ 35) (r_l6 : 0 ≤ l6 ∧ l6 ≤ 39) (r_s0 : 0 ≤ s0 ∧ s0 ≤ 1) (hf17 : 41 - l6 < (fu17 : Int) + 1) (iM : I n M) (kM : Keep n W_X6_knownOf Me M) : wp (mX6_knownOf_67 k17 3 l4 l6 s0 M) (fun q => I n q.2 ∧ Keep n W_X6_knownOf Me q.2 ∧ ((-1) ≤ q.1 ∧ q.1 ≤ 1) ∧ True) := by
  have hn : (169 : Int) ≤ (n : Int) := by have := iM.2.2.2.2.1; omega
  unfold mX6_knownOf_67
  exact s_X6_knownOf_69 hk17 ⟨by omega, by omega⟩ ⟨by omega, by omega⟩ ⟨by omega, by omega⟩ (by omega) iM kM
theorem sb_X6_knownOf_17 {n : Nat} {Me : Mem} {k17 : Int → Int → Int → Int → Mem → Option (Int × Mem)} {fu17 : Nat} (hk17 : ∀ (l4 l5 l6 : Int) (M : Mem), (0 ≤ l4 ∧ l4 ≤ 35) → ((-1) ≤ l5 ∧ l5 ≤ 1) → (0 ≤ l6 ∧ l6 ≤ 40) → 41 - l6 < (fu17 : Int) → I n M → Keep n W_X6_knownOf Me M → wp (k17 3 l4 l5 l6 M) (fun q => I n q.2 ∧ Keep n W_X6_knownOf Me q.2 ∧ ((-1) ≤ q.1 ∧ q.1 ≤ 1) ∧ True)) {l4 l5 l6 : Int} {M : Mem} (r_l4 : 0 ≤ l4 ∧ l4 ≤ 35) (r_l5 : (-1) ≤ l5 ∧ l5 ≤ 1) (r_l6 : 0 ≤ l6 ∧ l6 ≤ 40) (hf17 : 41 - l6 < (fu17 : Int) + 1) (iM : I n M) (kM : Keep n W_X6_knownOf Me M) : wp (bX6_knownOf_17 k17 3 l4 l5 l6 M) (fun q => I n q.2 ∧ Keep n W_X6_knownOf Me q.2 ∧ ((-1) ≤ q.1 ∧ q.1 ≤ 1) ∧ True) := by
  have hn : (169 : Int) ≤ (n : Int) := by have := iM.2.2.2.2.1; omega
  unfold bX6_knownOf_17
  refine w_gF (ji := 18) rfl (congrArg Prod.fst (kl_3 iM)) (fun a20 ha20 => ?_)
  have ra20 : 0 ≤ a20 ∧ a20 ≤ 40 := ha20.tr (P := fun z => 0 ≤ z ∧ z ≤ 40) (rd_Told_18 iM rfl)
  refine w_if (fun c1_ => ?_) (fun c1_ => ?_)
  · skip
    exact w_ret ⟨iM, kM, (show (-1) ≤ l5 ∧ l5 ≤ 1 from ⟨by omega, by omega⟩), trivial⟩
  · skip
    refine w_gFc (ji := 15) rfl (congrArg Prod.fst (kl_3 iM)) (show mG M 3 15 = 17 from rd_Told_15 iM (a := 3) rfl) ?_
    refine w_aG (kl_17 iM) (by omega) (by omega) (fun a32 ha32 => ?_)
    have ra32 : 0 ≤ a32 ∧ a32 ≤ 35 := ha32.tr (P := fun z => 0 ≤ z ∧ z ≤ 35) (rd_TknownFact iM rfl)
    refine w_if (fun c2_ => ?_) (fun c2_ => ?_)
    · skip
      refine w_gFc (ji := 17) rfl (congrArg Prod.fst (kl_3 iM)) (show mG M 3 17 = 19 from rd_Told_17 iM (a := 3) rfl) ?_
      refine w_aG (kl_19 iM) (by omega) (by omega) (fun a44 ha44 => ?_)
      have ra44 : 0 ≤ a44 ∧ a44 ≤ 999 := ha44.tr (P := fun z => 0 ≤ z ∧ z ≤ 999) (rd_TknownOn iM rfl)
      refine w_gK (congrArg Prod.fst (kl_3 iM)) ?_
      refine w_call (s_X6_viewedDay iM) ?_
      intro v46 m46 pp46
      obtain ⟨im46, kk46, e46_0, -⟩ := pp46
      try dsimp only
      replace im46 : I n m46 := im46
      replace kk46 : Keep n W_X6_viewedDay M m46 := kk46
      have km46 : Keep n W_X6_knownOf Me m46 := kM.tr kk46 (fun b j z => z.elim)
      replace e46_0 : 0 ≤ v46 ∧ v46 ≤ 999 := e46_0
      refine w_if (fun c3_ => ?_) (fun c3_ => ?_)
      · skip
        exact s_X6_knownOf_69 hk17 ⟨by omega, by omega⟩ ⟨by omega, by omega⟩ ⟨by omega, by omega⟩ (by omega) im46 km46
      · skip
        refine w_gFc (ji := 16) rfl (congrArg Prod.fst (kl_3 im46)) (show mG m46 3 16 = 18 from rd_Told_16 im46 (a := 3) rfl) ?_
        refine w_aG (kl_18 im46) (by omega) (by omega) (fun a58 ha58 => ?_)
        have ra58 : 0 ≤ a58 ∧ a58 ≤ 1 := ha58.tr (P := fun z => 0 ≤ z ∧ z ≤ 1) (rd_TknownSo im46 rfl)
        refine w_if (fun c4_ => ?_) (fun c4_ => ?_)
        · skip
          exact s_X6_knownOf_67 hk17 ⟨by omega, by omega⟩ ⟨by omega, by omega⟩ ⟨by omega, by omega⟩ (by omega) im46 km46
        · skip
          exact s_X6_knownOf_67 hk17 ⟨by omega, by omega⟩ ⟨by omega, by omega⟩ ⟨by omega, by omega⟩ (by omega) im46 km46
    · skip
      exact s_X6_knownOf_69 hk17 ⟨by omega, by omega⟩ ⟨by omega, by omega⟩ ⟨by omega, by omega⟩ (by omega) iM kM
theorem s_X6_knownOf_17 {n : Nat} {Me : Mem} : ∀ (fu : Nat) (l4 l5 l6 : Int) (M : Mem), (0 ≤ l4 ∧ l4 ≤ 35) → ((-1) ≤ l5 ∧ l5 ≤ 1) → (0 ≤ l6 ∧ l6 ≤ 40) → 41 - l6 < (fu : Int) → I n M → Keep n W_X6_knownOf Me M → wp (mX6_knownOf_17 fu 3 l4 l5 l6 M) (fun q => I n q.2 ∧ Keep n W_X6_knownOf Me q.2 ∧ ((-1) ≤ q.1 ∧ q.1 ≤ 1) ∧ True) := by
  intro fu
  induction fu with
  | zero =>
    intro l4 l5 l6 M r_l4 r_l5 r_l6 hf iM kM
    exfalso
    omega
  | succ fu ih =>
    intro l4 l5 l6 M r_l4 r_l5 r_l6 hf iM kM
    exact sb_X6_knownOf_17 ih r_l4 r_l5 r_l6 (by have e : ((fu + 1 : Nat) : Int) = (fu : Int) + 1 := rfl; rw [e] at hf; exact hf) iM kM
theorem s_X6_knownOf {n : Nat} {l1 l2 l3 : Int} {M : Mem} (r_l1 : 0 ≤ l1 ∧ l1 ≤ 3) (r_l2 : 0 ≤ l2 ∧ l2 ≤ 2) (r_l3 : 0 ≤ l3 ∧ l3 ≤ 2) (iM : I n M) : wp (mX6_knownOf 3 l1 l2 l3 M) (fun q => I n q.2 ∧ Keep n W_X6_knownOf M q.2 ∧ ((-1) ≤ q.1 ∧ q.1 ≤ 1) ∧ True) := by
  have hn : (169 : Int) ≤ (n : Int) := by have := iM.2.2.2.2.1; omega
  have kM : Keep n W_X6_knownOf M M := Keep.rf
  unfold mX6_knownOf
  have w1_ := wI_id (x := (l1 * 3)) (by omega) (by omega)
  have w2_ := wI_id (x := ((wI (l1 * 3)) + l2)) (by omega) (by omega)
  have w3_ := wI_id (x := ((wI ((wI (l1 * 3)) + l2)) * 3)) (by omega) (by omega)
  have w4_ := wI_id (x := ((wI ((wI ((wI (l1 * 3)) + l2)) * 3)) + l3)) (by omega) (by omega)
  refine w_some (fun b9 hb9 => ?_)
  replace hb9 : b9 = (wI ((wI ((wI ((wI (l1 * 3)) + l2)) * 3)) + l3)) := hb9
  exact s_X6_knownOf_17 FU _ _ _ _ ⟨by omega, by omega⟩ ⟨by omega, by omega⟩ ⟨by omega, by omega⟩ (by show _ < (70000 : Int); omega) iM kM
def W_X7_soAt (b j : Int) : Prop := False
theorem s_X7_soAt_18 {n : Nat} {Me : Mem} {l0 l1 : Int} {M : Mem} (r_l0 : (-36) ≤ l0 ∧ l0 ≤ 36) (r_l1 : 0 ≤ l1 ∧ l1 ≤ 63) (iM : I n M) (kM : Keep n W_X7_soAt Me M) : wp (mX7_soAt_18 l0 l1 M) (fun q => I n q.2 ∧ Keep n W_X7_soAt Me q.2 ∧ True) := by
  have hn : (169 : Int) ≤ (n : Int) := by have := iM.2.2.2.2.1; omega
  unfold mX7_soAt_18
  have w1_ := wI_id (x := (l0 - 6)) (by omega) (by omega)
  have w2_ := ishr_in l1 (wI (l0 - 6))
  have w3_ := iand_r (x := (ishr l1 (wI (l0 - 6)))) (y := 1) (by omega) (by omega)
  refine w_if (fun c4_ => ?_) (fun c4_ => ?_)
  · skip
    exact w_ret ⟨iM, kM, trivial⟩
  · skip
    exact w_ret ⟨iM, kM, trivial⟩
theorem s_X7_soAt {n : Nat} {l0 l1 : Int} {M : Mem} (r_l0 : (-36) ≤ l0 ∧ l0 ≤ 36) (r_l1 : 0 ≤ l1 ∧ l1 ≤ 63) (iM : I n M) : wp (mX7_soAt l0 l1 M) (fun q => I n q.2 ∧ Keep n W_X7_soAt M q.2 ∧ True) := by
  have hn : (169 : Int) ≤ (n : Int) := by have := iM.2.2.2.2.1; omega
  have kM : Keep n W_X7_soAt M M := Keep.rf
  unfold mX7_soAt
  refine w_if (fun c1_ => ?_) (fun c1_ => ?_)
  · skip
    exact s_X7_soAt_18 ⟨by omega, by omega⟩ ⟨by omega, by omega⟩ iM kM
  · skip
    refine w_if (fun c2_ => ?_) (fun c2_ => ?_)
    · skip
      exact s_X7_soAt_18 ⟨by omega, by omega⟩ ⟨by omega, by omega⟩ iM kM
    · skip
      refine w_tG (by omega) (by show _ < (6 : Int); omega) (fun a16 ha16 => ?_)
      exact w_ret ⟨iM, kM, trivial⟩
def W_X7_keepWhere (l0 : Int) (b j : Int) : Prop := b = (l0 + 1)
theorem s_X7_keepWhere_38 {n : Nat} {Me : Mem} {l0 : Int} (h_l0 : isWS l0) {k2 : Int → Int → Int → Int → Mem → Option (Int × Mem)} {fu2 : Nat} (hk2 : ∀ (l1 l2 l3 : Int) (M : Mem), ((-36) ≤ l1 ∧ l1 ≤ 36) → (0 ≤ l2 ∧ l2 ≤ 1) → (0 ≤ l3 ∧ l3 ≤ 64) → 65 - l3 < (fu2 : Int) → I n M → Keep n (W_X7_keepWhere l0) Me M → wp (k2 l0 l1 l2 l3 M) (fun q => I n q.2 ∧ Keep n (W_X7_keepWhere l0) Me q.2 ∧ True)) {l1 l2 l3 s1 s2 s3 : Int} {M : Mem} (r_l1 : (-36) ≤ l1 ∧ l1 ≤ 36) (r_l2 : 0 ≤ l2 ∧ l2 ≤ 1) (r_l3 : 0 ≤ l3 ∧ l3 ≤ 63) (r_s1 : 0 ≤ s1 ∧ s1 ≤ 63) (hf2 : 65 - l3 < (fu2 : Int) + 1) (iM : I n M) (kM : Keep n (W_X7_keepWhere l0) Me M) : wp (mX7_keepWhere_38 k2 l0 l1 l2 l3 (l0 + 1) s1 s2 s3 M) (fun q => I n q.2 ∧ Keep n (W_X7_keepWhere l0) Me q.2 ∧ True) := by
  have hn : (169 : Int) ≤ (n : Int) := by have := iM.2.2.2.2.1; omega
  have u_l0 := h_l0
  unfold isWS at u_l0
  unfold mX7_keepWhere_38
  refine w_aS (k_Wwords iM h_l0) (by omega) (by omega) (fun M39 hM39 => ?_)
  replace hM39 : M39 = mS M (l0 + 1) s1 (land s2 s3) := hM39
  have iM39 : I n M39 := wr_Wwords iM (f_Wwords h_l0) hM39
  have kM39 : Keep n (W_X7_keepWhere l0) Me M39 := kM.st hM39 (Or.inl rfl)
  obtain ⟨svM39, esvM39⟩ : ∃ z, z = (land s2 s3) := ⟨_, rfl⟩
  have w2_ := wI_id (x := (l3 + 1)) (by omega) (by omega)
  exact hk2 _ _ _ _ ⟨by omega, by omega⟩ ⟨by omega, by omega⟩ ⟨by omega, by omega⟩ (by omega) iM39 kM39
theorem sb_X7_keepWhere_2 {n : Nat} {Me : Mem} {l0 : Int} (h_l0 : isWS l0) {k2 : Int → Int → Int → Int → Mem → Option (Int × Mem)} {fu2 : Nat} (hk2 : ∀ (l1 l2 l3 : Int) (M : Mem), ((-36) ≤ l1 ∧ l1 ≤ 36) → (0 ≤ l2 ∧ l2 ≤ 1) → (0 ≤ l3 ∧ l3 ≤ 64) → 65 - l3 < (fu2 : Int) → I n M → Keep n (W_X7_keepWhere l0) Me M → wp (k2 l0 l1 l2 l3 M) (fun q => I n q.2 ∧ Keep n (W_X7_keepWhere l0) Me q.2 ∧ True)) {l1 l2 l3 : Int} {M : Mem} (r_l1 : (-36) ≤ l1 ∧ l1 ≤ 36) (r_l2 : 0 ≤ l2 ∧ l2 ≤ 1) (r_l3 : 0 ≤ l3 ∧ l3 ≤ 64) (hf2 : 65 - l3 < (fu2 : Int) + 1) (iM : I n M) (kM : Keep n (W_X7_keepWhere l0) Me M) : wp (bX7_keepWhere_2 k2 l0 l1 l2 l3 M) (fun q => I n q.2 ∧ Keep n (W_X7_keepWhere l0) Me q.2 ∧ True) := by
  have hn : (169 : Int) ≤ (n : Int) := by have := iM.2.2.2.2.1; omega
  have u_l0 := h_l0
  unfold isWS at u_l0
  unfold bX7_keepWhere_2
  refine w_gF (ji := 1) rfl (congrArg Prod.fst (k_WS iM h_l0)) (fun a4 ha4 => ?_)
  have ra4 : 0 ≤ a4 ∧ a4 ≤ 64 := ha4.tr (P := fun z => 0 ≤ z ∧ z ≤ 64) (rd_WS_1 iM (f_WS h_l0))
  refine w_if (fun c1_ => ?_) (fun c1_ => ?_)
  · skip
    exact w_ret ⟨iM, kM, trivial⟩
  · skip
    refine w_gFc (ji := 0) rfl (congrArg Prod.fst (k_WS iM h_l0)) (show mG M l0 0 = (l0 + 1) from rd_WS_0 iM (a := l0) (f_WS h_l0)) ?_
    refine w_aG (k_Wwords iM h_l0) (by omega) (by omega) (fun a16 ha16 => ?_)
    refine w_if (fun c2_ => ?_) (fun c2_ => ?_)
    · skip
      refine w_call (s_X7_soAt ⟨by omega, by omega⟩ ⟨by omega, by omega⟩ iM) ?_
      intro v31 m31 pp31
      obtain ⟨im31, kk31, -⟩ := pp31
      try dsimp only
      replace im31 : I n m31 := im31
      replace kk31 : Keep n W_X7_soAt M m31 := kk31
      have km31 : Keep n (W_X7_keepWhere l0) Me m31 := kM.tr kk31 (fun b j z => z.elim)
      exact s_X7_keepWhere_38 h_l0 hk2 ⟨by omega, by omega⟩ ⟨by omega, by omega⟩ ⟨by omega, by omega⟩ ⟨by omega, by omega⟩ (by omega) im31 km31
    · skip
      refine w_call (s_X7_soAt ⟨by omega, by omega⟩ ⟨by omega, by omega⟩ iM) ?_
      intro v23 m23 pp23
      obtain ⟨im23, kk23, -⟩ := pp23
      try dsimp only
      replace im23 : I n m23 := im23
      replace kk23 : Keep n W_X7_soAt M m23 := kk23
      have km23 : Keep n (W_X7_keepWhere l0) Me m23 := kM.tr kk23 (fun b j z => z.elim)
      exact s_X7_keepWhere_38 h_l0 hk2 ⟨by omega, by omega⟩ ⟨by omega, by omega⟩ ⟨by omega, by omega⟩ ⟨by omega, by omega⟩ (by omega) im23 km23
theorem s_X7_keepWhere_2 {n : Nat} {Me : Mem} {l0 : Int} (h_l0 : isWS l0) : ∀ (fu : Nat) (l1 l2 l3 : Int) (M : Mem), ((-36) ≤ l1 ∧ l1 ≤ 36) → (0 ≤ l2 ∧ l2 ≤ 1) → (0 ≤ l3 ∧ l3 ≤ 64) → 65 - l3 < (fu : Int) → I n M → Keep n (W_X7_keepWhere l0) Me M → wp (mX7_keepWhere_2 fu l0 l1 l2 l3 M) (fun q => I n q.2 ∧ Keep n (W_X7_keepWhere l0) Me q.2 ∧ True) := by
  intro fu
  induction fu with
  | zero =>
    intro l1 l2 l3 M r_l1 r_l2 r_l3 hf iM kM
    exfalso
    omega
  | succ fu ih =>
    intro l1 l2 l3 M r_l1 r_l2 r_l3 hf iM kM
    exact sb_X7_keepWhere_2 h_l0 ih r_l1 r_l2 r_l3 (by have e : ((fu + 1 : Nat) : Int) = (fu : Int) + 1 := rfl; rw [e] at hf; exact hf) iM kM
theorem s_X7_keepWhere {n : Nat} {l0 l1 l2 : Int} {M : Mem} (h_l0 : isWS l0) (r_l1 : (-36) ≤ l1 ∧ l1 ≤ 36) (r_l2 : 0 ≤ l2 ∧ l2 ≤ 1) (iM : I n M) : wp (mX7_keepWhere l0 l1 l2 M) (fun q => I n q.2 ∧ Keep n (W_X7_keepWhere l0) M q.2 ∧ True) := by
  have hn : (169 : Int) ≤ (n : Int) := by have := iM.2.2.2.2.1; omega
  have kM : Keep n (W_X7_keepWhere l0) M M := Keep.rf
  have u_l0 := h_l0
  unfold isWS at u_l0
  unfold mX7_keepWhere
  exact s_X7_keepWhere_2 h_l0 FU _ _ _ _ ⟨by omega, by omega⟩ ⟨by omega, by omega⟩ ⟨by omega, by omega⟩ (by show _ < (70000 : Int); omega) iM kM
