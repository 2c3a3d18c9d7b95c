def W_X2_takeBound (b j : Int) : Prop := (b = 3 ∧ j = 6) ∨ (b = 3 ∧ j = 7) ∨ (b = 65 ∧ j = 10) ∨ (b = 65 ∧ j = 11) ∨ (b = 65 ∧ j = 4) ∨ (b = 65 ∧ j = 8) ∨ (b = 65 ∧ j = 9)
theorem s_X2_takeBound_64 {n : Nat} {Me : Mem} {l5 : Int} {M : Mem} (r_l5 : 0 ≤ l5 ∧ l5 ≤ 15) (p_RR : RR M) (iM : I n M) (kM : Keep n W_X2_takeBound Me M) : wp (mX2_takeBound_64 l5 M) (fun q => I n q.2 ∧ Keep n W_X2_takeBound Me q.2 ∧ (0 ≤ q.1 ∧ q.1 ≤ 15) ∧ True) := by
  have hn : (169 : Int) ≤ (n : Int) := by have := iM.2.2.2.2.1; omega
  unfold mX2_takeBound_64
  exact w_ret ⟨iM, kM, (show 0 ≤ l5 ∧ l5 ≤ 15 from ⟨by omega, by omega⟩), trivial⟩
theorem s_X2_takeBound {n : Nat} {l1 l2 : Int} {M : Mem} (r_l1 : (-2147483648) ≤ l1 ∧ l1 ≤ 2147483647) (r_l2 : (-1) ≤ l2 ∧ l2 ≤ 3) (p_RR : RR M) (iM : I n M) : wp (mX2_takeBound 65 l1 l2 M) (fun q => I n q.2 ∧ Keep n W_X2_takeBound M q.2 ∧ (0 ≤ q.1 ∧ q.1 ≤ 15) ∧ True) := by
  have hn : (169 : Int) ≤ (n : Int) := by have := iM.2.2.2.2.1; omega
  have kM : Keep n W_X2_takeBound M M := Keep.rf
  unfold mX2_takeBound
  refine w_gF (ji := 9) rfl (congrArg Prod.fst (kl_65 iM)) (fun a1 ha1 => ?_)
  have ra1 : 0 ≤ a1 ∧ a1 ≤ 400 := ha1.tr (P := fun z => 0 ≤ z ∧ z ≤ 400) (rd_Reader_9 iM rfl)
  refine w_gK (congrArg Prod.fst (kl_65 iM)) ?_
  refine w_call (s_X2_takeVariable p_RR iM) ?_
  intro v6 m6 pp6
  obtain ⟨im6, kk6, e6_0, -⟩ := pp6
  try dsimp only
  replace im6 : I n m6 := im6
  replace kk6 : Keep n W_X2_takeVariable M m6 := kk6
  have km6 : Keep n W_X2_takeBound M m6 := kM.tr kk6 (fun b j z => Or.elim z (fun z => (Or.inl z)) (fun z => Or.elim z (fun z => (Or.inr (Or.inl z))) (fun z => Or.elim z (fun z => (Or.inr (Or.inr (Or.inl z)))) (fun z => Or.elim z (fun z => (Or.inr (Or.inr (Or.inr (Or.inl z))))) (fun z => Or.elim z (fun z => (Or.inr (Or.inr (Or.inr (Or.inr (Or.inl z)))))) (fun z => Or.elim z (fun z => (Or.inr (Or.inr (Or.inr (Or.inr (Or.inr (Or.inl z))))))) (fun z => (Or.inr (Or.inr (Or.inr (Or.inr (Or.inr (Or.inr z)))))))))))))
  replace e6_0 : (-119) ≤ v6 ∧ v6 ≤ 136 := e6_0
  refine w_if (fun c1_ => ?_) (fun c1_ => ?_)
  · skip
    exact w_ret ⟨im6, km6, (show 0 ≤ 0 ∧ 0 ≤ 15 from ⟨by omega, by omega⟩), trivial⟩
  · skip
    have w2_ := wI_id (x := (4 * v6)) (by omega) (by omega)
    have w3_ := ishr_in l1 (wI (4 * v6))
    have w4_ := iand_r (x := (ishr l1 (wI (4 * v6)))) (y := 15) (by omega) (by omega)
    refine w_some (fun b28 hb28 => ?_)
    replace hb28 : b28 = (iand (ishr l1 (wI (4 * v6))) 15) := hb28
    refine w_if (fun c5_ => ?_) (fun c5_ => ?_)
    · skip
      refine w_gK (congrArg Prod.fst (kl_65 im6)) ?_
      have ppRR_m6 : RR m6 := (RR_of p_RR (kk6.2.2 65 0 (by omega) (fun z => by unfold W_X2_takeVariable at z; (try unfold isWS at z); (try unfold isShape at z); (try unfold isTold at z); (try dsimp only at z); omega)) (kk6.2.2 65 1 (by omega) (fun z => by unfold W_X2_takeVariable at z; (try unfold isWS at z); (try unfold isShape at z); (try unfold isTold at z); (try dsimp only at z); omega)) (kk6.2.2 65 3 (by omega) (fun z => by unfold W_X2_takeVariable at z; (try unfold isWS at z); (try unfold isShape at z); (try unfold isTold at z); (try dsimp only at z); omega)))
      refine w_call (s_X2_note ⟨by omega, by omega⟩ ⟨by omega, by omega⟩ ppRR_m6 im6) ?_
      intro v38 m38 pp38
      obtain ⟨im38, kk38, -⟩ := pp38
      try dsimp only
      replace im38 : I n m38 := im38
      replace kk38 : Keep n W_X2_note m6 m38 := kk38
      have km38 : Keep n W_X2_takeBound M m38 := km6.tr kk38 (fun b j z => Or.elim z (fun z => (Or.inl z)) (fun z => (Or.inr (Or.inl z))))
      have ppRR_m38 : RR m38 := (RR_of ppRR_m6 (kk38.2.2 65 0 (by omega) (fun z => by unfold W_X2_note at z; (try unfold isWS at z); (try unfold isShape at z); (try unfold isTold at z); (try dsimp only at z); omega)) (kk38.2.2 65 1 (by omega) (fun z => by unfold W_X2_note at z; (try unfold isWS at z); (try unfold isShape at z); (try unfold isTold at z); (try dsimp only at z); omega)) (kk38.2.2 65 3 (by omega) (fun z => by unfold W_X2_note at z; (try unfold isWS at z); (try unfold isShape at z); (try unfold isTold at z); (try dsimp only at z); omega)))
      exact s_X2_takeBound_64 ⟨by omega, by omega⟩ ppRR_m38 im38 km38
    · skip
      refine w_if (fun c6_ => ?_) (fun c6_ => ?_)
      · skip
        have ppRR_m6 : RR m6 := (RR_of p_RR (kk6.2.2 65 0 (by omega) (fun z => by unfold W_X2_takeVariable at z; (try unfold isWS at z); (try unfold isShape at z); (try unfold isTold at z); (try dsimp only at z); omega)) (kk6.2.2 65 1 (by omega) (fun z => by unfold W_X2_takeVariable at z; (try unfold isWS at z); (try unfold isShape at z); (try unfold isTold at z); (try dsimp only at z); omega)) (kk6.2.2 65 3 (by omega) (fun z => by unfold W_X2_takeVariable at z; (try unfold isWS at z); (try unfold isShape at z); (try unfold isTold at z); (try dsimp only at z); omega)))
        exact s_X2_takeBound_64 ⟨by omega, by omega⟩ ppRR_m6 im6 km6
      · skip
        refine w_call (s_X2_kindOf ⟨by omega, by omega⟩ im6) ?_
        intro v51 m51 pp51
        obtain ⟨im51, kk51, e51_0, -⟩ := pp51
        try dsimp only
        replace im51 : I n m51 := im51
        replace kk51 : Keep n W_X2_kindOf m6 m51 := kk51
        have km51 : Keep n W_X2_takeBound M m51 := km6.tr kk51 (fun b j z => z.elim)
        replace e51_0 : (-1) ≤ v51 ∧ v51 ≤ 3 := e51_0
        refine w_if (fun c7_ => ?_) (fun c7_ => ?_)
        · skip
          have ppRR_m51 : RR m51 := (RR_of (RR_of p_RR (kk6.2.2 65 0 (by omega) (fun z => by unfold W_X2_takeVariable at z; (try unfold isWS at z); (try unfold isShape at z); (try unfold isTold at z); (try dsimp only at z); omega)) (kk6.2.2 65 1 (by omega) (fun z => by unfold W_X2_takeVariable at z; (try unfold isWS at z); (try unfold isShape at z); (try unfold isTold at z); (try dsimp only at z); omega)) (kk6.2.2 65 3 (by omega) (fun z => by unfold W_X2_takeVariable at z; (try unfold isWS at z); (try unfold isShape at z); (try unfold isTold at z); (try dsimp only at z); omega))) (kk51.2.2 65 0 (by omega) (fun z => z)) (kk51.2.2 65 1 (by omega) (fun z => z)) (kk51.2.2 65 3 (by omega) (fun z => z)))
          exact s_X2_takeBound_64 ⟨by omega, by omega⟩ ppRR_m51 im51 km51
        · skip
          refine w_gK (congrArg Prod.fst (kl_65 im51)) ?_
          have ppRR_m51 : RR m51 := (RR_of (RR_of p_RR (kk6.2.2 65 0 (by omega) (fun z => by unfold W_X2_takeVariable at z; (try unfold isWS at z); (try unfold isShape at z); (try unfold isTold at z); (try dsimp only at z); omega)) (kk6.2.2 65 1 (by omega) (fun z => by unfold W_X2_takeVariable at z; (try unfold isWS at z); (try unfold isShape at z); (try unfold isTold at z); (try dsimp only at z); omega)) (kk6.2.2 65 3 (by omega) (fun z => by unfold W_X2_takeVariable at z; (try unfold isWS at z); (try unfold isShape at z); (try unfold isTold at z); (try dsimp only at z); omega))) (kk51.2.2 65 0 (by omega) (fun z => z)) (kk51.2.2 65 1 (by omega) (fun z => z)) (kk51.2.2 65 3 (by omega) (fun z => z)))
          refine w_call (s_X2_note ⟨by omega, by omega⟩ ⟨by omega, by omega⟩ ppRR_m51 im51) ?_
          intro v61 m61 pp61
          obtain ⟨im61, kk61, -⟩ := pp61
          try dsimp only
          replace im61 : I n m61 := im61
          replace kk61 : Keep n W_X2_note m51 m61 := kk61
          have km61 : Keep n W_X2_takeBound M m61 := km51.tr kk61 (fun b j z => Or.elim z (fun z => (Or.inl z)) (fun z => (Or.inr (Or.inl z))))
          have ppRR_m61 : RR m61 := (RR_of ppRR_m51 (kk61.2.2 65 0 (by omega) (fun z => by unfold W_X2_note at z; (try unfold isWS at z); (try unfold isShape at z); (try unfold isTold at z); (try dsimp only at z); omega)) (kk61.2.2 65 1 (by omega) (fun z => by unfold W_X2_note at z; (try unfold isWS at z); (try unfold isShape at z); (try unfold isTold at z); (try dsimp only at z); omega)) (kk61.2.2 65 3 (by omega) (fun z => by unfold W_X2_note at z; (try unfold isWS at z); (try unfold isShape at z); (try unfold isTold at z); (try dsimp only at z); omega)))
          exact s_X2_takeBound_64 ⟨by omega, by omega⟩ ppRR_m61 im61 km61
def W_X2_slotOf (b j : Int) : Prop := False
theorem s_X2_slotOf {n : Nat} {l0 : Int} {M : Mem} (r_l0 : 0 ≤ l0 ∧ l0 ≤ 15) (iM : I n M) : wp (mX2_slotOf l0 M) (fun q => I n q.2 ∧ Keep n W_X2_slotOf M q.2 ∧ (0 ≤ q.1 ∧ q.1 ≤ 3) ∧ True) := by
  have hn : (169 : Int) ≤ (n : Int) := by have := iM.2.2.2.2.1; omega
  have kM : Keep n W_X2_slotOf M M := Keep.rf
  unfold mX2_slotOf
  refine w_if (fun c1_ => ?_) (fun c1_ => ?_)
  · skip
    exact w_ret ⟨iM, kM, (show 0 ≤ 0 ∧ 0 ≤ 3 from ⟨by omega, by omega⟩), trivial⟩
  · skip
    have w2_ := wI_id (x := (l0 - 1)) (by omega) (by omega)
    have w3_ := ishr_e (x := (wI (l0 - 1))) (k := 2) (by omega) (by omega) (by decide)
    have w4_ : ishr (wI (l0 - 1)) 2 = (wI (l0 - 1)) / 4 := w3_
    exact w_ret ⟨iM, kM, (show 0 ≤ (ishr (wI (l0 - 1)) 2) ∧ (ishr (wI (l0 - 1)) 2) ≤ 3 from ⟨by omega, by omega⟩), trivial⟩
def W_X2_readSame (b j : Int) : Prop := (67 ≤ b ∧ b ≤ 70) ∨ (b = 3 ∧ j = 6) ∨ (b = 3 ∧ j = 7) ∨ (b = 65 ∧ j = 10) ∨ (b = 65 ∧ j = 11) ∨ (b = 65 ∧ j = 4) ∨ (b = 65 ∧ j = 8) ∨ (b = 65 ∧ j = 9) ∨ (b = 66 ∧ j = 5)
theorem s_X2_readSame {n : Nat} {l1 : Int} {M : Mem} (r_l1 : (-2147483648) ≤ l1 ∧ l1 ≤ 2147483647) (y0 : mG M 66 5 ≤ 401) (p_RR : RR M) (iM : I n M) : wp (mX2_readSame 65 l1 M) (fun q => I n q.2 ∧ Keep n W_X2_readSame M q.2 ∧ (mG q.2 66 5 ≤ mG M 66 5 + 1) ∧ True) := by
  have hn : (169 : Int) ≤ (n : Int) := by have := iM.2.2.2.2.1; omega
  have kM : Keep n W_X2_readSame M M := Keep.rf
  obtain ⟨nh0, enh0⟩ : ∃ v, Is (mG M 66 5) v := ⟨_, rfl⟩
  have rnh0 : 0 ≤ nh0 ∧ nh0 ≤ 402 := by rw [← enh0.e]; exact rd_Draft_5 iM rfl
  have qnh0 : mG M 66 5 = nh0 := enh0
  (try rw [enh0.e] at y0)
  unfold mX2_readSame
  refine w_gK (congrArg Prod.fst (kl_65 iM)) ?_
  refine w_call (s_X2_advance p_RR iM) ?_
  intro v1 m1 pp1
  obtain ⟨im1, kk1, -⟩ := pp1
  try dsimp only
  replace im1 : I n m1 := im1
  replace kk1 : Keep n W_X2_advance M m1 := kk1
  have km1 : Keep n W_X2_readSame M m1 := kM.tr kk1 (fun b j z => Or.elim z (fun z => (Or.inr (Or.inr (Or.inr (Or.inl z))))) (fun z => Or.elim z (fun z => (Or.inr (Or.inr (Or.inr (Or.inr (Or.inl z)))))) (fun z => Or.elim z (fun z => (Or.inr (Or.inr (Or.inr (Or.inr (Or.inr (Or.inr (Or.inl z)))))))) (fun z => (Or.inr (Or.inr (Or.inr (Or.inr (Or.inr (Or.inr (Or.inr (Or.inl z))))))))))))
  refine w_gK (congrArg Prod.fst (kl_65 im1)) ?_
  have ppRR_m1 : RR m1 := (RR_of p_RR (kk1.2.2 65 0 (by omega) (fun z => by unfold W_X2_advance at z; (try unfold isWS at z); (try unfold isShape at z); (try unfold isTold at z); (try dsimp only at z); omega)) (kk1.2.2 65 1 (by omega) (fun z => by unfold W_X2_advance at z; (try unfold isWS at z); (try unfold isShape at z); (try unfold isTold at z); (try dsimp only at z); omega)) (kk1.2.2 65 3 (by omega) (fun z => by unfold W_X2_advance at z; (try unfold isWS at z); (try unfold isShape at z); (try unfold isTold at z); (try dsimp only at z); omega)))
  refine w_call (s_X2_takeBound ⟨by omega, by omega⟩ ⟨by omega, by omega⟩ ppRR_m1 im1) ?_
  intro v7 m7 pp7
  obtain ⟨im7, kk7, e7_0, -⟩ := pp7
  try dsimp only
  replace im7 : I n m7 := im7
  replace kk7 : Keep n W_X2_takeBound m1 m7 := kk7
  have km7 : Keep n W_X2_readSame M m7 := km1.tr kk7 (fun b j z => Or.elim z (fun z => (Or.inr (Or.inl z))) (fun z => Or.elim z (fun z => (Or.inr (Or.inr (Or.inl z)))) (fun z => Or.elim z (fun z => (Or.inr (Or.inr (Or.inr (Or.inl z))))) (fun z => Or.elim z (fun z => (Or.inr (Or.inr (Or.inr (Or.inr (Or.inl z)))))) (fun z => Or.elim z (fun z => (Or.inr (Or.inr (Or.inr (Or.inr (Or.inr (Or.inl z))))))) (fun z => Or.elim z (fun z => (Or.inr (Or.inr (Or.inr (Or.inr (Or.inr (Or.inr (Or.inl z)))))))) (fun z => (Or.inr (Or.inr (Or.inr (Or.inr (Or.inr (Or.inr (Or.inr (Or.inl z)))))))))))))))
  replace e7_0 : 0 ≤ v7 ∧ v7 ≤ 15 := e7_0
  refine w_call (s_X2_kindOf ⟨by omega, by omega⟩ im7) ?_
  intro v14 m14 pp14
  obtain ⟨im14, kk14, e14_0, -⟩ := pp14
  try dsimp only
  replace im14 : I n m14 := im14
  replace kk14 : Keep n W_X2_kindOf m7 m14 := kk14
  have km14 : Keep n W_X2_readSame M m14 := km7.tr kk14 (fun b j z => z.elim)
  replace e14_0 : (-1) ≤ v14 ∧ v14 ≤ 3 := e14_0
  refine w_gK (congrArg Prod.fst (kl_65 im14)) ?_
  have ppRR_m14 : RR m14 := (RR_of (RR_of ppRR_m1 (kk7.2.2 65 0 (by omega) (fun z => by unfold W_X2_takeBound at z; (try unfold isWS at z); (try unfold isShape at z); (try unfold isTold at z); (try dsimp only at z); omega)) (kk7.2.2 65 1 (by omega) (fun z => by unfold W_X2_takeBound at z; (try unfold isWS at z); (try unfold isShape at z); (try unfold isTold at z); (try dsimp only at z); omega)) (kk7.2.2 65 3 (by omega) (fun z => by unfold W_X2_takeBound at z; (try unfold isWS at z); (try unfold isShape at z); (try unfold isTold at z); (try dsimp only at z); omega))) (kk14.2.2 65 0 (by omega) (fun z => z)) (kk14.2.2 65 1 (by omega) (fun z => z)) (kk14.2.2 65 3 (by omega) (fun z => z)))
  refine w_call (s_X2_takeBound ⟨by omega, by omega⟩ ⟨by omega, by omega⟩ ppRR_m14 im14) ?_
  intro v17 m17 pp17
  obtain ⟨im17, kk17, e17_0, -⟩ := pp17
  try dsimp only
  replace im17 : I n m17 := im17
  replace kk17 : Keep n W_X2_takeBound m14 m17 := kk17
  have km17 : Keep n W_X2_readSame M m17 := km14.tr kk17 (fun b j z => Or.elim z (fun z => (Or.inr (Or.inl z))) (fun z => Or.elim z (fun z => (Or.inr (Or.inr (Or.inl z)))) (fun z => Or.elim z (fun z => (Or.inr (Or.inr (Or.inr (Or.inl z))))) (fun z => Or.elim z (fun z => (Or.inr (Or.inr (Or.inr (Or.inr (Or.inl z)))))) (fun z => Or.elim z (fun z => (Or.inr (Or.inr (Or.inr (Or.inr (Or.inr (Or.inl z))))))) (fun z => Or.elim z (fun z => (Or.inr (Or.inr (Or.inr (Or.inr (Or.inr (Or.inr (Or.inl z)))))))) (fun z => (Or.inr (Or.inr (Or.inr (Or.inr (Or.inr (Or.inr (Or.inr (Or.inl z)))))))))))))))
  replace e17_0 : 0 ≤ v17 ∧ v17 ≤ 15 := e17_0
  refine w_gFc (ji := 5) rfl (congrArg Prod.fst (kl_65 im17)) (show mG m17 65 5 = 66 from rd_Reader_5 im17 (a := 65) rfl) ?_
  refine w_call (s_X2_slotOf ⟨by omega, by omega⟩ im17) ?_
  intro v29 m29 pp29
  obtain ⟨im29, kk29, e29_0, -⟩ := pp29
  try dsimp only
  replace im29 : I n m29 := im29
  replace kk29 : Keep n W_X2_slotOf m17 m29 := kk29
  have km29 : Keep n W_X2_readSame M m29 := km17.tr kk29 (fun b j z => z.elim)
  replace e29_0 : 0 ≤ v29 ∧ v29 ≤ 3 := e29_0
  refine w_call (s_X2_slotOf ⟨by omega, by omega⟩ im29) ?_
  intro v33 m33 pp33
  obtain ⟨im33, kk33, e33_0, -⟩ := pp33
  try dsimp only
  replace im33 : I n m33 := im33
  replace kk33 : Keep n W_X2_slotOf m29 m33 := kk33
  have km33 : Keep n W_X2_readSame M m33 := km29.tr kk33 (fun b j z => z.elim)
  replace e33_0 : 0 ≤ v33 ∧ v33 ≤ 3 := e33_0
  refine w_gK (congrArg Prod.fst (kl_66 im33)) ?_
  have lbm36_5 : mG m33 66 5 = nh0 := (show mG m33 66 5 = nh0 from ((kk33.2.2 66 5 (by omega) (fun z => z)).trans ((kk29.2.2 66 5 (by omega) (fun z => z)).trans ((kk17.2.2 66 5 (by omega) (fun z => by unfold W_X2_takeBound at z; (try unfold isWS at z); (try unfold isShape at z); (try unfold isTold at z); (try dsimp only at z); omega)).trans ((kk14.2.2 66 5 (by omega) (fun z => z)).trans ((kk7.2.2 66 5 (by omega) (fun z => by unfold W_X2_takeBound at z; (try unfold isWS at z); (try unfold isShape at z); (try unfold isTold at z); (try dsimp only at z); omega)).trans ((kk1.2.2 66 5 (by omega) (fun z => by unfold W_X2_advance at z; (try unfold isWS at z); (try unfold isShape at z); (try unfold isTold at z); (try dsimp only at z); omega)).trans (show mG M 66 5 = nh0 from enh0))))))))
  refine w_call (s_X5_write ⟨by omega, by omega⟩ ⟨by omega, by omega⟩ ⟨by omega, by omega⟩ ⟨by omega, by omega⟩ (by (try rw [(show mG m33 66 5 = nh0 from ((kk33.2.2 66 5 (by omega) (fun z => z)).trans ((kk29.2.2 66 5 (by omega) (fun z => z)).trans ((kk17.2.2 66 5 (by omega) (fun z => by unfold W_X2_takeBound at z; (try unfold isWS at z); (try unfold isShape at z); (try unfold isTold at z); (try dsimp only at z); omega)).trans ((kk14.2.2 66 5 (by omega) (fun z => z)).trans ((kk7.2.2 66 5 (by omega) (fun z => by unfold W_X2_takeBound at z; (try unfold isWS at z); (try unfold isShape at z); (try unfold isTold at z); (try dsimp only at z); omega)).trans ((kk1.2.2 66 5 (by omega) (fun z => by unfold W_X2_advance at z; (try unfold isWS at z); (try unfold isShape at z); (try unfold isTold at z); (try dsimp only at z); omega)).trans (show mG M 66 5 = nh0 from enh0))))))))]); all_goals omega) im33) ?_
  intro v36 m36 pp36
  obtain ⟨im36, kk36, e36_0, -⟩ := pp36
  try dsimp only
  replace im36 : I n m36 := im36
  replace kk36 : Keep n W_X5_write m33 m36 := kk36
  have km36 : Keep n W_X2_readSame M m36 := km33.tr kk36 (fun b j z => Or.elim z (fun z => (Or.inl z)) (fun z => (Or.inr (Or.inr (Or.inr (Or.inr (Or.inr (Or.inr (Or.inr (Or.inr z))))))))))
  replace e36_0 : mG m36 66 5 = mG m33 66 5 + 1 := e36_0
  obtain ⟨hv36_5, ehv36_5⟩ : ∃ v, Is (mG m36 66 5) v := ⟨_, rfl⟩
  have lhv36_5 : mG m36 66 5 = hv36_5 := ehv36_5
  have rhv36_5 : 0 ≤ hv36_5 ∧ hv36_5 ≤ 402 := by rw [← ehv36_5.e]; exact rd_Draft_5 im36 rfl
  exact w_ret ⟨im36, km36, (show mG m36 66 5 ≤ mG M 66 5 + 1 from (by rw [(show mG m36 66 5 = hv36_5 from (show mG m36 66 5 = hv36_5 from ehv36_5))]; omega)), trivial⟩
def W_X2_takeRelation (b j : Int) : Prop := (b = 3 ∧ j = 6) ∨ (b = 3 ∧ j = 7) ∨ (b = 65 ∧ j = 10) ∨ (b = 65 ∧ j = 11) ∨ (b = 65 ∧ j = 4) ∨ (b = 65 ∧ j = 8) ∨ (b = 65 ∧ j = 9)
theorem s_X2_takeRelation_23 {n : Nat} {Me : Mem} {l1 : Int} {M : Mem} (r_l1 : (-114) ≤ l1 ∧ l1 ≤ 141) (p_RR : RR M) (iM : I n M) (kM : Keep n W_X2_takeRelation Me M) : wp (mX2_takeRelation_23 65 l1 M) (fun q => I n q.2 ∧ Keep n W_X2_takeRelation Me q.2 ∧ ((-114) ≤ q.1 ∧ q.1 ≤ 141) ∧ True) := by
  have hn : (169 : Int) ≤ (n : Int) := by have := iM.2.2.2.2.1; omega
  unfold mX2_takeRelation_23
  refine w_gF (ji := 4) rfl (congrArg Prod.fst (kl_65 iM)) (fun a24 ha24 => ?_)
  have ra24 : 0 ≤ a24 ∧ a24 ≤ 1 := ha24.tr (P := fun z => 0 ≤ z ∧ z ≤ 1) (rd_Reader_4 iM rfl)
  refine w_if (fun c1_ => ?_) (fun c1_ => ?_)
  · skip
    refine w_gK (congrArg Prod.fst (kl_65 iM)) ?_
    refine w_call (s_X2_advance p_RR iM) ?_
    intro v33 m33 pp33
    obtain ⟨im33, kk33, -⟩ := pp33
    try dsimp only
    replace im33 : I n m33 := im33
    replace kk33 : Keep n W_X2_advance M m33 := kk33
    have km33 : Keep n W_X2_takeRelation Me m33 := kM.tr kk33 (fun b j z => Or.elim z (fun z => (Or.inr (Or.inr (Or.inl z)))) (fun z => Or.elim z (fun z => (Or.inr (Or.inr (Or.inr (Or.inl z))))) (fun z => Or.elim z (fun z => (Or.inr (Or.inr (Or.inr (Or.inr (Or.inr (Or.inl z))))))) (fun z => (Or.inr (Or.inr (Or.inr (Or.inr (Or.inr (Or.inr z))))))))))
    exact w_ret ⟨im33, km33, (show (-114) ≤ l1 ∧ l1 ≤ 141 from ⟨by omega, by omega⟩), trivial⟩
  · skip
    exact w_ret ⟨iM, kM, (show (-114) ≤ (-1) ∧ (-1) ≤ 141 from ⟨by omega, by omega⟩), trivial⟩
theorem s_X2_takeRelation {n : Nat} {M : Mem} (p_RR : RR M) (iM : I n M) : wp (mX2_takeRelation 65 M) (fun q => I n q.2 ∧ Keep n W_X2_takeRelation M q.2 ∧ ((-114) ≤ q.1 ∧ q.1 ≤ 141) ∧ True) := by
  have hn : (169 : Int) ≤ (n : Int) := by have := iM.2.2.2.2.1; omega
  have kM : Keep n W_X2_takeRelation M M := Keep.rf
  unfold mX2_takeRelation
  refine w_gK (congrArg Prod.fst (kl_65 iM)) ?_
  refine w_call (s_X2_oneLetter p_RR iM) ?_
  intro v1 m1 pp1
  obtain ⟨im1, kk1, e1_0, -⟩ := pp1
  try dsimp only
  replace im1 : I n m1 := im1
  replace kk1 : Keep n W_X2_oneLetter M m1 := kk1
  have km1 : Keep n W_X2_takeRelation M m1 := kM.tr kk1 (fun b j z => z.elim)
  replace e1_0 : 0 ≤ v1 ∧ v1 ≤ 255 := e1_0
  have ppRR_m1 : RR m1 := (RR_of p_RR (kk1.2.2 65 0 (by omega) (fun z => z)) (kk1.2.2 65 1 (by omega) (fun z => z)) (kk1.2.2 65 3 (by omega) (fun z => z)))
  refine w_gFc (ji := 3) rfl (congrArg Prod.fst (kl_65 im1)) ppRR_m1.2.2 ?_
  refine w_gK (congrArg Prod.fst (kl_4 im1)) ?_
  have w1_ := wI_id (x := (v1 - 114)) (by omega) (by omega)
  refine w_call (s_X3_hasRelation (by unfold isShape; omega) ⟨by omega, by omega⟩ im1) ?_
  intro v13 m13 pp13
  obtain ⟨im13, kk13, e13_0, e13_1, -⟩ := pp13
  try dsimp only
  replace im13 : I n m13 := im13
  replace kk13 : Keep n (W_X3_hasRelation 4) m1 m13 := kk13
  have km13 : Keep n W_X2_takeRelation M m13 := km1.tr kk13 (fun b j z => z.elim)
  replace e13_0 : 0 ≤ v13 ∧ v13 ≤ 1 := e13_0
  replace e13_1 : v13 = 1 → 0 ≤ (wI (v1 - 114)) ∧ (wI (v1 - 114)) ≤ 3 := e13_1
  refine w_if (fun c2_ => ?_) (fun c2_ => ?_)
  · skip
    refine w_gK (congrArg Prod.fst (kl_65 im13)) ?_
    have ppRR_m13 : RR m13 := (RR_of ppRR_m1 (kk13.2.2 65 0 (by omega) (fun z => z)) (kk13.2.2 65 1 (by omega) (fun z => z)) (kk13.2.2 65 3 (by omega) (fun z => z)))
    refine w_call (s_X2_refuse ppRR_m13 im13) ?_
    intro v20 m20 pp20
    obtain ⟨im20, kk20, -⟩ := pp20
    try dsimp only
    replace im20 : I n m20 := im20
    replace kk20 : Keep n W_X2_refuse m13 m20 := kk20
    have km20 : Keep n W_X2_takeRelation M m20 := km13.tr kk20 (fun b j z => Or.elim z (fun z => (Or.inl z)) (fun z => Or.elim z (fun z => (Or.inr (Or.inl z))) (fun z => (Or.inr (Or.inr (Or.inr (Or.inr (Or.inl z))))))))
    have ppRR_m20 : RR m20 := (RR_of ppRR_m13 (kk20.2.2 65 0 (by omega) (fun z => by unfold W_X2_refuse at z; (try unfold isWS at z); (try unfold isShape at z); (try unfold isTold at z); (try dsimp only at z); omega)) (kk20.2.2 65 1 (by omega) (fun z => by unfold W_X2_refuse at z; (try unfold isWS at z); (try unfold isShape at z); (try unfold isTold at z); (try dsimp only at z); omega)) (kk20.2.2 65 3 (by omega) (fun z => by unfold W_X2_refuse at z; (try unfold isWS at z); (try unfold isShape at z); (try unfold isTold at z); (try dsimp only at z); omega)))
    exact s_X2_takeRelation_23 ⟨by omega, by omega⟩ ppRR_m20 im20 km20
  · skip
    have ppRR_m13 : RR m13 := (RR_of ppRR_m1 (kk13.2.2 65 0 (by omega) (fun z => z)) (kk13.2.2 65 1 (by omega) (fun z => z)) (kk13.2.2 65 3 (by omega) (fun z => z)))
    exact s_X2_takeRelation_23 ⟨by omega, by omega⟩ ppRR_m13 im13 km13
def W_X3_isOfOneKindTwice (l0 : Int) (b j : Int) : Prop := False
theorem s_X3_isOfOneKindTwice {n : Nat} {l0 l1 : Int} {M : Mem} (h_l0 : isShape l0) (iM : I n M) : wp (mX3_isOfOneKindTwice l0 l1 M) (fun q => I n q.2 ∧ Keep n (W_X3_isOfOneKindTwice l0) M q.2 ∧ (0 ≤ q.1 ∧ q.1 ≤ 1) ∧ (q.1 = 1 → 0 ≤ l1 ∧ l1 ≤ 3) ∧ True) := by
  have hn : (169 : Int) ≤ (n : Int) := by have := iM.2.2.2.2.1; omega
  have kM : Keep n (W_X3_isOfOneKindTwice l0) M M := Keep.rf
  have u_l0 := h_l0
  unfold isShape at u_l0
  unfold mX3_isOfOneKindTwice
  refine w_if (fun c1_ => ?_) (fun c1_ => ?_)
  · skip
    exact w_ret ⟨iM, kM, (show 0 ≤ 0 ∧ 0 ≤ 1 from ⟨by omega, by omega⟩), (show 0 = 1 → 0 ≤ l1 ∧ l1 ≤ 3 from fun z => by omega), trivial⟩
  · skip
    refine w_gF (ji := 6) rfl (congrArg Prod.fst (k_Shape iM h_l0)) (fun a6 ha6 => ?_)
    have ra6 : 0 ≤ a6 ∧ a6 ≤ 4 := ha6.tr (P := fun z => 0 ≤ z ∧ z ≤ 4) (rd_Shape_6 iM (f_Shape h_l0))
    refine w_if (fun c2_ => ?_) (fun c2_ => ?_)
    · skip
      exact w_ret ⟨iM, kM, (show 0 ≤ 0 ∧ 0 ≤ 1 from ⟨by omega, by omega⟩), (show 0 = 1 → 0 ≤ l1 ∧ l1 ≤ 3 from fun z => by omega), trivial⟩
    · skip
      refine w_gFc (ji := 1) rfl (congrArg Prod.fst (k_Shape iM h_l0)) (show mG M l0 1 = (l0 + 2) from rd_Shape_1 iM (a := l0) (f_Shape h_l0)) ?_
      refine w_aG (k_Sfirst iM h_l0) (by omega) (by omega) (fun a17 ha17 => ?_)
      have ra17 : 0 ≤ a17 ∧ a17 ≤ 2 := ha17.tr (P := fun z => 0 ≤ z ∧ z ≤ 2) (rd_Sfirst iM (f_Sfirst h_l0))
      refine w_gFc (ji := 2) rfl (congrArg Prod.fst (k_Shape iM h_l0)) (show mG M l0 2 = (l0 + 3) from rd_Shape_2 iM (a := l0) (f_Shape h_l0)) ?_
      refine w_aG (k_Ssecond iM h_l0) (by omega) (by omega) (fun a23 ha23 => ?_)
      have ra23 : (-1) ≤ a23 ∧ a23 ≤ 2 := ha23.tr (P := fun z => (-1) ≤ z ∧ z ≤ 2) (rd_Ssecond iM (f_Ssecond h_l0))
      refine w_if (fun c3_ => ?_) (fun c3_ => ?_)
      · skip
        exact w_ret ⟨iM, kM, (show 0 ≤ 1 ∧ 1 ≤ 1 from ⟨by omega, by omega⟩), (show 1 = 1 → 0 ≤ l1 ∧ l1 ≤ 3 from fun z => by omega), trivial⟩
      · skip
        exact w_ret ⟨iM, kM, (show 0 ≤ 0 ∧ 0 ≤ 1 from ⟨by omega, by omega⟩), (show 0 = 1 → 0 ≤ l1 ∧ l1 ≤ 3 from fun z => by omega), trivial⟩
def W_X2_takeRoad (b j : Int) : Prop := (b = 3 ∧ j = 6) ∨ (b = 3 ∧ j = 7) ∨ (b = 65 ∧ j = 10) ∨ (b = 65 ∧ j = 11) ∨ (b = 65 ∧ j = 4) ∨ (b = 65 ∧ j = 8) ∨ (b = 65 ∧ j = 9)
theorem s_X2_takeRoad_27 {n : Nat} {Me : Mem} {l2 : Int} {M : Mem} (r_l2 : (-114) ≤ l2 ∧ l2 ≤ 141) (p_RR : RR M) (iM : I n M) (kM : Keep n W_X2_takeRoad Me M) : wp (mX2_takeRoad_27 l2 M) (fun q => I n q.2 ∧ Keep n W_X2_takeRoad Me q.2 ∧ ((-114) ≤ q.1 ∧ q.1 ≤ 141) ∧ True) := by
  have hn : (169 : Int) ≤ (n : Int) := by have := iM.2.2.2.2.1; omega
  unfold mX2_takeRoad_27
  exact w_ret ⟨iM, kM, (show (-114) ≤ l2 ∧ l2 ≤ 141 from ⟨by omega, by omega⟩), trivial⟩
theorem s_X2_takeRoad {n : Nat} {M : Mem} (p_RR : RR M) (iM : I n M) : wp (mX2_takeRoad 65 M) (fun q => I n q.2 ∧ Keep n W_X2_takeRoad M q.2 ∧ ((-114) ≤ q.1 ∧ q.1 ≤ 141) ∧ True) := by
  have hn : (169 : Int) ≤ (n : Int) := by have := iM.2.2.2.2.1; omega
  have kM : Keep n W_X2_takeRoad M M := Keep.rf
  unfold mX2_takeRoad
  refine w_gF (ji := 9) rfl (congrArg Prod.fst (kl_65 iM)) (fun a1 ha1 => ?_)
  have ra1 : 0 ≤ a1 ∧ a1 ≤ 400 := ha1.tr (P := fun z => 0 ≤ z ∧ z ≤ 400) (rd_Reader_9 iM rfl)
  refine w_gK (congrArg Prod.fst (kl_65 iM)) ?_
  refine w_call (s_X2_takeRelation p_RR iM) ?_
  intro v6 m6 pp6
  obtain ⟨im6, kk6, e6_0, -⟩ := pp6
  try dsimp only
  replace im6 : I n m6 := im6
  replace kk6 : Keep n W_X2_takeRelation M m6 := kk6
  have km6 : Keep n W_X2_takeRoad M m6 := kM.tr kk6 (fun b j z => Or.elim z (fun z => (Or.inl z)) (fun z => Or.elim z (fun z => (Or.inr (Or.inl z))) (fun z => Or.elim z (fun z => (Or.inr (Or.inr (Or.inl z)))) (fun z => Or.elim z (fun z => (Or.inr (Or.inr (Or.inr (Or.inl z))))) (fun z => Or.elim z (fun z => (Or.inr (Or.inr (Or.inr (Or.inr (Or.inl z)))))) (fun z => Or.elim z (fun z => (Or.inr (Or.inr (Or.inr (Or.inr (Or.inr (Or.inl z))))))) (fun z => (Or.inr (Or.inr (Or.inr (Or.inr (Or.inr (Or.inr z)))))))))))))
  replace e6_0 : (-114) ≤ v6 ∧ v6 ≤ 141 := e6_0
  have ppRR_m6 : RR m6 := (RR_of p_RR (kk6.2.2 65 0 (by omega) (fun z => by unfold W_X2_takeRelation at z; (try unfold isWS at z); (try unfold isShape at z); (try unfold isTold at z); (try dsimp only at z); omega)) (kk6.2.2 65 1 (by omega) (fun z => by unfold W_X2_takeRelation at z; (try unfold isWS at z); (try unfold isShape at z); (try unfold isTold at z); (try dsimp only at z); omega)) (kk6.2.2 65 3 (by omega) (fun z => by unfold W_X2_takeRelation at z; (try unfold isWS at z); (try unfold isShape at z); (try unfold isTold at z); (try dsimp only at z); omega)))
  refine w_gFc (ji := 3) rfl (congrArg Prod.fst (kl_65 im6)) ppRR_m6.2.2 ?_
  refine w_gK (congrArg Prod.fst (kl_4 im6)) ?_
  refine w_call (s_X3_isOfOneKindTwice (by unfold isShape; omega) im6) ?_
  intro v15 m15 pp15
  obtain ⟨im15, kk15, e15_0, e15_1, -⟩ := pp15
  try dsimp only
  replace im15 : I n m15 := im15
  replace kk15 : Keep n (W_X3_isOfOneKindTwice 4) m6 m15 := kk15
  have km15 : Keep n W_X2_takeRoad M m15 := km6.tr kk15 (fun b j z => z.elim)
  replace e15_0 : 0 ≤ v15 ∧ v15 ≤ 1 := e15_0
  replace e15_1 : v15 = 1 → 0 ≤ v6 ∧ v6 ≤ 3 := e15_1
  refine w_if (fun c1_ => ?_) (fun c1_ => ?_)
  · skip
    refine w_gK (congrArg Prod.fst (kl_65 im15)) ?_
    have ppRR_m15 : RR m15 := (RR_of ppRR_m6 (kk15.2.2 65 0 (by omega) (fun z => z)) (kk15.2.2 65 1 (by omega) (fun z => z)) (kk15.2.2 65 3 (by omega) (fun z => z)))
    refine w_call (s_X2_note ⟨by omega, by omega⟩ ⟨by omega, by omega⟩ ppRR_m15 im15) ?_
    intro v24 m24 pp24
    obtain ⟨im24, kk24, -⟩ := pp24
    try dsimp only
    replace im24 : I n m24 := im24
    replace kk24 : Keep n W_X2_note m15 m24 := kk24
    have km24 : Keep n W_X2_takeRoad M m24 := km15.tr kk24 (fun b j z => Or.elim z (fun z => (Or.inl z)) (fun z => (Or.inr (Or.inl z))))
    have ppRR_m24 : RR m24 := (RR_of ppRR_m15 (kk24.2.2 65 0 (by omega) (fun z => by unfold W_X2_note at z; (try unfold isWS at z); (try unfold isShape at z); (try unfold isTold at z); (try dsimp only at z); omega)) (kk24.2.2 65 1 (by omega) (fun z => by unfold W_X2_note at z; (try unfold isWS at z); (try unfold isShape at z); (try unfold isTold at z); (try dsimp only at z); omega)) (kk24.2.2 65 3 (by omega) (fun z => by unfold W_X2_note at z; (try unfold isWS at z); (try unfold isShape at z); (try unfold isTold at z); (try dsimp only at z); omega)))
    exact s_X2_takeRoad_27 ⟨by omega, by omega⟩ ppRR_m24 im24 km24
  · skip
    have ppRR_m15 : RR m15 := (RR_of ppRR_m6 (kk15.2.2 65 0 (by omega) (fun z => z)) (kk15.2.2 65 1 (by omega) (fun z => z)) (kk15.2.2 65 3 (by omega) (fun z => z)))
    exact s_X2_takeRoad_27 ⟨by omega, by omega⟩ ppRR_m15 im15 km15
def W_X2_readReach (b j : Int) : Prop := (67 ≤ b ∧ b ≤ 70) ∨ (b = 3 ∧ j = 6) ∨ (b = 3 ∧ j = 7) ∨ (b = 65 ∧ j = 10) ∨ (b = 65 ∧ j = 11) ∨ (b = 65 ∧ j = 4) ∨ (b = 65 ∧ j = 8) ∨ (b = 65 ∧ j = 9) ∨ (b = 66 ∧ j = 5)
theorem s_X2_readReach_33 {n : Nat} {Me : Mem} {l1 l2 s0 : Int} {M : Mem} (r_l1 : (-2147483648) ≤ l1 ∧ l1 ≤ 2147483647) (r_l2 : (-114) ≤ l2 ∧ l2 ≤ 141) (r_s0 : (-1) ≤ s0 ∧ s0 ≤ 2) (y0 : mG M 66 5 ≤ 401 ∧ mG M 66 5 = mG Me 66 5) (p_RR : RR M) (iM : I n M) (kM : Keep n W_X2_readReach Me M) : wp (mX2_readReach_33 65 l1 l2 s0 M) (fun q => I n q.2 ∧ Keep n W_X2_readReach Me q.2 ∧ (mG q.2 66 5 ≤ mG Me 66 5 + 1) ∧ True) := by
  have hn : (169 : Int) ≤ (n : Int) := by have := iM.2.2.2.2.1; omega
  obtain ⟨nh0, enh0⟩ : ∃ v, Is (mG M 66 5) v := ⟨_, rfl⟩
  have rnh0 : 0 ≤ nh0 ∧ nh0 ≤ 402 := by rw [← enh0.e]; exact rd_Draft_5 iM rfl
  have qnh0 : mG M 66 5 = nh0 := enh0
  (try rw [enh0.e] at y0)
  unfold mX2_readReach_33
  refine w_gK (congrArg Prod.fst (kl_65 iM)) ?_
  refine w_call (s_X2_takeBound ⟨by omega, by omega⟩ ⟨by omega, by omega⟩ p_RR iM) ?_
  intro v37 m37 pp37
  obtain ⟨im37, kk37, e37_0, -⟩ := pp37
  try dsimp only
  replace im37 : I n m37 := im37
  replace kk37 : Keep n W_X2_takeBound M m37 := kk37
  have km37 : Keep n W_X2_readReach Me m37 := kM.tr kk37 (fun b j z => Or.elim z (fun z => (Or.inr (Or.inl z))) (fun z => Or.elim z (fun z => (Or.inr (Or.inr (Or.inl z)))) (fun z => Or.elim z (fun z => (Or.inr (Or.inr (Or.inr (Or.inl z))))) (fun z => Or.elim z (fun z => (Or.inr (Or.inr (Or.inr (Or.inr (Or.inl z)))))) (fun z => Or.elim z (fun z => (Or.inr (Or.inr (Or.inr (Or.inr (Or.inr (Or.inl z))))))) (fun z => Or.elim z (fun z => (Or.inr (Or.inr (Or.inr (Or.inr (Or.inr (Or.inr (Or.inl z)))))))) (fun z => (Or.inr (Or.inr (Or.inr (Or.inr (Or.inr (Or.inr (Or.inr (Or.inl z)))))))))))))))
  replace e37_0 : 0 ≤ v37 ∧ v37 ≤ 15 := e37_0
  refine w_gK (congrArg Prod.fst (kl_65 im37)) ?_
  have ppRR_m37 : RR m37 := (RR_of p_RR (kk37.2.2 65 0 (by omega) (fun z => by unfold W_X2_takeBound at z; (try unfold isWS at z); (try unfold isShape at z); (try unfold isTold at z); (try dsimp only at z); omega)) (kk37.2.2 65 1 (by omega) (fun z => by unfold W_X2_takeBound at z; (try unfold isWS at z); (try unfold isShape at z); (try unfold isTold at z); (try dsimp only at z); omega)) (kk37.2.2 65 3 (by omega) (fun z => by unfold W_X2_takeBound at z; (try unfold isWS at z); (try unfold isShape at z); (try unfold isTold at z); (try dsimp only at z); omega)))
  refine w_call (s_X2_takeBound ⟨by omega, by omega⟩ ⟨by omega, by omega⟩ ppRR_m37 im37) ?_
  intro v45 m45 pp45
  obtain ⟨im45, kk45, e45_0, -⟩ := pp45
  try dsimp only
  replace im45 : I n m45 := im45
  replace kk45 : Keep n W_X2_takeBound m37 m45 := kk45
  have km45 : Keep n W_X2_readReach Me m45 := km37.tr kk45 (fun b j z => Or.elim z (fun z => (Or.inr (Or.inl z))) (fun z => Or.elim z (fun z => (Or.inr (Or.inr (Or.inl z)))) (fun z => Or.elim z (fun z => (Or.inr (Or.inr (Or.inr (Or.inl z))))) (fun z => Or.elim z (fun z => (Or.inr (Or.inr (Or.inr (Or.inr (Or.inl z)))))) (fun z => Or.elim z (fun z => (Or.inr (Or.inr (Or.inr (Or.inr (Or.inr (Or.inl z))))))) (fun z => Or.elim z (fun z => (Or.inr (Or.inr (Or.inr (Or.inr (Or.inr (Or.inr (Or.inl z)))))))) (fun z => (Or.inr (Or.inr (Or.inr (Or.inr (Or.inr (Or.inr (Or.inr (Or.inl z)))))))))))))))
  replace e45_0 : 0 ≤ v45 ∧ v45 ≤ 15 := e45_0
  refine w_gFc (ji := 5) rfl (congrArg Prod.fst (kl_65 im45)) (show mG m45 65 5 = 66 from rd_Reader_5 im45 (a := 65) rfl) ?_
  refine w_call (s_X2_slotOf ⟨by omega, by omega⟩ im45) ?_
  intro v59 m59 pp59
  obtain ⟨im59, kk59, e59_0, -⟩ := pp59
  try dsimp only
  replace im59 : I n m59 := im59
  replace kk59 : Keep n W_X2_slotOf m45 m59 := kk59
  have km59 : Keep n W_X2_readReach Me m59 := km45.tr kk59 (fun b j z => z.elim)
  replace e59_0 : 0 ≤ v59 ∧ v59 ≤ 3 := e59_0
  refine w_call (s_X2_slotOf ⟨by omega, by omega⟩ im59) ?_
  intro v64 m64 pp64
  obtain ⟨im64, kk64, e64_0, -⟩ := pp64
  try dsimp only
  replace im64 : I n m64 := im64
  replace kk64 : Keep n W_X2_slotOf m59 m64 := kk64
  have km64 : Keep n W_X2_readReach Me m64 := km59.tr kk64 (fun b j z => z.elim)
  replace e64_0 : 0 ≤ v64 ∧ v64 ≤ 3 := e64_0
  refine w_gK (congrArg Prod.fst (kl_66 im64)) ?_
  have lbm67_5 : mG m64 66 5 = nh0 := (show mG m64 66 5 = nh0 from ((kk64.2.2 66 5 (by omega) (fun z => z)).trans ((kk59.2.2 66 5 (by omega) (fun z => z)).trans ((kk45.2.2 66 5 (by omega) (fun z => by unfold W_X2_takeBound at z; (try unfold isWS at z); (try unfold isShape at z); (try unfold isTold at z); (try dsimp only at z); omega)).trans ((kk37.2.2 66 5 (by omega) (fun z => by unfold W_X2_takeBound at z; (try unfold isWS at z); (try unfold isShape at z); (try unfold isTold at z); (try dsimp only at z); omega)).trans (show mG M 66 5 = nh0 from enh0))))))
  refine w_call (s_X5_write ⟨by omega, by omega⟩ ⟨by omega, by omega⟩ ⟨by omega, by omega⟩ ⟨by omega, by omega⟩ (by (try rw [(show mG m64 66 5 = nh0 from ((kk64.2.2 66 5 (by omega) (fun z => z)).trans ((kk59.2.2 66 5 (by omega) (fun z => z)).trans ((kk45.2.2 66 5 (by omega) (fun z => by unfold W_X2_takeBound at z; (try unfold isWS at z); (try unfold isShape at z); (try unfold isTold at z); (try dsimp only at z); omega)).trans ((kk37.2.2 66 5 (by omega) (fun z => by unfold W_X2_takeBound at z; (try unfold isWS at z); (try unfold isShape at z); (try unfold isTold at z); (try dsimp only at z); omega)).trans (show mG M 66 5 = nh0 from enh0))))))]); all_goals omega) im64) ?_
  intro v67 m67 pp67
  obtain ⟨im67, kk67, e67_0, -⟩ := pp67
  try dsimp only
  replace im67 : I n m67 := im67
  replace kk67 : Keep n W_X5_write m64 m67 := kk67
  have km67 : Keep n W_X2_readReach Me m67 := km64.tr kk67 (fun b j z => Or.elim z (fun z => (Or.inl z)) (fun z => (Or.inr (Or.inr (Or.inr (Or.inr (Or.inr (Or.inr (Or.inr (Or.inr z))))))))))
  replace e67_0 : mG m67 66 5 = mG m64 66 5 + 1 := e67_0
  obtain ⟨hv67_5, ehv67_5⟩ : ∃ v, Is (mG m67 66 5) v := ⟨_, rfl⟩
  have lhv67_5 : mG m67 66 5 = hv67_5 := ehv67_5
  have rhv67_5 : 0 ≤ hv67_5 ∧ hv67_5 ≤ 402 := by rw [← ehv67_5.e]; exact rd_Draft_5 im67 rfl
  exact w_ret ⟨im67, km67, (show mG m67 66 5 ≤ mG Me 66 5 + 1 from (by rw [(show mG m67 66 5 = hv67_5 from (show mG m67 66 5 = hv67_5 from ehv67_5))]; omega)), trivial⟩
theorem s_X2_readReach {n : Nat} {l1 : Int} {M : Mem} (r_l1 : (-2147483648) ≤ l1 ∧ l1 ≤ 2147483647) (y0 : mG M 66 5 ≤ 401) (p_RR : RR M) (iM : I n M) : wp (mX2_readReach 65 l1 M) (fun q => I n q.2 ∧ Keep n W_X2_readReach M q.2 ∧ (mG q.2 66 5 ≤ mG M 66 5 + 1) ∧ True) := by
  have hn : (169 : Int) ≤ (n : Int) := by have := iM.2.2.2.2.1; omega
  have kM : Keep n W_X2_readReach M M := Keep.rf
  obtain ⟨nh0, enh0⟩ : ∃ v, Is (mG M 66 5) v := ⟨_, rfl⟩
  have rnh0 : 0 ≤ nh0 ∧ nh0 ≤ 402 := by rw [← enh0.e]; exact rd_Draft_5 iM rfl
  have qnh0 : mG M 66 5 = nh0 := enh0
  (try rw [enh0.e] at y0)
  unfold mX2_readReach
  refine w_gK (congrArg Prod.fst (kl_65 iM)) ?_
  refine w_call (s_X2_advance p_RR iM) ?_
  intro v1 m1 pp1
  obtain ⟨im1, kk1, -⟩ := pp1
  try dsimp only
  replace im1 : I n m1 := im1
  replace kk1 : Keep n W_X2_advance M m1 := kk1
  have km1 : Keep n W_X2_readReach M m1 := kM.tr kk1 (fun b j z => Or.elim z (fun z => (Or.inr (Or.inr (Or.inr (Or.inl z))))) (fun z => Or.elim z (fun z => (Or.inr (Or.inr (Or.inr (Or.inr (Or.inl z)))))) (fun z => Or.elim z (fun z => (Or.inr (Or.inr (Or.inr (Or.inr (Or.inr (Or.inr (Or.inl z)))))))) (fun z => (Or.inr (Or.inr (Or.inr (Or.inr (Or.inr (Or.inr (Or.inr (Or.inl z))))))))))))
  refine w_gK (congrArg Prod.fst (kl_65 im1)) ?_
  have ppRR_m1 : RR m1 := (RR_of p_RR (kk1.2.2 65 0 (by omega) (fun z => by unfold W_X2_advance at z; (try unfold isWS at z); (try unfold isShape at z); (try unfold isTold at z); (try dsimp only at z); omega)) (kk1.2.2 65 1 (by omega) (fun z => by unfold W_X2_advance at z; (try unfold isWS at z); (try unfold isShape at z); (try unfold isTold at z); (try dsimp only at z); omega)) (kk1.2.2 65 3 (by omega) (fun z => by unfold W_X2_advance at z; (try unfold isWS at z); (try unfold isShape at z); (try unfold isTold at z); (try dsimp only at z); omega)))
  refine w_call (s_X2_takeRoad ppRR_m1 im1) ?_
  intro v5 m5 pp5
  obtain ⟨im5, kk5, e5_0, -⟩ := pp5
  try dsimp only
  replace im5 : I n m5 := im5
  replace kk5 : Keep n W_X2_takeRoad m1 m5 := kk5
  have km5 : Keep n W_X2_readReach M m5 := km1.tr kk5 (fun b j z => Or.elim z (fun z => (Or.inr (Or.inl z))) (fun z => Or.elim z (fun z => (Or.inr (Or.inr (Or.inl z)))) (fun z => Or.elim z (fun z => (Or.inr (Or.inr (Or.inr (Or.inl z))))) (fun z => Or.elim z (fun z => (Or.inr (Or.inr (Or.inr (Or.inr (Or.inl z)))))) (fun z => Or.elim z (fun z => (Or.inr (Or.inr (Or.inr (Or.inr (Or.inr (Or.inl z))))))) (fun z => Or.elim z (fun z => (Or.inr (Or.inr (Or.inr (Or.inr (Or.inr (Or.inr (Or.inl z)))))))) (fun z => (Or.inr (Or.inr (Or.inr (Or.inr (Or.inr (Or.inr (Or.inr (Or.inl z)))))))))))))))
  replace e5_0 : (-114) ≤ v5 ∧ v5 ≤ 141 := e5_0
  have ppRR_m5 : RR m5 := (RR_of ppRR_m1 (kk5.2.2 65 0 (by omega) (fun z => by unfold W_X2_takeRoad at z; (try unfold isWS at z); (try unfold isShape at z); (try unfold isTold at z); (try dsimp only at z); omega)) (kk5.2.2 65 1 (by omega) (fun z => by unfold W_X2_takeRoad at z; (try unfold isWS at z); (try unfold isShape at z); (try unfold isTold at z); (try dsimp only at z); omega)) (kk5.2.2 65 3 (by omega) (fun z => by unfold W_X2_takeRoad at z; (try unfold isWS at z); (try unfold isShape at z); (try unfold isTold at z); (try dsimp only at z); omega)))
  refine w_gFc (ji := 3) rfl (congrArg Prod.fst (kl_65 im5)) ppRR_m5.2.2 ?_
  refine w_gK (congrArg Prod.fst (kl_4 im5)) ?_
  refine w_call (s_X3_isOfOneKindTwice (by unfold isShape; omega) im5) ?_
  intro v14 m14 pp14
  obtain ⟨im14, kk14, e14_0, e14_1, -⟩ := pp14
  try dsimp only
  replace im14 : I n m14 := im14
  replace kk14 : Keep n (W_X3_isOfOneKindTwice 4) m5 m14 := kk14
  have km14 : Keep n W_X2_readReach M m14 := km5.tr kk14 (fun b j z => z.elim)
  replace e14_0 : 0 ≤ v14 ∧ v14 ≤ 1 := e14_0
  replace e14_1 : v14 = 1 → 0 ≤ v5 ∧ v5 ≤ 3 := e14_1
  refine w_if (fun c1_ => ?_) (fun c1_ => ?_)
  · skip
    have ppRR_m14 : RR m14 := (RR_of ppRR_m5 (kk14.2.2 65 0 (by omega) (fun z => z)) (kk14.2.2 65 1 (by omega) (fun z => z)) (kk14.2.2 65 3 (by omega) (fun z => z)))
    exact s_X2_readReach_33 ⟨by omega, by omega⟩ ⟨by omega, by omega⟩ ⟨by omega, by omega⟩ (by (try rw [(show mG m14 66 5 = nh0 from ((kk14.2.2 66 5 (by omega) (fun z => z)).trans ((kk5.2.2 66 5 (by omega) (fun z => by unfold W_X2_takeRoad at z; (try unfold isWS at z); (try unfold isShape at z); (try unfold isTold at z); (try dsimp only at z); omega)).trans ((kk1.2.2 66 5 (by omega) (fun z => by unfold W_X2_advance at z; (try unfold isWS at z); (try unfold isShape at z); (try unfold isTold at z); (try dsimp only at z); omega)).trans (show mG M 66 5 = nh0 from enh0)))))]); all_goals omega) ppRR_m14 im14 km14
  · skip
    have ppRR_m14 : RR m14 := (RR_of ppRR_m5 (kk14.2.2 65 0 (by omega) (fun z => z)) (kk14.2.2 65 1 (by omega) (fun z => z)) (kk14.2.2 65 3 (by omega) (fun z => z)))
    refine w_gFc (ji := 3) rfl (congrArg Prod.fst (kl_65 im14)) ppRR_m14.2.2 ?_
    refine w_gFc (ji := 1) rfl (congrArg Prod.fst (kl_4 im14)) (show mG m14 4 1 = 6 from rd_Shape_1 im14 (a := 4) rfl) ?_
    refine w_aG (kl_6 im14) (by omega) (by omega) (fun a28 ha28 => ?_)
    have ra28 : 0 ≤ a28 ∧ a28 ≤ 2 := ha28.tr (P := fun z => 0 ≤ z ∧ z ≤ 2) (rd_Sfirst im14 rfl)
    exact s_X2_readReach_33 ⟨by omega, by omega⟩ ⟨by omega, by omega⟩ ⟨by omega, by omega⟩ (by (try rw [(show mG m14 66 5 = nh0 from ((kk14.2.2 66 5 (by omega) (fun z => z)).trans ((kk5.2.2 66 5 (by omega) (fun z => by unfold W_X2_takeRoad at z; (try unfold isWS at z); (try unfold isShape at z); (try unfold isTold at z); (try dsimp only at z); omega)).trans ((kk1.2.2 66 5 (by omega) (fun z => by unfold W_X2_advance at z; (try unfold isWS at z); (try unfold isShape at z); (try unfold isTold at z); (try dsimp only at z); omega)).trans (show mG M 66 5 = nh0 from enh0)))))]); all_goals omega) ppRR_m14 im14 km14
def W_X2_readTree (b j : Int) : Prop := (67 ≤ b ∧ b ≤ 70) ∨ (b = 3 ∧ j = 6) ∨ (b = 3 ∧ j = 7) ∨ (b = 65 ∧ j = 10) ∨ (b = 65 ∧ j = 11) ∨ (b = 65 ∧ j = 4) ∨ (b = 65 ∧ j = 8) ∨ (b = 65 ∧ j = 9) ∨ (b = 66 ∧ j = 5)
theorem s_X2_readTree {n : Nat} {M : Mem} (y0 : mG M 66 5 ≤ 401) (p_RR : RR M) (iM : I n M) : wp (mX2_readTree 65 M) (fun q => I n q.2 ∧ Keep n W_X2_readTree M q.2 ∧ (mG q.2 66 5 ≤ mG M 66 5 + 1) ∧ True) := by
  have hn : (169 : Int) ≤ (n : Int) := by have := iM.2.2.2.2.1; omega
  have kM : Keep n W_X2_readTree M M := Keep.rf
  obtain ⟨nh0, enh0⟩ : ∃ v, Is (mG M 66 5) v := ⟨_, rfl⟩
  have rnh0 : 0 ≤ nh0 ∧ nh0 ≤ 402 := by rw [← enh0.e]; exact rd_Draft_5 iM rfl
  have qnh0 : mG M 66 5 = nh0 := enh0
  (try rw [enh0.e] at y0)
  unfold mX2_readTree
  refine w_gK (congrArg Prod.fst (kl_65 iM)) ?_
  refine w_call (s_X2_advance p_RR iM) ?_
  intro v1 m1 pp1
  obtain ⟨im1, kk1, -⟩ := pp1
  try dsimp only
  replace im1 : I n m1 := im1
  replace kk1 : Keep n W_X2_advance M m1 := kk1
  have km1 : Keep n W_X2_readTree M m1 := kM.tr kk1 (fun b j z => Or.elim z (fun z => (Or.inr (Or.inr (Or.inr (Or.inl z))))) (fun z => Or.elim z (fun z => (Or.inr (Or.inr (Or.inr (Or.inr (Or.inl z)))))) (fun z => Or.elim z (fun z => (Or.inr (Or.inr (Or.inr (Or.inr (Or.inr (Or.inr (Or.inl z)))))))) (fun z => (Or.inr (Or.inr (Or.inr (Or.inr (Or.inr (Or.inr (Or.inr (Or.inl z))))))))))))
  refine w_gFc (ji := 5) rfl (congrArg Prod.fst (kl_65 im1)) (show mG m1 65 5 = 66 from rd_Reader_5 im1 (a := 65) rfl) ?_
  refine w_gK (congrArg Prod.fst (kl_65 im1)) ?_
  have ppRR_m1 : RR m1 := (RR_of p_RR (kk1.2.2 65 0 (by omega) (fun z => by unfold W_X2_advance at z; (try unfold isWS at z); (try unfold isShape at z); (try unfold isTold at z); (try dsimp only at z); omega)) (kk1.2.2 65 1 (by omega) (fun z => by unfold W_X2_advance at z; (try unfold isWS at z); (try unfold isShape at z); (try unfold isTold at z); (try dsimp only at z); omega)) (kk1.2.2 65 3 (by omega) (fun z => by unfold W_X2_advance at z; (try unfold isWS at z); (try unfold isShape at z); (try unfold isTold at z); (try dsimp only at z); omega)))
  refine w_call (s_X2_takeRoad ppRR_m1 im1) ?_
  intro v11 m11 pp11
  obtain ⟨im11, kk11, e11_0, -⟩ := pp11
  try dsimp only
  replace im11 : I n m11 := im11
  replace kk11 : Keep n W_X2_takeRoad m1 m11 := kk11
  have km11 : Keep n W_X2_readTree M m11 := km1.tr kk11 (fun b j z => Or.elim z (fun z => (Or.inr (Or.inl z))) (fun z => Or.elim z (fun z => (Or.inr (Or.inr (Or.inl z)))) (fun z => Or.elim z (fun z => (Or.inr (Or.inr (Or.inr (Or.inl z))))) (fun z => Or.elim z (fun z => (Or.inr (Or.inr (Or.inr (Or.inr (Or.inl z)))))) (fun z => Or.elim z (fun z => (Or.inr (Or.inr (Or.inr (Or.inr (Or.inr (Or.inl z))))))) (fun z => Or.elim z (fun z => (Or.inr (Or.inr (Or.inr (Or.inr (Or.inr (Or.inr (Or.inl z)))))))) (fun z => (Or.inr (Or.inr (Or.inr (Or.inr (Or.inr (Or.inr (Or.inr (Or.inl z)))))))))))))))
  replace e11_0 : (-114) ≤ v11 ∧ v11 ≤ 141 := e11_0
  refine w_gK (congrArg Prod.fst (kl_66 im11)) ?_
  have lbm16_5 : mG m11 66 5 = nh0 := (show mG m11 66 5 = nh0 from ((kk11.2.2 66 5 (by omega) (fun z => by unfold W_X2_takeRoad at z; (try unfold isWS at z); (try unfold isShape at z); (try unfold isTold at z); (try dsimp only at z); omega)).trans ((kk1.2.2 66 5 (by omega) (fun z => by unfold W_X2_advance at z; (try unfold isWS at z); (try unfold isShape at z); (try unfold isTold at z); (try dsimp only at z); omega)).trans (show mG M 66 5 = nh0 from enh0))))
  refine w_call (s_X5_write ⟨by omega, by omega⟩ ⟨by omega, by omega⟩ ⟨by omega, by omega⟩ ⟨by omega, by omega⟩ (by (try rw [(show mG m11 66 5 = nh0 from ((kk11.2.2 66 5 (by omega) (fun z => by unfold W_X2_takeRoad at z; (try unfold isWS at z); (try unfold isShape at z); (try unfold isTold at z); (try dsimp only at z); omega)).trans ((kk1.2.2 66 5 (by omega) (fun z => by unfold W_X2_advance at z; (try unfold isWS at z); (try unfold isShape at z); (try unfold isTold at z); (try dsimp only at z); omega)).trans (show mG M 66 5 = nh0 from enh0))))]); all_goals omega) im11) ?_
  intro v16 m16 pp16
  obtain ⟨im16, kk16, e16_0, -⟩ := pp16
  try dsimp only
  replace im16 : I n m16 := im16
  replace kk16 : Keep n W_X5_write m11 m16 := kk16
  have km16 : Keep n W_X2_readTree M m16 := km11.tr kk16 (fun b j z => Or.elim z (fun z => (Or.inl z)) (fun z => (Or.inr (Or.inr (Or.inr (Or.inr (Or.inr (Or.inr (Or.inr (Or.inr z))))))))))
  replace e16_0 : mG m16 66 5 = mG m11 66 5 + 1 := e16_0
  obtain ⟨hv16_5, ehv16_5⟩ : ∃ v, Is (mG m16 66 5) v := ⟨_, rfl⟩
  have lhv16_5 : mG m16 66 5 = hv16_5 := ehv16_5
  have rhv16_5 : 0 ≤ hv16_5 ∧ hv16_5 ≤ 402 := by rw [← ehv16_5.e]; exact rd_Draft_5 im16 rfl
  exact w_ret ⟨im16, km16, (show mG m16 66 5 ≤ mG M 66 5 + 1 from (by rw [(show mG m16 66 5 = hv16_5 from (show mG m16 66 5 = hv16_5 from ehv16_5))]; omega)), trivial⟩
def W_X2_readFact (b j : Int) : Prop := (67 ≤ b ∧ b ≤ 70) ∨ (b = 3 ∧ j = 6) ∨ (b = 3 ∧ j = 7) ∨ (b = 65 ∧ j = 10) ∨ (b = 65 ∧ j = 11) ∨ (b = 65 ∧ j = 4) ∨ (b = 65 ∧ j = 8) ∨ (b = 65 ∧ j = 9) ∨ (b = 66 ∧ j = 5)
theorem s_X2_readFact_61 {n : Nat} {Me : Mem} {l2 l3 s0 : Int} {M : Mem} (r_l2 : 0 ≤ l2 ∧ l2 ≤ 3) (r_l3 : 0 ≤ l3 ∧ l3 ≤ 15) (r_s0 : 0 ≤ s0 ∧ s0 ≤ 15) (y0 : mG M 66 5 ≤ 401 ∧ mG M 66 5 = mG Me 66 5) (p_RR : RR M) (iM : I n M) (kM : Keep n W_X2_readFact Me M) : wp (mX2_readFact_61 65 l2 l3 s0 M) (fun q => I n q.2 ∧ Keep n W_X2_readFact Me q.2 ∧ (mG q.2 66 5 ≤ mG Me 66 5 + 1) ∧ True) := by
  have hn : (169 : Int) ≤ (n : Int) := by have := iM.2.2.2.2.1; omega
  obtain ⟨nh0, enh0⟩ : ∃ v, Is (mG M 66 5) v := ⟨_, rfl⟩
  have rnh0 : 0 ≤ nh0 ∧ nh0 ≤ 402 := by rw [← enh0.e]; exact rd_Draft_5 iM rfl
  have qnh0 : mG M 66 5 = nh0 := enh0
  (try rw [enh0.e] at y0)
  unfold mX2_readFact_61
  refine w_gFc (ji := 5) rfl (congrArg Prod.fst (kl_65 iM)) (show mG M 65 5 = 66 from rd_Reader_5 iM (a := 65) rfl) ?_
  refine w_call (s_X2_slotOf ⟨by omega, by omega⟩ iM) ?_
  intro v71 m71 pp71
  obtain ⟨im71, kk71, e71_0, -⟩ := pp71
  try dsimp only
  replace im71 : I n m71 := im71
  replace kk71 : Keep n W_X2_slotOf M m71 := kk71
  have km71 : Keep n W_X2_readFact Me m71 := kM.tr kk71 (fun b j z => z.elim)
  replace e71_0 : 0 ≤ v71 ∧ v71 ≤ 3 := e71_0
  refine w_call (s_X2_slotOf ⟨by omega, by omega⟩ im71) ?_
  intro v76 m76 pp76
  obtain ⟨im76, kk76, e76_0, -⟩ := pp76
  try dsimp only
  replace im76 : I n m76 := im76
  replace kk76 : Keep n W_X2_slotOf m71 m76 := kk76
  have km76 : Keep n W_X2_readFact Me m76 := km71.tr kk76 (fun b j z => z.elim)
  replace e76_0 : 0 ≤ v76 ∧ v76 ≤ 3 := e76_0
  refine w_gK (congrArg Prod.fst (kl_66 im76)) ?_
  have lbm79_5 : mG m76 66 5 = nh0 := (show mG m76 66 5 = nh0 from ((kk76.2.2 66 5 (by omega) (fun z => z)).trans ((kk71.2.2 66 5 (by omega) (fun z => z)).trans (show mG M 66 5 = nh0 from enh0))))
  refine w_call (s_X5_write ⟨by omega, by omega⟩ ⟨by omega, by omega⟩ ⟨by omega, by omega⟩ ⟨by omega, by omega⟩ (by (try rw [(show mG m76 66 5 = nh0 from ((kk76.2.2 66 5 (by omega) (fun z => z)).trans ((kk71.2.2 66 5 (by omega) (fun z => z)).trans (show mG M 66 5 = nh0 from enh0))))]); all_goals omega) im76) ?_
  intro v79 m79 pp79
  obtain ⟨im79, kk79, e79_0, -⟩ := pp79
  try dsimp only
  replace im79 : I n m79 := im79
  replace kk79 : Keep n W_X5_write m76 m79 := kk79
  have km79 : Keep n W_X2_readFact Me m79 := km76.tr kk79 (fun b j z => Or.elim z (fun z => (Or.inl z)) (fun z => (Or.inr (Or.inr (Or.inr (Or.inr (Or.inr (Or.inr (Or.inr (Or.inr z))))))))))
  replace e79_0 : mG m79 66 5 = mG m76 66 5 + 1 := e79_0
  obtain ⟨hv79_5, ehv79_5⟩ : ∃ v, Is (mG m79 66 5) v := ⟨_, rfl⟩
  have lhv79_5 : mG m79 66 5 = hv79_5 := ehv79_5
  have rhv79_5 : 0 ≤ hv79_5 ∧ hv79_5 ≤ 402 := by rw [← ehv79_5.e]; exact rd_Draft_5 im79 rfl
  exact w_ret ⟨im79, km79, (show mG m79 66 5 ≤ mG Me 66 5 + 1 from (by rw [(show mG m79 66 5 = hv79_5 from (show mG m79 66 5 = hv79_5 from ehv79_5))]; omega)), trivial⟩
theorem s_X2_readFact {n : Nat} {l1 : Int} {M : Mem} (r_l1 : (-2147483648) ≤ l1 ∧ l1 ≤ 2147483647) (y0 : mG M 66 5 ≤ 401) (p_RR : RR M) (iM : I n M) : wp (mX2_readFact 65 l1 M) (fun q => I n q.2 ∧ Keep n W_X2_readFact M q.2 ∧ (mG q.2 66 5 ≤ mG M 66 5 + 1) ∧ True) := by
  have hn : (169 : Int) ≤ (n : Int) := by have := iM.2.2.2.2.1; omega
  have kM : Keep n W_X2_readFact M M := Keep.rf
  obtain ⟨nh0, enh0⟩ : ∃ v, Is (mG M 66 5) v := ⟨_, rfl⟩
  have rnh0 : 0 ≤ nh0 ∧ nh0 ≤ 402 := by rw [← enh0.e]; exact rd_Draft_5 iM rfl
  have qnh0 : mG M 66 5 = nh0 := enh0
  (try rw [enh0.e] at y0)
  unfold mX2_readFact
  refine w_gK (congrArg Prod.fst (kl_65 iM)) ?_
  refine w_call (s_X2_takeRelation p_RR iM) ?_
  intro v1 m1 pp1
  obtain ⟨im1, kk1, e1_0, -⟩ := pp1
  try dsimp only
  replace im1 : I n m1 := im1
  replace kk1 : Keep n W_X2_takeRelation M m1 := kk1
  have km1 : Keep n W_X2_readFact M m1 := kM.tr kk1 (fun b j z => Or.elim z (fun z => (Or.inr (Or.inl z))) (fun z => Or.elim z (fun z => (Or.inr (Or.inr (Or.inl z)))) (fun z => Or.elim z (fun z => (Or.inr (Or.inr (Or.inr (Or.inl z))))) (fun z => Or.elim z (fun z => (Or.inr (Or.inr (Or.inr (Or.inr (Or.inl z)))))) (fun z => Or.elim z (fun z => (Or.inr (Or.inr (Or.inr (Or.inr (Or.inr (Or.inl z))))))) (fun z => Or.elim z (fun z => (Or.inr (Or.inr (Or.inr (Or.inr (Or.inr (Or.inr (Or.inl z)))))))) (fun z => (Or.inr (Or.inr (Or.inr (Or.inr (Or.inr (Or.inr (Or.inr (Or.inl z)))))))))))))))
  replace e1_0 : (-114) ≤ v1 ∧ v1 ≤ 141 := e1_0
  have ppRR_m1 : RR m1 := (RR_of p_RR (kk1.2.2 65 0 (by omega) (fun z => by unfold W_X2_takeRelation at z; (try unfold isWS at z); (try unfold isShape at z); (try unfold isTold at z); (try dsimp only at z); omega)) (kk1.2.2 65 1 (by omega) (fun z => by unfold W_X2_takeRelation at z; (try unfold isWS at z); (try unfold isShape at z); (try unfold isTold at z); (try dsimp only at z); omega)) (kk1.2.2 65 3 (by omega) (fun z => by unfold W_X2_takeRelation at z; (try unfold isWS at z); (try unfold isShape at z); (try unfold isTold at z); (try dsimp only at z); omega)))
  refine w_gFc (ji := 3) rfl (congrArg Prod.fst (kl_65 im1)) ppRR_m1.2.2 ?_
  refine w_gK (congrArg Prod.fst (kl_4 im1)) ?_
  refine w_call (s_X3_hasRelation (by unfold isShape; omega) ⟨by omega, by omega⟩ im1) ?_
  intro v10 m10 pp10
  obtain ⟨im10, kk10, e10_0, e10_1, -⟩ := pp10
  try dsimp only
  replace im10 : I n m10 := im10
  replace kk10 : Keep n (W_X3_hasRelation 4) m1 m10 := kk10
  have km10 : Keep n W_X2_readFact M m10 := km1.tr kk10 (fun b j z => z.elim)
  replace e10_0 : 0 ≤ v10 ∧ v10 ≤ 1 := e10_0
  replace e10_1 : v10 = 1 → 0 ≤ v1 ∧ v1 ≤ 3 := e10_1
  refine w_if (fun c1_ => ?_) (fun c1_ => ?_)
  · skip
    exact w_ret ⟨im10, km10, (show mG m10 66 5 ≤ mG M 66 5 + 1 from (by rw [(show mG m10 66 5 = nh0 from ((kk10.2.2 66 5 (by omega) (fun z => z)).trans ((kk1.2.2 66 5 (by omega) (fun z => by unfold W_X2_takeRelation at z; (try unfold isWS at z); (try unfold isShape at z); (try unfold isTold at z); (try dsimp only at z); omega)).trans (show mG M 66 5 = nh0 from enh0))))]; omega)), trivial⟩
  · skip
    have ppRR_m10 : RR m10 := (RR_of ppRR_m1 (kk10.2.2 65 0 (by omega) (fun z => z)) (kk10.2.2 65 1 (by omega) (fun z => z)) (kk10.2.2 65 3 (by omega) (fun z => z)))
    refine w_gFc (ji := 3) rfl (congrArg Prod.fst (kl_65 im10)) ppRR_m10.2.2 ?_
    refine w_gFc (ji := 1) rfl (congrArg Prod.fst (kl_4 im10)) (show mG m10 4 1 = 6 from rd_Shape_1 im10 (a := 4) rfl) ?_
    refine w_aG (kl_6 im10) (by omega) (by omega) (fun a27 ha27 => ?_)
    have ra27 : 0 ≤ a27 ∧ a27 ≤ 2 := ha27.tr (P := fun z => 0 ≤ z ∧ z ≤ 2) (rd_Sfirst im10 rfl)
    refine w_gK (congrArg Prod.fst (kl_65 im10)) ?_
    refine w_call (s_X2_takeBound ⟨by omega, by omega⟩ ⟨by omega, by omega⟩ ppRR_m10 im10) ?_
    intro v28 m28 pp28
    obtain ⟨im28, kk28, e28_0, -⟩ := pp28
    try dsimp only
    replace im28 : I n m28 := im28
    replace kk28 : Keep n W_X2_takeBound m10 m28 := kk28
    have km28 : Keep n W_X2_readFact M m28 := km10.tr kk28 (fun b j z => Or.elim z (fun z => (Or.inr (Or.inl z))) (fun z => Or.elim z (fun z => (Or.inr (Or.inr (Or.inl z)))) (fun z => Or.elim z (fun z => (Or.inr (Or.inr (Or.inr (Or.inl z))))) (fun z => Or.elim z (fun z => (Or.inr (Or.inr (Or.inr (Or.inr (Or.inl z)))))) (fun z => Or.elim z (fun z => (Or.inr (Or.inr (Or.inr (Or.inr (Or.inr (Or.inl z))))))) (fun z => Or.elim z (fun z => (Or.inr (Or.inr (Or.inr (Or.inr (Or.inr (Or.inr (Or.inl z)))))))) (fun z => (Or.inr (Or.inr (Or.inr (Or.inr (Or.inr (Or.inr (Or.inr (Or.inl z)))))))))))))))
    replace e28_0 : 0 ≤ v28 ∧ v28 ≤ 15 := e28_0
    have ppRR_m28 : RR m28 := (RR_of ppRR_m10 (kk28.2.2 65 0 (by omega) (fun z => by unfold W_X2_takeBound at z; (try unfold isWS at z); (try unfold isShape at z); (try unfold isTold at z); (try dsimp only at z); omega)) (kk28.2.2 65 1 (by omega) (fun z => by unfold W_X2_takeBound at z; (try unfold isWS at z); (try unfold isShape at z); (try unfold isTold at z); (try dsimp only at z); omega)) (kk28.2.2 65 3 (by omega) (fun z => by unfold W_X2_takeBound at z; (try unfold isWS at z); (try unfold isShape at z); (try unfold isTold at z); (try dsimp only at z); omega)))
    refine w_gFc (ji := 3) rfl (congrArg Prod.fst (kl_65 im28)) ppRR_m28.2.2 ?_
    refine w_gK (congrArg Prod.fst (kl_4 im28)) ?_
    refine w_call (s_X3_isOfTwo (by unfold isShape; omega) ⟨by omega, by omega⟩ im28) ?_
    intro v37 m37 pp37
    obtain ⟨im37, kk37, e37_0, e37_1, -⟩ := pp37
    try dsimp only
    replace im37 : I n m37 := im37
    replace kk37 : Keep n (W_X3_isOfTwo 4) m28 m37 := kk37
    have km37 : Keep n W_X2_readFact M m37 := km28.tr kk37 (fun b j z => z.elim)
    replace e37_0 : 0 ≤ v37 ∧ v37 ≤ 1 := e37_0
    replace e37_1 : v37 = 1 → 0 ≤ v1 ∧ v1 ≤ 3 := e37_1
    refine w_if (fun c2_ => ?_) (fun c2_ => ?_)
    · skip
      have ppRR_m37 : RR m37 := (RR_of ppRR_m28 (kk37.2.2 65 0 (by omega) (fun z => z)) (kk37.2.2 65 1 (by omega) (fun z => z)) (kk37.2.2 65 3 (by omega) (fun z => z)))
      exact s_X2_readFact_61 ⟨by omega, by omega⟩ ⟨by omega, by omega⟩ ⟨by omega, by omega⟩ (by (try rw [(show mG m37 66 5 = nh0 from ((kk37.2.2 66 5 (by omega) (fun z => z)).trans ((kk28.2.2 66 5 (by omega) (fun z => by unfold W_X2_takeBound at z; (try unfold isWS at z); (try unfold isShape at z); (try unfold isTold at z); (try dsimp only at z); omega)).trans ((kk10.2.2 66 5 (by omega) (fun z => z)).trans ((kk1.2.2 66 5 (by omega) (fun z => by unfold W_X2_takeRelation at z; (try unfold isWS at z); (try unfold isShape at z); (try unfold isTold at z); (try dsimp only at z); omega)).trans (show mG M 66 5 = nh0 from enh0))))))]); all_goals omega) ppRR_m37 im37 km37
    · skip
      have ppRR_m37 : RR m37 := (RR_of ppRR_m28 (kk37.2.2 65 0 (by omega) (fun z => z)) (kk37.2.2 65 1 (by omega) (fun z => z)) (kk37.2.2 65 3 (by omega) (fun z => z)))
      refine w_gFc (ji := 3) rfl (congrArg Prod.fst (kl_65 im37)) ppRR_m37.2.2 ?_
      refine w_gFc (ji := 2) rfl (congrArg Prod.fst (kl_4 im37)) (show mG m37 4 2 = 7 from rd_Shape_2 im37 (a := 4) rfl) ?_
      refine w_aG (kl_7 im37) (by omega) (by omega) (fun a53 ha53 => ?_)
      have ra53 : (-1) ≤ a53 ∧ a53 ≤ 2 := ha53.tr (P := fun z => (-1) ≤ z ∧ z ≤ 2) (rd_Ssecond im37 rfl)
      refine w_gK (congrArg Prod.fst (kl_65 im37)) ?_
      refine w_call (s_X2_takeBound ⟨by omega, by omega⟩ ⟨by omega, by omega⟩ ppRR_m37 im37) ?_
      intro v54 m54 pp54
      obtain ⟨im54, kk54, e54_0, -⟩ := pp54
      try dsimp only
      replace im54 : I n m54 := im54
      replace kk54 : Keep n W_X2_takeBound m37 m54 := kk54
      have km54 : Keep n W_X2_readFact M m54 := km37.tr kk54 (fun b j z => Or.elim z (fun z => (Or.inr (Or.inl z))) (fun z => Or.elim z (fun z => (Or.inr (Or.inr (Or.inl z)))) (fun z => Or.elim z (fun z => (Or.inr (Or.inr (Or.inr (Or.inl z))))) (fun z => Or.elim z (fun z => (Or.inr (Or.inr (Or.inr (Or.inr (Or.inl z)))))) (fun z => Or.elim z (fun z => (Or.inr (Or.inr (Or.inr (Or.inr (Or.inr (Or.inl z))))))) (fun z => Or.elim z (fun z => (Or.inr (Or.inr (Or.inr (Or.inr (Or.inr (Or.inr (Or.inl z)))))))) (fun z => (Or.inr (Or.inr (Or.inr (Or.inr (Or.inr (Or.inr (Or.inr (Or.inl z)))))))))))))))
      replace e54_0 : 0 ≤ v54 ∧ v54 ≤ 15 := e54_0
      have ppRR_m54 : RR m54 := (RR_of ppRR_m37 (kk54.2.2 65 0 (by omega) (fun z => by unfold W_X2_takeBound at z; (try unfold isWS at z); (try unfold isShape at z); (try unfold isTold at z); (try dsimp only at z); omega)) (kk54.2.2 65 1 (by omega) (fun z => by unfold W_X2_takeBound at z; (try unfold isWS at z); (try unfold isShape at z); (try unfold isTold at z); (try dsimp only at z); omega)) (kk54.2.2 65 3 (by omega) (fun z => by unfold W_X2_takeBound at z; (try unfold isWS at z); (try unfold isShape at z); (try unfold isTold at z); (try dsimp only at z); omega)))
      exact s_X2_readFact_61 ⟨by omega, by omega⟩ ⟨by omega, by omega⟩ ⟨by omega, by omega⟩ (by (try rw [(show mG m54 66 5 = nh0 from ((kk54.2.2 66 5 (by omega) (fun z => by unfold W_X2_takeBound at z; (try unfold isWS at z); (try unfold isShape at z); (try unfold isTold at z); (try dsimp only at z); omega)).trans ((kk37.2.2 66 5 (by omega) (fun z => z)).trans ((kk28.2.2 66 5 (by omega) (fun z => by unfold W_X2_takeBound at z; (try unfold isWS at z); (try unfold isShape at z); (try unfold isTold at z); (try dsimp only at z); omega)).trans ((kk10.2.2 66 5 (by omega) (fun z => z)).trans ((kk1.2.2 66 5 (by omega) (fun z => by unfold W_X2_takeRelation at z; (try unfold isWS at z); (try unfold isShape at z); (try unfold isTold at z); (try dsimp only at z); omega)).trans (show mG M 66 5 = nh0 from enh0)))))))]); all_goals omega) ppRR_m54 im54 km54
def W_X2_readPart (b j : Int) : Prop := (67 ≤ b ∧ b ≤ 70) ∨ b = 72 ∨ (b = 3 ∧ j = 6) ∨ (b = 3 ∧ j = 7) ∨ (b = 65 ∧ j = 10) ∨ (b = 65 ∧ j = 11) ∨ (b = 65 ∧ j = 4) ∨ (b = 65 ∧ j = 7) ∨ (b = 65 ∧ j = 8) ∨ (b = 65 ∧ j = 9) ∨ (b = 66 ∧ j = 5)
theorem s_X2_readPart_56 {n : Nat} {Me : Mem} {l1 l2 : Int} {M : Mem} (r_l1 : (-2147483648) ≤ l1 ∧ l1 ≤ 2147483647) (r_l2 : 0 ≤ l2 ∧ l2 ≤ 11) (y0 : mG M 66 5 ≤ 401 ∧ mG M 66 5 = mG Me 66 5) (p_RR : RR M) (iM : I n M) (kM : Keep n W_X2_readPart Me M) : wp (mX2_readPart_56 65 l1 l2 M) (fun q => I n q.2 ∧ Keep n W_X2_readPart Me q.2 ∧ (mG q.2 66 5 ≤ mG Me 66 5 + 1) ∧ True) := by
  have hn : (169 : Int) ≤ (n : Int) := by have := iM.2.2.2.2.1; omega
  obtain ⟨nh0, enh0⟩ : ∃ v, Is (mG M 66 5) v := ⟨_, rfl⟩
  have rnh0 : 0 ≤ nh0 ∧ nh0 ≤ 402 := by rw [← enh0.e]; exact rd_Draft_5 iM rfl
  have qnh0 : mG M 66 5 = nh0 := enh0
  (try rw [enh0.e] at y0)
  unfold mX2_readPart_56
  refine w_if (fun c1_ => ?_) (fun c1_ => ?_)
  · skip
    refine w_gK (congrArg Prod.fst (kl_65 iM)) ?_
    have lbm119_5 : mG M 66 5 = nh0 := (show mG M 66 5 = nh0 from (show mG M 66 5 = nh0 from enh0))
    refine w_call (s_X2_readBinder ⟨by omega, by omega⟩ ⟨by omega, by omega⟩ (by (try rw [(show mG M 66 5 = nh0 from (show mG M 66 5 = nh0 from enh0))]); all_goals omega) p_RR iM) ?_
    intro v119 m119 pp119
    obtain ⟨im119, kk119, e119_0, -⟩ := pp119
    try dsimp only
    replace im119 : I n m119 := im119
    replace kk119 : Keep n W_X2_readBinder M m119 := kk119
    have km119 : Keep n W_X2_readPart Me m119 := kM.tr kk119 (fun b j z => Or.elim z (fun z => (Or.inl z)) (fun z => Or.elim z (fun z => (Or.inr (Or.inl z))) (fun z => Or.elim z (fun z => (Or.inr (Or.inr (Or.inl z)))) (fun z => Or.elim z (fun z => (Or.inr (Or.inr (Or.inr (Or.inl z))))) (fun z => Or.elim z (fun z => (Or.inr (Or.inr (Or.inr (Or.inr (Or.inl z)))))) (fun z => Or.elim z (fun z => (Or.inr (Or.inr (Or.inr (Or.inr (Or.inr (Or.inl z))))))) (fun z => Or.elim z (fun z => (Or.inr (Or.inr (Or.inr (Or.inr (Or.inr (Or.inr (Or.inl z)))))))) (fun z => Or.elim z (fun z => (Or.inr (Or.inr (Or.inr (Or.inr (Or.inr (Or.inr (Or.inr (Or.inl z))))))))) (fun z => Or.elim z (fun z => (Or.inr (Or.inr (Or.inr (Or.inr (Or.inr (Or.inr (Or.inr (Or.inr (Or.inl z)))))))))) (fun z => Or.elim z (fun z => (Or.inr (Or.inr (Or.inr (Or.inr (Or.inr (Or.inr (Or.inr (Or.inr (Or.inr (Or.inl z))))))))))) (fun z => (Or.inr (Or.inr (Or.inr (Or.inr (Or.inr (Or.inr (Or.inr (Or.inr (Or.inr (Or.inr z)))))))))))))))))))))
    replace e119_0 : mG m119 66 5 ≤ mG M 66 5 + 1 := e119_0
    obtain ⟨hv119_5, ehv119_5⟩ : ∃ v, Is (mG m119 66 5) v := ⟨_, rfl⟩
    have lhv119_5 : mG m119 66 5 = hv119_5 := ehv119_5
    have rhv119_5 : 0 ≤ hv119_5 ∧ hv119_5 ≤ 402 := by rw [← ehv119_5.e]; exact rd_Draft_5 im119 rfl
    exact w_ret ⟨im119, km119, (show mG m119 66 5 ≤ mG Me 66 5 + 1 from (by rw [(show mG m119 66 5 = hv119_5 from (show mG m119 66 5 = hv119_5 from ehv119_5))]; omega)), trivial⟩
  · skip
    refine w_if (fun c2_ => ?_) (fun c2_ => ?_)
    · skip
      refine w_gK (congrArg Prod.fst (kl_65 iM)) ?_
      have lbm119_5 : mG M 66 5 = nh0 := (show mG M 66 5 = nh0 from (show mG M 66 5 = nh0 from enh0))
      refine w_call (s_X2_readBinder ⟨by omega, by omega⟩ ⟨by omega, by omega⟩ (by (try rw [(show mG M 66 5 = nh0 from (show mG M 66 5 = nh0 from enh0))]); all_goals omega) p_RR iM) ?_
      intro v119 m119 pp119
      obtain ⟨im119, kk119, e119_0, -⟩ := pp119
      try dsimp only
      replace im119 : I n m119 := im119
      replace kk119 : Keep n W_X2_readBinder M m119 := kk119
      have km119 : Keep n W_X2_readPart Me m119 := kM.tr kk119 (fun b j z => Or.elim z (fun z => (Or.inl z)) (fun z => Or.elim z (fun z => (Or.inr (Or.inl z))) (fun z => Or.elim z (fun z => (Or.inr (Or.inr (Or.inl z)))) (fun z => Or.elim z (fun z => (Or.inr (Or.inr (Or.inr (Or.inl z))))) (fun z => Or.elim z (fun z => (Or.inr (Or.inr (Or.inr (Or.inr (Or.inl z)))))) (fun z => Or.elim z (fun z => (Or.inr (Or.inr (Or.inr (Or.inr (Or.inr (Or.inl z))))))) (fun z => Or.elim z (fun z => (Or.inr (Or.inr (Or.inr (Or.inr (Or.inr (Or.inr (Or.inl z)))))))) (fun z => Or.elim z (fun z => (Or.inr (Or.inr (Or.inr (Or.inr (Or.inr (Or.inr (Or.inr (Or.inl z))))))))) (fun z => Or.elim z (fun z => (Or.inr (Or.inr (Or.inr (Or.inr (Or.inr (Or.inr (Or.inr (Or.inr (Or.inl z)))))))))) (fun z => Or.elim z (fun z => (Or.inr (Or.inr (Or.inr (Or.inr (Or.inr (Or.inr (Or.inr (Or.inr (Or.inr (Or.inl z))))))))))) (fun z => (Or.inr (Or.inr (Or.inr (Or.inr (Or.inr (Or.inr (Or.inr (Or.inr (Or.inr (Or.inr z)))))))))))))))))))))
      replace e119_0 : mG m119 66 5 ≤ mG M 66 5 + 1 := e119_0
      obtain ⟨hv119_5, ehv119_5⟩ : ∃ v, Is (mG m119 66 5) v := ⟨_, rfl⟩
      have lhv119_5 : mG m119 66 5 = hv119_5 := ehv119_5
      have rhv119_5 : 0 ≤ hv119_5 ∧ hv119_5 ≤ 402 := by rw [← ehv119_5.e]; exact rd_Draft_5 im119 rfl
      exact w_ret ⟨im119, km119, (show mG m119 66 5 ≤ mG Me 66 5 + 1 from (by rw [(show mG m119 66 5 = hv119_5 from (show mG m119 66 5 = hv119_5 from ehv119_5))]; omega)), trivial⟩
    · skip
      refine w_if (fun c3_ => ?_) (fun c3_ => ?_)
      · skip
        refine w_gK (congrArg Prod.fst (kl_65 iM)) ?_
        have lbm119_5 : mG M 66 5 = nh0 := (show mG M 66 5 = nh0 from (show mG M 66 5 = nh0 from enh0))
        refine w_call (s_X2_readBinder ⟨by omega, by omega⟩ ⟨by omega, by omega⟩ (by (try rw [(show mG M 66 5 = nh0 from (show mG M 66 5 = nh0 from enh0))]); all_goals omega) p_RR iM) ?_
        intro v119 m119 pp119
        obtain ⟨im119, kk119, e119_0, -⟩ := pp119
        try dsimp only
        replace im119 : I n m119 := im119
        replace kk119 : Keep n W_X2_readBinder M m119 := kk119
        have km119 : Keep n W_X2_readPart Me m119 := kM.tr kk119 (fun b j z => Or.elim z (fun z => (Or.inl z)) (fun z => Or.elim z (fun z => (Or.inr (Or.inl z))) (fun z => Or.elim z (fun z => (Or.inr (Or.inr (Or.inl z)))) (fun z => Or.elim z (fun z => (Or.inr (Or.inr (Or.inr (Or.inl z))))) (fun z => Or.elim z (fun z => (Or.inr (Or.inr (Or.inr (Or.inr (Or.inl z)))))) (fun z => Or.elim z (fun z => (Or.inr (Or.inr (Or.inr (Or.inr (Or.inr (Or.inl z))))))) (fun z => Or.elim z (fun z => (Or.inr (Or.inr (Or.inr (Or.inr (Or.inr (Or.inr (Or.inl z)))))))) (fun z => Or.elim z (fun z => (Or.inr (Or.inr (Or.inr (Or.inr (Or.inr (Or.inr (Or.inr (Or.inl z))))))))) (fun z => Or.elim z (fun z => (Or.inr (Or.inr (Or.inr (Or.inr (Or.inr (Or.inr (Or.inr (Or.inr (Or.inl z)))))))))) (fun z => Or.elim z (fun z => (Or.inr (Or.inr (Or.inr (Or.inr (Or.inr (Or.inr (Or.inr (Or.inr (Or.inr (Or.inl z))))))))))) (fun z => (Or.inr (Or.inr (Or.inr (Or.inr (Or.inr (Or.inr (Or.inr (Or.inr (Or.inr (Or.inr z)))))))))))))))))))))
        replace e119_0 : mG m119 66 5 ≤ mG M 66 5 + 1 := e119_0
        obtain ⟨hv119_5, ehv119_5⟩ : ∃ v, Is (mG m119 66 5) v := ⟨_, rfl⟩
        have lhv119_5 : mG m119 66 5 = hv119_5 := ehv119_5
        have rhv119_5 : 0 ≤ hv119_5 ∧ hv119_5 ≤ 402 := by rw [← ehv119_5.e]; exact rd_Draft_5 im119 rfl
        exact w_ret ⟨im119, km119, (show mG m119 66 5 ≤ mG Me 66 5 + 1 from (by rw [(show mG m119 66 5 = hv119_5 from (show mG m119 66 5 = hv119_5 from ehv119_5))]; omega)), trivial⟩
      · skip
        refine w_if (fun c4_ => ?_) (fun c4_ => ?_)
        · skip
          refine w_gK (congrArg Prod.fst (kl_65 iM)) ?_
          have lbm119_5 : mG M 66 5 = nh0 := (show mG M 66 5 = nh0 from (show mG M 66 5 = nh0 from enh0))
          refine w_call (s_X2_readBinder ⟨by omega, by omega⟩ ⟨by omega, by omega⟩ (by (try rw [(show mG M 66 5 = nh0 from (show mG M 66 5 = nh0 from enh0))]); all_goals omega) p_RR iM) ?_
          intro v119 m119 pp119
          obtain ⟨im119, kk119, e119_0, -⟩ := pp119
          try dsimp only
          replace im119 : I n m119 := im119
          replace kk119 : Keep n W_X2_readBinder M m119 := kk119
          have km119 : Keep n W_X2_readPart Me m119 := kM.tr kk119 (fun b j z => Or.elim z (fun z => (Or.inl z)) (fun z => Or.elim z (fun z => (Or.inr (Or.inl z))) (fun z => Or.elim z (fun z => (Or.inr (Or.inr (Or.inl z)))) (fun z => Or.elim z (fun z => (Or.inr (Or.inr (Or.inr (Or.inl z))))) (fun z => Or.elim z (fun z => (Or.inr (Or.inr (Or.inr (Or.inr (Or.inl z)))))) (fun z => Or.elim z (fun z => (Or.inr (Or.inr (Or.inr (Or.inr (Or.inr (Or.inl z))))))) (fun z => Or.elim z (fun z => (Or.inr (Or.inr (Or.inr (Or.inr (Or.inr (Or.inr (Or.inl z)))))))) (fun z => Or.elim z (fun z => (Or.inr (Or.inr (Or.inr (Or.inr (Or.inr (Or.inr (Or.inr (Or.inl z))))))))) (fun z => Or.elim z (fun z => (Or.inr (Or.inr (Or.inr (Or.inr (Or.inr (Or.inr (Or.inr (Or.inr (Or.inl z)))))))))) (fun z => Or.elim z (fun z => (Or.inr (Or.inr (Or.inr (Or.inr (Or.inr (Or.inr (Or.inr (Or.inr (Or.inr (Or.inl z))))))))))) (fun z => (Or.inr (Or.inr (Or.inr (Or.inr (Or.inr (Or.inr (Or.inr (Or.inr (Or.inr (Or.inr z)))))))))))))))))))))
          replace e119_0 : mG m119 66 5 ≤ mG M 66 5 + 1 := e119_0
          obtain ⟨hv119_5, ehv119_5⟩ : ∃ v, Is (mG m119 66 5) v := ⟨_, rfl⟩
          have lhv119_5 : mG m119 66 5 = hv119_5 := ehv119_5
          have rhv119_5 : 0 ≤ hv119_5 ∧ hv119_5 ≤ 402 := by rw [← ehv119_5.e]; exact rd_Draft_5 im119 rfl
          exact w_ret ⟨im119, km119, (show mG m119 66 5 ≤ mG Me 66 5 + 1 from (by rw [(show mG m119 66 5 = hv119_5 from (show mG m119 66 5 = hv119_5 from ehv119_5))]; omega)), trivial⟩
        · skip
          refine w_if (fun c5_ => ?_) (fun c5_ => ?_)
          · skip
            refine w_gK (congrArg Prod.fst (kl_65 iM)) ?_
            have lbm128_5 : mG M 66 5 = nh0 := (show mG M 66 5 = nh0 from (show mG M 66 5 = nh0 from enh0))
            refine w_call (s_X2_readJoint ⟨by omega, by omega⟩ ⟨by omega, by omega⟩ (by (try rw [(show mG M 66 5 = nh0 from (show mG M 66 5 = nh0 from enh0))]); all_goals omega) p_RR iM) ?_
            intro v128 m128 pp128
            obtain ⟨im128, kk128, e128_0, -⟩ := pp128
            try dsimp only
            replace im128 : I n m128 := im128
            replace kk128 : Keep n W_X2_readJoint M m128 := kk128
            have km128 : Keep n W_X2_readPart Me m128 := kM.tr kk128 (fun b j z => Or.elim z (fun z => (Or.inl z)) (fun z => Or.elim z (fun z => (Or.inr (Or.inl z))) (fun z => Or.elim z (fun z => (Or.inr (Or.inr (Or.inr (Or.inr (Or.inl z)))))) (fun z => Or.elim z (fun z => (Or.inr (Or.inr (Or.inr (Or.inr (Or.inr (Or.inl z))))))) (fun z => Or.elim z (fun z => (Or.inr (Or.inr (Or.inr (Or.inr (Or.inr (Or.inr (Or.inr (Or.inl z))))))))) (fun z => Or.elim z (fun z => (Or.inr (Or.inr (Or.inr (Or.inr (Or.inr (Or.inr (Or.inr (Or.inr (Or.inl z)))))))))) (fun z => Or.elim z (fun z => (Or.inr (Or.inr (Or.inr (Or.inr (Or.inr (Or.inr (Or.inr (Or.inr (Or.inr (Or.inl z))))))))))) (fun z => (Or.inr (Or.inr (Or.inr (Or.inr (Or.inr (Or.inr (Or.inr (Or.inr (Or.inr (Or.inr z))))))))))))))))))
            replace e128_0 : mG m128 66 5 ≤ mG M 66 5 + 1 := e128_0
            obtain ⟨hv128_5, ehv128_5⟩ : ∃ v, Is (mG m128 66 5) v := ⟨_, rfl⟩
            have lhv128_5 : mG m128 66 5 = hv128_5 := ehv128_5
            have rhv128_5 : 0 ≤ hv128_5 ∧ hv128_5 ≤ 402 := by rw [← ehv128_5.e]; exact rd_Draft_5 im128 rfl
            exact w_ret ⟨im128, km128, (show mG m128 66 5 ≤ mG Me 66 5 + 1 from (by rw [(show mG m128 66 5 = hv128_5 from (show mG m128 66 5 = hv128_5 from ehv128_5))]; omega)), trivial⟩
          · skip
            refine w_if (fun c6_ => ?_) (fun c6_ => ?_)
            · skip
              refine w_gK (congrArg Prod.fst (kl_65 iM)) ?_
              have lbm137_5 : mG M 66 5 = nh0 := (show mG M 66 5 = nh0 from (show mG M 66 5 = nh0 from enh0))
              refine w_call (s_X2_readJoint ⟨by omega, by omega⟩ ⟨by omega, by omega⟩ (by (try rw [(show mG M 66 5 = nh0 from (show mG M 66 5 = nh0 from enh0))]); all_goals omega) p_RR iM) ?_
              intro v137 m137 pp137
              obtain ⟨im137, kk137, e137_0, -⟩ := pp137
              try dsimp only
              replace im137 : I n m137 := im137
              replace kk137 : Keep n W_X2_readJoint M m137 := kk137
              have km137 : Keep n W_X2_readPart Me m137 := kM.tr kk137 (fun b j z => Or.elim z (fun z => (Or.inl z)) (fun z => Or.elim z (fun z => (Or.inr (Or.inl z))) (fun z => Or.elim z (fun z => (Or.inr (Or.inr (Or.inr (Or.inr (Or.inl z)))))) (fun z => Or.elim z (fun z => (Or.inr (Or.inr (Or.inr (Or.inr (Or.inr (Or.inl z))))))) (fun z => Or.elim z (fun z => (Or.inr (Or.inr (Or.inr (Or.inr (Or.inr (Or.inr (Or.inr (Or.inl z))))))))) (fun z => Or.elim z (fun z => (Or.inr (Or.inr (Or.inr (Or.inr (Or.inr (Or.inr (Or.inr (Or.inr (Or.inl z)))))))))) (fun z => Or.elim z (fun z => (Or.inr (Or.inr (Or.inr (Or.inr (Or.inr (Or.inr (Or.inr (Or.inr (Or.inr (Or.inl z))))))))))) (fun z => (Or.inr (Or.inr (Or.inr (Or.inr (Or.inr (Or.inr (Or.inr (Or.inr (Or.inr (Or.inr z))))))))))))))))))
              replace e137_0 : mG m137 66 5 ≤ mG M 66 5 + 1 := e137_0
              obtain ⟨hv137_5, ehv137_5⟩ : ∃ v, Is (mG m137 66 5) v := ⟨_, rfl⟩
              have lhv137_5 : mG m137 66 5 = hv137_5 := ehv137_5
              have rhv137_5 : 0 ≤ hv137_5 ∧ hv137_5 ≤ 402 := by rw [← ehv137_5.e]; exact rd_Draft_5 im137 rfl
              refine w_gK (congrArg Prod.fst (kl_65 im137)) ?_
              have ppRR_m137 : RR m137 := (RR_of p_RR (kk137.2.2 65 0 (by omega) (fun z => by unfold W_X2_readJoint at z; (try unfold isWS at z); (try unfold isShape at z); (try unfold isTold at z); (try dsimp only at z); omega)) (kk137.2.2 65 1 (by omega) (fun z => by unfold W_X2_readJoint at z; (try unfold isWS at z); (try unfold isShape at z); (try unfold isTold at z); (try dsimp only at z); omega)) (kk137.2.2 65 3 (by omega) (fun z => by unfold W_X2_readJoint at z; (try unfold isWS at z); (try unfold isShape at z); (try unfold isTold at z); (try dsimp only at z); omega)))
              refine w_call (s_X2_expectPart ⟨by omega, by omega⟩ ppRR_m137 im137) ?_
              intro v142 m142 pp142
              obtain ⟨im142, kk142, -⟩ := pp142
              try dsimp only
              replace im142 : I n m142 := im142
              replace kk142 : Keep n W_X2_expectPart m137 m142 := kk142
              have km142 : Keep n W_X2_readPart Me m142 := km137.tr kk142 (fun b j z => Or.elim z (fun z => (Or.inr (Or.inl z))) (fun z => (Or.inr (Or.inr (Or.inr (Or.inr (Or.inr (Or.inr (Or.inr (Or.inl z))))))))))
              exact w_ret ⟨im142, km142, (show mG m142 66 5 ≤ mG Me 66 5 + 1 from (by rw [(show mG m142 66 5 = hv137_5 from ((kk142.2.2 66 5 (by omega) (fun z => by unfold W_X2_expectPart at z; (try unfold isWS at z); (try unfold isShape at z); (try unfold isTold at z); (try dsimp only at z); omega)).trans (show mG m137 66 5 = hv137_5 from ehv137_5)))]; omega)), trivial⟩
            · skip
              refine w_if (fun c7_ => ?_) (fun c7_ => ?_)
              · skip
                refine w_gK (congrArg Prod.fst (kl_65 iM)) ?_
                have lbm137_5 : mG M 66 5 = nh0 := (show mG M 66 5 = nh0 from (show mG M 66 5 = nh0 from enh0))
                refine w_call (s_X2_readJoint ⟨by omega, by omega⟩ ⟨by omega, by omega⟩ (by (try rw [(show mG M 66 5 = nh0 from (show mG M 66 5 = nh0 from enh0))]); all_goals omega) p_RR iM) ?_
                intro v137 m137 pp137
                obtain ⟨im137, kk137, e137_0, -⟩ := pp137
                try dsimp only
                replace im137 : I n m137 := im137
                replace kk137 : Keep n W_X2_readJoint M m137 := kk137
                have km137 : Keep n W_X2_readPart Me m137 := kM.tr kk137 (fun b j z => Or.elim z (fun z => (Or.inl z)) (fun z => Or.elim z (fun z => (Or.inr (Or.inl z))) (fun z => Or.elim z (fun z => (Or.inr (Or.inr (Or.inr (Or.inr (Or.inl z)))))) (fun z => Or.elim z (fun z => (Or.inr (Or.inr (Or.inr (Or.inr (Or.inr (Or.inl z))))))) (fun z => Or.elim z (fun z => (Or.inr (Or.inr (Or.inr (Or.inr (Or.inr (Or.inr (Or.inr (Or.inl z))))))))) (fun z => Or.elim z (fun z => (Or.inr (Or.inr (Or.inr (Or.inr (Or.inr (Or.inr (Or.inr (Or.inr (Or.inl z)))))))))) (fun z => Or.elim z (fun z => (Or.inr (Or.inr (Or.inr (Or.inr (Or.inr (Or.inr (Or.inr (Or.inr (Or.inr (Or.inl z))))))))))) (fun z => (Or.inr (Or.inr (Or.inr (Or.inr (Or.inr (Or.inr (Or.inr (Or.inr (Or.inr (Or.inr z))))))))))))))))))
                replace e137_0 : mG m137 66 5 ≤ mG M 66 5 + 1 := e137_0
                obtain ⟨hv137_5, ehv137_5⟩ : ∃ v, Is (mG m137 66 5) v := ⟨_, rfl⟩
                have lhv137_5 : mG m137 66 5 = hv137_5 := ehv137_5
                have rhv137_5 : 0 ≤ hv137_5 ∧ hv137_5 ≤ 402 := by rw [← ehv137_5.e]; exact rd_Draft_5 im137 rfl
                refine w_gK (congrArg Prod.fst (kl_65 im137)) ?_
                have ppRR_m137 : RR m137 := (RR_of p_RR (kk137.2.2 65 0 (by omega) (fun z => by unfold W_X2_readJoint at z; (try unfold isWS at z); (try unfold isShape at z); (try unfold isTold at z); (try dsimp only at z); omega)) (kk137.2.2 65 1 (by omega) (fun z => by unfold W_X2_readJoint at z; (try unfold isWS at z); (try unfold isShape at z); (try unfold isTold at z); (try dsimp only at z); omega)) (kk137.2.2 65 3 (by omega) (fun z => by unfold W_X2_readJoint at z; (try unfold isWS at z); (try unfold isShape at z); (try unfold isTold at z); (try dsimp only at z); omega)))
                refine w_call (s_X2_expectPart ⟨by omega, by omega⟩ ppRR_m137 im137) ?_
                intro v142 m142 pp142
                obtain ⟨im142, kk142, -⟩ := pp142
                try dsimp only
                replace im142 : I n m142 := im142
                replace kk142 : Keep n W_X2_expectPart m137 m142 := kk142
                have km142 : Keep n W_X2_readPart Me m142 := km137.tr kk142 (fun b j z => Or.elim z (fun z => (Or.inr (Or.inl z))) (fun z => (Or.inr (Or.inr (Or.inr (Or.inr (Or.inr (Or.inr (Or.inr (Or.inl z))))))))))
                exact w_ret ⟨im142, km142, (show mG m142 66 5 ≤ mG Me 66 5 + 1 from (by rw [(show mG m142 66 5 = hv137_5 from ((kk142.2.2 66 5 (by omega) (fun z => by unfold W_X2_expectPart at z; (try unfold isWS at z); (try unfold isShape at z); (try unfold isTold at z); (try dsimp only at z); omega)).trans (show mG m137 66 5 = hv137_5 from ehv137_5)))]; omega)), trivial⟩
              · skip
                refine w_if (fun c8_ => ?_) (fun c8_ => ?_)
                · skip
                  refine w_gK (congrArg Prod.fst (kl_65 iM)) ?_
                  have lbm137_5 : mG M 66 5 = nh0 := (show mG M 66 5 = nh0 from (show mG M 66 5 = nh0 from enh0))
                  refine w_call (s_X2_readJoint ⟨by omega, by omega⟩ ⟨by omega, by omega⟩ (by (try rw [(show mG M 66 5 = nh0 from (show mG M 66 5 = nh0 from enh0))]); all_goals omega) p_RR iM) ?_
                  intro v137 m137 pp137
                  obtain ⟨im137, kk137, e137_0, -⟩ := pp137
                  try dsimp only
                  replace im137 : I n m137 := im137
                  replace kk137 : Keep n W_X2_readJoint M m137 := kk137
                  have km137 : Keep n W_X2_readPart Me m137 := kM.tr kk137 (fun b j z => Or.elim z (fun z => (Or.inl z)) (fun z => Or.elim z (fun z => (Or.inr (Or.inl z))) (fun z => Or.elim z (fun z => (Or.inr (Or.inr (Or.inr (Or.inr (Or.inl z)))))) (fun z => Or.elim z (fun z => (Or.inr (Or.inr (Or.inr (Or.inr (Or.inr (Or.inl z))))))) (fun z => Or.elim z (fun z => (Or.inr (Or.inr (Or.inr (Or.inr (Or.inr (Or.inr (Or.inr (Or.inl z))))))))) (fun z => Or.elim z (fun z => (Or.inr (Or.inr (Or.inr (Or.inr (Or.inr (Or.inr (Or.inr (Or.inr (Or.inl z)))))))))) (fun z => Or.elim z (fun z => (Or.inr (Or.inr (Or.inr (Or.inr (Or.inr (Or.inr (Or.inr (Or.inr (Or.inr (Or.inl z))))))))))) (fun z => (Or.inr (Or.inr (Or.inr (Or.inr (Or.inr (Or.inr (Or.inr (Or.inr (Or.inr (Or.inr z))))))))))))))))))
                  replace e137_0 : mG m137 66 5 ≤ mG M 66 5 + 1 := e137_0
                  obtain ⟨hv137_5, ehv137_5⟩ : ∃ v, Is (mG m137 66 5) v := ⟨_, rfl⟩
                  have lhv137_5 : mG m137 66 5 = hv137_5 := ehv137_5
                  have rhv137_5 : 0 ≤ hv137_5 ∧ hv137_5 ≤ 402 := by rw [← ehv137_5.e]; exact rd_Draft_5 im137 rfl
                  refine w_gK (congrArg Prod.fst (kl_65 im137)) ?_
                  have ppRR_m137 : RR m137 := (RR_of p_RR (kk137.2.2 65 0 (by omega) (fun z => by unfold W_X2_readJoint at z; (try unfold isWS at z); (try unfold isShape at z); (try unfold isTold at z); (try dsimp only at z); omega)) (kk137.2.2 65 1 (by omega) (fun z => by unfold W_X2_readJoint at z; (try unfold isWS at z); (try unfold isShape at z); (try unfold isTold at z); (try dsimp only at z); omega)) (kk137.2.2 65 3 (by omega) (fun z => by unfold W_X2_readJoint at z; (try unfold isWS at z); (try unfold isShape at z); (try unfold isTold at z); (try dsimp only at z); omega)))
                  refine w_call (s_X2_expectPart ⟨by omega, by omega⟩ ppRR_m137 im137) ?_
                  intro v142 m142 pp142
                  obtain ⟨im142, kk142, -⟩ := pp142
                  try dsimp only
                  replace im142 : I n m142 := im142
                  replace kk142 : Keep n W_X2_expectPart m137 m142 := kk142
                  have km142 : Keep n W_X2_readPart Me m142 := km137.tr kk142 (fun b j z => Or.elim z (fun z => (Or.inr (Or.inl z))) (fun z => (Or.inr (Or.inr (Or.inr (Or.inr (Or.inr (Or.inr (Or.inr (Or.inl z))))))))))
                  exact w_ret ⟨im142, km142, (show mG m142 66 5 ≤ mG Me 66 5 + 1 from (by rw [(show mG m142 66 5 = hv137_5 from ((kk142.2.2 66 5 (by omega) (fun z => by unfold W_X2_expectPart at z; (try unfold isWS at z); (try unfold isShape at z); (try unfold isTold at z); (try dsimp only at z); omega)).trans (show mG m137 66 5 = hv137_5 from ehv137_5)))]; omega)), trivial⟩
                · skip
                  refine w_if (fun c9_ => ?_) (fun c9_ => ?_)
                  · skip
                    refine w_gK (congrArg Prod.fst (kl_65 iM)) ?_
                    have lbm150_5 : mG M 66 5 = nh0 := (show mG M 66 5 = nh0 from (show mG M 66 5 = nh0 from enh0))
                    refine w_call (s_X2_readSame ⟨by omega, by omega⟩ (by (try rw [(show mG M 66 5 = nh0 from (show mG M 66 5 = nh0 from enh0))]); all_goals omega) p_RR iM) ?_
                    intro v150 m150 pp150
                    obtain ⟨im150, kk150, e150_0, -⟩ := pp150
                    try dsimp only
                    replace im150 : I n m150 := im150
                    replace kk150 : Keep n W_X2_readSame M m150 := kk150
                    have km150 : Keep n W_X2_readPart Me m150 := kM.tr kk150 (fun b j z => Or.elim z (fun z => (Or.inl z)) (fun z => Or.elim z (fun z => (Or.inr (Or.inr (Or.inl z)))) (fun z => Or.elim z (fun z => (Or.inr (Or.inr (Or.inr (Or.inl z))))) (fun z => Or.elim z (fun z => (Or.inr (Or.inr (Or.inr (Or.inr (Or.inl z)))))) (fun z => Or.elim z (fun z => (Or.inr (Or.inr (Or.inr (Or.inr (Or.inr (Or.inl z))))))) (fun z => Or.elim z (fun z => (Or.inr (Or.inr (Or.inr (Or.inr (Or.inr (Or.inr (Or.inl z)))))))) (fun z => Or.elim z (fun z => (Or.inr (Or.inr (Or.inr (Or.inr (Or.inr (Or.inr (Or.inr (Or.inr (Or.inl z)))))))))) (fun z => Or.elim z (fun z => (Or.inr (Or.inr (Or.inr (Or.inr (Or.inr (Or.inr (Or.inr (Or.inr (Or.inr (Or.inl z))))))))))) (fun z => (Or.inr (Or.inr (Or.inr (Or.inr (Or.inr (Or.inr (Or.inr (Or.inr (Or.inr (Or.inr z)))))))))))))))))))
                    replace e150_0 : mG m150 66 5 ≤ mG M 66 5 + 1 := e150_0
                    obtain ⟨hv150_5, ehv150_5⟩ : ∃ v, Is (mG m150 66 5) v := ⟨_, rfl⟩
                    have lhv150_5 : mG m150 66 5 = hv150_5 := ehv150_5
                    have rhv150_5 : 0 ≤ hv150_5 ∧ hv150_5 ≤ 402 := by rw [← ehv150_5.e]; exact rd_Draft_5 im150 rfl
                    exact w_ret ⟨im150, km150, (show mG m150 66 5 ≤ mG Me 66 5 + 1 from (by rw [(show mG m150 66 5 = hv150_5 from (show mG m150 66 5 = hv150_5 from ehv150_5))]; omega)), trivial⟩
                  · skip
                    refine w_if (fun c10_ => ?_) (fun c10_ => ?_)
                    · skip
                      refine w_gK (congrArg Prod.fst (kl_65 iM)) ?_
                      have lbm158_5 : mG M 66 5 = nh0 := (show mG M 66 5 = nh0 from (show mG M 66 5 = nh0 from enh0))
                      refine w_call (s_X2_readReach ⟨by omega, by omega⟩ (by (try rw [(show mG M 66 5 = nh0 from (show mG M 66 5 = nh0 from enh0))]); all_goals omega) p_RR iM) ?_
                      intro v158 m158 pp158
                      obtain ⟨im158, kk158, e158_0, -⟩ := pp158
                      try dsimp only
                      replace im158 : I n m158 := im158
                      replace kk158 : Keep n W_X2_readReach M m158 := kk158
                      have km158 : Keep n W_X2_readPart Me m158 := kM.tr kk158 (fun b j z => Or.elim z (fun z => (Or.inl z)) (fun z => Or.elim z (fun z => (Or.inr (Or.inr (Or.inl z)))) (fun z => Or.elim z (fun z => (Or.inr (Or.inr (Or.inr (Or.inl z))))) (fun z => Or.elim z (fun z => (Or.inr (Or.inr (Or.inr (Or.inr (Or.inl z)))))) (fun z => Or.elim z (fun z => (Or.inr (Or.inr (Or.inr (Or.inr (Or.inr (Or.inl z))))))) (fun z => Or.elim z (fun z => (Or.inr (Or.inr (Or.inr (Or.inr (Or.inr (Or.inr (Or.inl z)))))))) (fun z => Or.elim z (fun z => (Or.inr (Or.inr (Or.inr (Or.inr (Or.inr (Or.inr (Or.inr (Or.inr (Or.inl z)))))))))) (fun z => Or.elim z (fun z => (Or.inr (Or.inr (Or.inr (Or.inr (Or.inr (Or.inr (Or.inr (Or.inr (Or.inr (Or.inl z))))))))))) (fun z => (Or.inr (Or.inr (Or.inr (Or.inr (Or.inr (Or.inr (Or.inr (Or.inr (Or.inr (Or.inr z)))))))))))))))))))
                      replace e158_0 : mG m158 66 5 ≤ mG M 66 5 + 1 := e158_0
                      obtain ⟨hv158_5, ehv158_5⟩ : ∃ v, Is (mG m158 66 5) v := ⟨_, rfl⟩
                      have lhv158_5 : mG m158 66 5 = hv158_5 := ehv158_5
                      have rhv158_5 : 0 ≤ hv158_5 ∧ hv158_5 ≤ 402 := by rw [← ehv158_5.e]; exact rd_Draft_5 im158 rfl
                      exact w_ret ⟨im158, km158, (show mG m158 66 5 ≤ mG Me 66 5 + 1 from (by rw [(show mG m158 66 5 = hv158_5 from (show mG m158 66 5 = hv158_5 from ehv158_5))]; omega)), trivial⟩
                    · skip
                      refine w_if (fun c11_ => ?_) (fun c11_ => ?_)
                      · skip
                        refine w_gK (congrArg Prod.fst (kl_65 iM)) ?_
                        have lbm165_5 : mG M 66 5 = nh0 := (show mG M 66 5 = nh0 from (show mG M 66 5 = nh0 from enh0))
                        refine w_call (s_X2_readTree (by (try rw [(show mG M 66 5 = nh0 from (show mG M 66 5 = nh0 from enh0))]); all_goals omega) p_RR iM) ?_
                        intro v165 m165 pp165
                        obtain ⟨im165, kk165, e165_0, -⟩ := pp165
                        try dsimp only
                        replace im165 : I n m165 := im165
                        replace kk165 : Keep n W_X2_readTree M m165 := kk165
                        have km165 : Keep n W_X2_readPart Me m165 := kM.tr kk165 (fun b j z => Or.elim z (fun z => (Or.inl z)) (fun z => Or.elim z (fun z => (Or.inr (Or.inr (Or.inl z)))) (fun z => Or.elim z (fun z => (Or.inr (Or.inr (Or.inr (Or.inl z))))) (fun z => Or.elim z (fun z => (Or.inr (Or.inr (Or.inr (Or.inr (Or.inl z)))))) (fun z => Or.elim z (fun z => (Or.inr (Or.inr (Or.inr (Or.inr (Or.inr (Or.inl z))))))) (fun z => Or.elim z (fun z => (Or.inr (Or.inr (Or.inr (Or.inr (Or.inr (Or.inr (Or.inl z)))))))) (fun z => Or.elim z (fun z => (Or.inr (Or.inr (Or.inr (Or.inr (Or.inr (Or.inr (Or.inr (Or.inr (Or.inl z)))))))))) (fun z => Or.elim z (fun z => (Or.inr (Or.inr (Or.inr (Or.inr (Or.inr (Or.inr (Or.inr (Or.inr (Or.inr (Or.inl z))))))))))) (fun z => (Or.inr (Or.inr (Or.inr (Or.inr (Or.inr (Or.inr (Or.inr (Or.inr (Or.inr (Or.inr z)))))))))))))))))))
                        replace e165_0 : mG m165 66 5 ≤ mG M 66 5 + 1 := e165_0
                        obtain ⟨hv165_5, ehv165_5⟩ : ∃ v, Is (mG m165 66 5) v := ⟨_, rfl⟩
                        have lhv165_5 : mG m165 66 5 = hv165_5 := ehv165_5
                        have rhv165_5 : 0 ≤ hv165_5 ∧ hv165_5 ≤ 402 := by rw [← ehv165_5.e]; exact rd_Draft_5 im165 rfl
                        exact w_ret ⟨im165, km165, (show mG m165 66 5 ≤ mG Me 66 5 + 1 from (by rw [(show mG m165 66 5 = hv165_5 from (show mG m165 66 5 = hv165_5 from ehv165_5))]; omega)), trivial⟩
                      · skip
                        refine w_gK (congrArg Prod.fst (kl_65 iM)) ?_
                        have lbm173_5 : mG M 66 5 = nh0 := (show mG M 66 5 = nh0 from (show mG M 66 5 = nh0 from enh0))
                        refine w_call (s_X2_readFact ⟨by omega, by omega⟩ (by (try rw [(show mG M 66 5 = nh0 from (show mG M 66 5 = nh0 from enh0))]); all_goals omega) p_RR iM) ?_
                        intro v173 m173 pp173
                        obtain ⟨im173, kk173, e173_0, -⟩ := pp173
                        try dsimp only
                        replace im173 : I n m173 := im173
                        replace kk173 : Keep n W_X2_readFact M m173 := kk173
                        have km173 : Keep n W_X2_readPart Me m173 := kM.tr kk173 (fun b j z => Or.elim z (fun z => (Or.inl z)) (fun z => Or.elim z (fun z => (Or.inr (Or.inr (Or.inl z)))) (fun z => Or.elim z (fun z => (Or.inr (Or.inr (Or.inr (Or.inl z))))) (fun z => Or.elim z (fun z => (Or.inr (Or.inr (Or.inr (Or.inr (Or.inl z)))))) (fun z => Or.elim z (fun z => (Or.inr (Or.inr (Or.inr (Or.inr (Or.inr (Or.inl z))))))) (fun z => Or.elim z (fun z => (Or.inr (Or.inr (Or.inr (Or.inr (Or.inr (Or.inr (Or.inl z)))))))) (fun z => Or.elim z (fun z => (Or.inr (Or.inr (Or.inr (Or.inr (Or.inr (Or.inr (Or.inr (Or.inr (Or.inl z)))))))))) (fun z => Or.elim z (fun z => (Or.inr (Or.inr (Or.inr (Or.inr (Or.inr (Or.inr (Or.inr (Or.inr (Or.inr (Or.inl z))))))))))) (fun z => (Or.inr (Or.inr (Or.inr (Or.inr (Or.inr (Or.inr (Or.inr (Or.inr (Or.inr (Or.inr z)))))))))))))))))))
                        replace e173_0 : mG m173 66 5 ≤ mG M 66 5 + 1 := e173_0
                        obtain ⟨hv173_5, ehv173_5⟩ : ∃ v, Is (mG m173 66 5) v := ⟨_, rfl⟩
                        have lhv173_5 : mG m173 66 5 = hv173_5 := ehv173_5
                        have rhv173_5 : 0 ≤ hv173_5 ∧ hv173_5 ≤ 402 := by rw [← ehv173_5.e]; exact rd_Draft_5 im173 rfl
                        exact w_ret ⟨im173, km173, (show mG m173 66 5 ≤ mG Me 66 5 + 1 from (by rw [(show mG m173 66 5 = hv173_5 from (show mG m173 66 5 = hv173_5 from ehv173_5))]; omega)), trivial⟩
theorem s_X2_readPart {n : Nat} {M : Mem} (y0 : mG M 66 5 ≤ 401) (y1 : 1 ≤ mG M 65 7) (p_RR : RR M) (iM : I n M) : wp (mX2_readPart 65 M) (fun q => I n q.2 ∧ Keep n W_X2_readPart M q.2 ∧ (mG q.2 66 5 ≤ mG M 66 5 + 1) ∧ True) := by
  have hn : (169 : Int) ≤ (n : Int) := by have := iM.2.2.2.2.1; omega
  have kM : Keep n W_X2_readPart M M := Keep.rf
  obtain ⟨nh0, enh0⟩ : ∃ v, Is (mG M 66 5) v := ⟨_, rfl⟩
  have rnh0 : 0 ≤ nh0 ∧ nh0 ≤ 402 := by rw [← enh0.e]; exact rd_Draft_5 iM rfl
  have qnh0 : mG M 66 5 = nh0 := enh0
  (try rw [enh0.e] at y0); (try rw [enh0.e] at y1)
  obtain ⟨nh1, enh1⟩ : ∃ v, Is (mG M 65 7) v := ⟨_, rfl⟩
  have rnh1 : 0 ≤ nh1 ∧ nh1 ≤ 402 := by rw [← enh1.e]; exact rd_Reader_7 iM rfl
  (try rw [enh1.e] at y0); (try rw [enh1.e] at y1)
  unfold mX2_readPart
  refine w_gFc (ji := 7) rfl (congrArg Prod.fst (kl_65 iM)) (show mG M 65 7 = nh1 from (show mG M 65 7 = nh1 from enh1)) ?_
  have w1_ := wI_id (x := (nh1 - 1)) (by omega) (by omega)
  refine w_pF (ji := 7) rfl (congrArg Prod.fst (kl_65 iM)) (fun M7 hM7 => ?_)
  replace hM7 : M7 = mS M 65 7 (wI (nh1 - 1)) := hM7
  have iM7 : I n M7 := wr_Reader_7 iM rfl ⟨by omega, by omega⟩ hM7
  have kM7 : Keep n W_X2_readPart M M7 := kM.st hM7 (Or.inl (Or.inr (Or.inr (Or.inr (Or.inr (Or.inr (Or.inr (Or.inr (Or.inl ⟨rfl, rfl⟩)))))))))
  obtain ⟨svM7, esvM7⟩ : ∃ z, z = (wI (nh1 - 1)) := ⟨_, rfl⟩
  refine w_gFc (ji := 6) rfl (congrArg Prod.fst (kl_65 iM7)) (show mG M7 65 6 = 72 from rd_Reader_6 iM7 (a := 65) rfl) ?_
  refine w_gFc (ji := 7) rfl (congrArg Prod.fst (kl_65 iM7)) (show mG M7 65 7 = svM7 from (show mG M7 65 7 = svM7 from ((st_eq hM7).trans esvM7.symm))) ?_
  refine w_aG (kl_72 iM7) (by omega) (by omega) (fun a18 ha18 => ?_)
  have ra18 : (-2147483648) ≤ a18 ∧ a18 ≤ 2147483647 := ha18.tr (P := fun z => (-2147483648) ≤ z ∧ z ≤ 2147483647) (rd_Rscopes iM7 rfl)
  refine w_gK (congrArg Prod.fst (kl_65 iM7)) ?_
  have ppRR_M7 : RR M7 := (RR_of p_RR (st_ne hM7 (fun z => absurd z.2 (by decide))) (st_ne hM7 (fun z => absurd z.2 (by decide))) (st_ne hM7 (fun z => absurd z.2 (by decide))))
  refine w_call (s_X2_firstWord ppRR_M7 iM7) ?_
  intro v21 m21 pp21
  obtain ⟨im21, kk21, e21_0, -⟩ := pp21
  try dsimp only
  replace im21 : I n m21 := im21
  replace kk21 : Keep n W_X2_firstWord M7 m21 := kk21
  have km21 : Keep n W_X2_readPart M m21 := kM7.tr kk21 (fun b j z => z.elim)
  replace e21_0 : (-1) ≤ v21 ∧ v21 ≤ 11 := e21_0
  refine w_if (fun c2_ => ?_) (fun c2_ => ?_)
  · skip
    refine w_gK (congrArg Prod.fst (kl_65 im21)) ?_
    have ppRR_m21 : RR m21 := (RR_of ppRR_M7 (kk21.2.2 65 0 (by omega) (fun z => z)) (kk21.2.2 65 1 (by omega) (fun z => z)) (kk21.2.2 65 3 (by omega) (fun z => z)))
    refine w_call (s_X2_refuse ppRR_m21 im21) ?_
    intro v31 m31 pp31
    obtain ⟨im31, kk31, -⟩ := pp31
    try dsimp only
    replace im31 : I n m31 := im31
    replace kk31 : Keep n W_X2_refuse m21 m31 := kk31
    have km31 : Keep n W_X2_readPart M m31 := km21.tr kk31 (fun b j z => Or.elim z (fun z => (Or.inr (Or.inr (Or.inl z)))) (fun z => Or.elim z (fun z => (Or.inr (Or.inr (Or.inr (Or.inl z))))) (fun z => (Or.inr (Or.inr (Or.inr (Or.inr (Or.inr (Or.inr (Or.inl z))))))))))
    exact w_ret ⟨im31, km31, (show mG m31 66 5 ≤ mG M 66 5 + 1 from (by rw [(show mG m31 66 5 = nh0 from ((kk31.2.2 66 5 (by omega) (fun z => by unfold W_X2_refuse at z; (try unfold isWS at z); (try unfold isShape at z); (try unfold isTold at z); (try dsimp only at z); omega)).trans ((kk21.2.2 66 5 (by omega) (fun z => z)).trans ((st_ne hM7 (fun z => ne_fam rfl rfl (by decide) z.1)).trans (show mG M 66 5 = nh0 from enh0)))))]; omega)), trivial⟩
  · skip
    refine w_gFc (ji := 5) rfl (congrArg Prod.fst (kl_65 im21)) (show mG m21 65 5 = 66 from rd_Reader_5 im21 (a := 65) rfl) ?_
    refine w_gFc (ji := 5) rfl (congrArg Prod.fst (kl_66 im21)) (show mG m21 66 5 = nh0 from ((kk21.2.2 66 5 (by omega) (fun z => z)).trans ((st_ne hM7 (fun z => ne_fam rfl rfl (by decide) z.1)).trans (show mG M 66 5 = nh0 from enh0)))) ?_
    refine w_if (fun c3_ => ?_) (fun c3_ => ?_)
    · skip
      have ppRR_m21 : RR m21 := (RR_of ppRR_M7 (kk21.2.2 65 0 (by omega) (fun z => z)) (kk21.2.2 65 1 (by omega) (fun z => z)) (kk21.2.2 65 3 (by omega) (fun z => z)))
      exact s_X2_readPart_56 ⟨by omega, by omega⟩ ⟨by omega, by omega⟩ (by (try rw [(show mG m21 66 5 = nh0 from ((kk21.2.2 66 5 (by omega) (fun z => z)).trans ((st_ne hM7 (fun z => ne_fam rfl rfl (by decide) z.1)).trans (show mG M 66 5 = nh0 from enh0))))]); all_goals omega) ppRR_m21 im21 km21
    · skip
      refine w_gF (ji := 9) rfl (congrArg Prod.fst (kl_65 im21)) (fun a50 ha50 => ?_)
      have ra50 : 0 ≤ a50 ∧ a50 ≤ 400 := ha50.tr (P := fun z => 0 ≤ z ∧ z ≤ 400) (rd_Reader_9 im21 rfl)
      refine w_gK (congrArg Prod.fst (kl_65 im21)) ?_
      have ppRR_m21 : RR m21 := (RR_of ppRR_M7 (kk21.2.2 65 0 (by omega) (fun z => z)) (kk21.2.2 65 1 (by omega) (fun z => z)) (kk21.2.2 65 3 (by omega) (fun z => z)))
      refine w_call (s_X2_note ⟨by omega, by omega⟩ ⟨by omega, by omega⟩ ppRR_m21 im21) ?_
      intro v53 m53 pp53
      obtain ⟨im53, kk53, -⟩ := pp53
      try dsimp only
      replace im53 : I n m53 := im53
      replace kk53 : Keep n W_X2_note m21 m53 := kk53
      have km53 : Keep n W_X2_readPart M m53 := km21.tr kk53 (fun b j z => Or.elim z (fun z => (Or.inr (Or.inr (Or.inl z)))) (fun z => (Or.inr (Or.inr (Or.inr (Or.inl z))))))
      have ppRR_m53 : RR m53 := (RR_of ppRR_m21 (kk53.2.2 65 0 (by omega) (fun z => by unfold W_X2_note at z; (try unfold isWS at z); (try unfold isShape at z); (try unfold isTold at z); (try dsimp only at z); omega)) (kk53.2.2 65 1 (by omega) (fun z => by unfold W_X2_note at z; (try unfold isWS at z); (try unfold isShape at z); (try unfold isTold at z); (try dsimp only at z); omega)) (kk53.2.2 65 3 (by omega) (fun z => by unfold W_X2_note at z; (try unfold isWS at z); (try unfold isShape at z); (try unfold isTold at z); (try dsimp only at z); omega)))
      exact s_X2_readPart_56 ⟨by omega, by omega⟩ ⟨by omega, by omega⟩ (by (try rw [(show mG m53 66 5 = nh0 from ((kk53.2.2 66 5 (by omega) (fun z => by unfold W_X2_note at z; (try unfold isWS at z); (try unfold isShape at z); (try unfold isTold at z); (try dsimp only at z); omega)).trans ((kk21.2.2 66 5 (by omega) (fun z => z)).trans ((st_ne hM7 (fun z => ne_fam rfl rfl (by decide) z.1)).trans (show mG M 66 5 = nh0 from enh0)))))]); all_goals omega) ppRR_m53 im53 km53
