/-! ===== the class reads a tape ===== -/
section
variable {n : Nat}
theorem q_finished {ps : List Row} {M0 : Mem} (iM : I n M0) (h5 : mG M0 66 5 = (ps.length : Int)) (d : DR ps M0) (h2 : ps.length ≤ 40) : pw (mX5_finished 66 M0) (fun q => 169 < q.1 ∧ TT ps q.1 q.2) := by
  have hn : (169 : Int) ≤ (mN M0 : Int) := by have := iM.2.2.2.2.1; have := iM.2.2.2.1; omega
  obtain ⟨t, ht⟩ : ∃ t : Int, t = (mN M0 : Int) + 1 := ⟨_, rfl⟩
  have loop : ∀ (fu : Nat) (u : Int) (M : Mem), TB M0 t ps.length u M → 0 ≤ u → u ≤ (ps.length : Int) → pw (mX5_finished_14 fu 66 t u M) (fun q => 169 < q.1 ∧ TT ps q.1 q.2) := by
    intro fu
    induction fu with
    | zero => intro u M _ _ _; exact p_none
    | succ fu ih =>
      intro u M hb b0 b1
      show pw (bX5_finished_14 (mX5_finished_14 fu) 66 t u M) _
      obtain ⟨a1, a2, a3, a4, a5, a6, a7, a8⟩ := id hb
      have g0 : mG M 66 0 = 67 := ((a2 66 (by omega)).2 0).trans (rd_Draft_0 iM (a := 66) rfl)
      have g1 : mG M 66 1 = 68 := ((a2 66 (by omega)).2 1).trans (rd_Draft_1 iM (a := 66) rfl)
      have g2 : mG M 66 2 = 69 := ((a2 66 (by omega)).2 2).trans (rd_Draft_2 iM (a := 66) rfl)
      have g3 : mG M 66 3 = 70 := ((a2 66 (by omega)).2 3).trans (rd_Draft_3 iM (a := 66) rfl)
      have f0 : mG M t 0 = t + 1 := by rw [a5 0 (by decide) (by decide)]; omega
      have f1 : mG M t 1 = t + 2 := by rw [a5 1 (by decide) (by decide)]; omega
      have f2 : mG M t 2 = t + 3 := by rw [a5 2 (by decide) (by decide)]; omega
      have f3 : mG M t 3 = t + 4 := by rw [a5 3 (by decide) (by decide)]; omega
      have k1 : (mK M (t + 1)).2 = ps.length := congrArg Prod.snd (a4 1 (by decide) (by decide))
      have k67 : (mK M 67).2 = 40 := congrArg Prod.snd ((a2 67 (by omega)).1.trans (kl_67 iM))
      have t65 : u = (ps.length : Int) → pw (mX5_finished_65 t M) (fun q => 169 < q.1 ∧ TT ps q.1 q.2) := by
        intro e
        subst e
        unfold mX5_finished_65
        exact p_gK (p_call (q_findBehind hb d h2) (fun r m hm => p_ret ⟨by show 169 < t; omega, hm⟩))
      unfold bX5_finished_14
      refine p_gFc (ji := 5) rfl (((a2 66 (by omega)).2 5).trans h5) (p_if (fun c => t65 (by omega)) (fun c => ?_))
      refine p_gFc (ji := 0) rfl g0 (p_aL (fun v hv => p_if (fun c2 => ?_) (fun c2 => ?_)))
      · rw [k67] at hv; exfalso; omega
      refine p_gFc (ji := 0) rfl g0 (p_aGc ((a2 67 (by omega)).2 u) (p_gFc (ji := 1) rfl g1 (p_aGc ((a2 68 (by omega)).2 u) (p_gFc (ji := 2) rfl g2 (p_aGc ((a2 69 (by omega)).2 u) (p_gFc (ji := 3) rfl g3 (p_aGc ((a2 70 (by omega)).2 u) (p_gK ?_))))))))
      have w1 := wI_id (x := u + 1) (by omega) (by omega)
      refine p_call (P := fun q => TB M0 t ps.length (u + 1) q.2) ?_ (fun r m hm => ?_)
      · unfold mX5_write
        refine p_gFc (ji := 5) rfl a6 (p_gFc (ji := 0) rfl f0 (p_aL (fun v hv => p_if (fun c3 => ?_) (fun c3 => ?_))))
        · rw [k1] at hv; exfalso; omega
        refine p_gFc (ji := 0) rfl f0 (p_gFc (ji := 5) rfl a6 (p_aS (fun M1 h1 => ?_)))
        refine p_gFc (ji := 1) rfl ((st_ne h1 (fun z => by omega)).trans f1) (p_gFc (ji := 5) rfl ((st_ne h1 (fun z => by omega)).trans a6) (p_aS (fun M2 h2 => ?_)))
        have g2 : ∀ j, mG M2 t j = mG M t j := fun j => (st_ne h2 (fun z => by omega)).trans (st_ne h1 (fun z => by omega))
        refine p_gFc (ji := 2) rfl ((g2 _).trans f2) (p_gFc (ji := 5) rfl ((g2 _).trans a6) (p_aS (fun M3 h3 => ?_)))
        have g3 : ∀ j, mG M3 t j = mG M t j := fun j => (st_ne h3 (fun z => by omega)).trans (g2 j)
        refine p_gFc (ji := 3) rfl ((g3 _).trans f3) (p_gFc (ji := 5) rfl ((g3 _).trans a6) (p_aS (fun M4 h4 => ?_)))
        have g4 : ∀ j, mG M4 t j = mG M t j := fun j => (st_ne h4 (fun z => by omega)).trans (g3 j)
        unfold mX5_write_53
        refine p_gFc (ji := 5) rfl ((g4 _).trans a6) ?_
        rw [w1]
        exact p_pF (ji := 5) rfl (fun M5 h5 => p_ret (hb.write b0 h1 h2 h3 h4 h5))
      · dsimp only
        rw [w1]
        exact ih _ m hm (by omega) (by omega)
  unfold mX5_finished
  refine p_call (P := fun q => q.1 = t ∧ q.2 = mNew M0 (5, 0)) (p_ret ⟨ht.symm, rfl⟩) (fun v M1 h => ?_)
  obtain ⟨ev, hM1⟩ := h
  have ev : v = t := ev
  have hM1 : M1 = mNew M0 (5, 0) := hM1
  subst ev
  have kt : mK M1 v = (5, 0) := nw_kn hM1 ht
  refine p_gFc (ji := 5) rfl ((nw_g hM1 (by omega)).trans h5) (p_gK ?_)
  refine p_call (P := fun q => IB M0 v ps.length 5 q.2) ?_ (fun r m hb => ?_)
  · unfold mX5_init
    refine p_gK (p_pF (ji := 5) rfl (fun M6 h6 => ?_))
    have b0 : IB M0 v ps.length 0 M6 := by
      refine ⟨by rw [st_n h6, nw_n hM1]; omega, fun b hb => ⟨by rw [st_k h6, nw_k hM1 (by omega)], fun j => by rw [st_ne h6 (fun z => by omega), nw_g hM1 (by omega)]⟩, by rw [st_k h6]; exact kt, fun i i0 i1 => by omega, fun i i0 i1 => by omega, st_eq h6, fun i j i0 i1 => by omega⟩
    refine p_some (fun b14 e14 => ?_)
    have e14 : b14 = (ps.length : Int) := by rw [e14]; split <;> omega
    subst e14
    have stp : ∀ (k : Int) (kn : Nat) (M : Mem) (f : Int × Mem → Mem → Option (Int × Mem)), (kn : Int) = k → 0 ≤ k → k ≤ 4 → IB M0 v ps.length k M → (∀ M2 q, IB M0 v ps.length (k + 1) M2 → pw (f q M2) (fun q => IB M0 v ps.length 5 q.2)) → pw ((nA 10 40 M (ps.length : Int)).bind fun q17 => (pF 5 kn q17.2 v q17.1).bind fun M19 => f q17 M19) (fun q => IB M0 v ps.length 5 q.2) := by
      intro k kn M f ek k0 k1 hb hf
      refine p_call (P := fun q => q.1 = (mN M : Int) + 1 ∧ q.2 = mNew M (10, ps.length)) ?_ (fun a M2 h => ?_)
      · unfold nA
        exact p_if (fun _ => p_ret ⟨rfl, by show mNew M (10, ((ps.length : Int)).toNat) = _; rw [Int.toNat_natCast]⟩) (fun _ => p_none)
      · obtain ⟨ha, h2⟩ := h
        have ha : a = (mN M : Int) + 1 := ha
        have h2 : M2 = mNew M (10, ps.length) := h2
        dsimp only
        refine p_pF (ji := k) ek (fun M3 h3 => ?_)
        exact hf M3 _ (hb.step ⟨k0, k1⟩ h2 (by rw [h3, ha]))
    refine stp 0 0 M6 _ rfl (by decide) (by decide) b0 (fun Ma qa ba => ?_)
    refine stp 1 1 Ma _ rfl (by decide) (by decide) ba (fun Mb qb bb => ?_)
    refine stp 2 2 Mb _ rfl (by decide) (by decide) bb (fun Mc qc bc => ?_)
    refine stp 3 3 Mc _ rfl (by decide) (by decide) bc (fun Md qd bd => ?_)
    refine stp 4 4 Md _ rfl (by decide) (by decide) bd (fun Me qe be => ?_)
    exact p_ret be
  · have hb : IB M0 v ps.length 5 m := hb
    dsimp only
    obtain ⟨a1, a2, a3, a4, a5, a6, a7⟩ := hb
    exact loop FU 0 m ⟨a1, a2, a3, a4, a5, a6, fun j => by rw [a7 5 j (by decide) (by decide)]; decide, fun i j _ _ j0 j1 => by omega⟩ (by decide) (by omega)
/-- what the class reads of -/
def eC (M : Mem) : RE := ⟨mG M 13, mG M 3 5, mG M 4 6, mG M 6, mG M 7⟩
theorem q_read {M : Mem} (iM : I n M) : pw (mX2_read 65 3 M) (fun q => (q.1 = 0 ∧ ¬ mG q.2 3 6 = 0 ∧ (eC M).rText = none) ∨ ∃ ps, (eC M).rText = some ps ∧ 169 < q.1 ∧ TT ps q.1 q.2) := by
  have hn : (169 : Int) ≤ (n : Int) := by have := iM.2.2.2.2.1; omega
  obtain ⟨E, hE⟩ : ∃ E, E = eC M := ⟨_, rfl⟩
  rw [← hE]
  have en : E.n = mG M 3 5 := by rw [hE]; rfl
  have et : ∀ i, E.t i = mG M 13 i := fun i => by rw [hE]; rfl
  have er : E.nr = mG M 4 6 := by rw [hE]; rfl
  have e1 : ∀ i, E.k1 i = mG M 6 i := fun i => by rw [hE]; rfl
  have e2 : ∀ i, E.k2 i = mG M 7 i := fun i => by rw [hE]; rfl
  have r5 := rd_Told_5 iM (a := 3) rfl
  have r6 := rd_Shape_6 iM (a := 4) rfl
  unfold mX2_read
  refine p_pF (ji := 0) rfl (fun M1 h1 => ?_)
  have i1 : I n M1 := wr_Reader_0 iM rfl (Or.inr rfl) h1
  have e10 : mG M1 65 0 = 3 := st_eq h1
  refine p_gFc (ji := 0) rfl e10 (p_gFc (ji := 4) rfl (rd_Told_4 i1 (a := 3) rfl) (p_pF (ji := 1) rfl (fun M2 h2 => ?_)))
  have i2 : I n M2 := wr_Reader_1 i1 rfl (Or.inr rfl) h2
  have e20 : mG M2 65 0 = 3 := (st_ne h2 (fun z => absurd z.2 (by decide))).trans e10
  have g2 : ∀ b j : Int, ¬ b = 65 → mG M2 b j = mG M b j := fun b j hb => (st_ne h2 (fun z => hb z.1)).trans (st_ne h1 (fun z => hb z.1))
  refine p_gFc (ji := 0) rfl e20 (p_gFc (ji := 5) rfl ((g2 3 5 (by decide)).trans en.symm) (p_pF (ji := 2) rfl (fun M3 h3 => ?_)))
  have i3 : I n M3 := wr_Reader_2 i2 rfl (by omega) h3
  have e30 : mG M3 65 0 = 3 := (st_ne h3 (fun z => absurd z.2 (by decide))).trans e20
  refine p_gFc (ji := 0) rfl e30 (p_gFc (ji := 0) rfl (rd_Told_0 i3 (a := 3) rfl) (p_pF (ji := 3) rfl (fun M4 h4 => ?_)))
  have i4 : I n M4 := wr_Reader_3 i3 rfl (Or.inr rfl) h4
  have g4 : ∀ b j : Int, ¬ b = 65 → mG M4 b j = mG M b j := fun b j hb => (st_ne h4 (fun z => hb z.1)).trans ((st_ne h3 (fun z => hb z.1)).trans (g2 b j hb))
  have r4 : RR M4 := by
    refine ⟨(st_ne h4 (fun z => absurd z.2 (by decide))).trans e30, ?_, st_eq h4⟩
    rw [st_ne h4 (fun z => absurd z.2 (by decide)), st_ne h3 (fun z => absurd z.2 (by decide))]; exact st_eq h2
  have l4 : mG M4 65 2 = E.n := (st_ne h4 (fun z => absurd z.2 (by decide))).trans (st_eq h3)
  refine p_gFc (ji := 0) rfl r4.1 (p_gK ?_)
  refine p_call (P := fun q => I n q.2 ∧ mG q.2 3 6 = 0 ∧ (∀ b j : Int, ¬ b = 3 → mG q.2 b j = mG M4 b j)) ?_ (fun q m h => ?_)
  · unfold mX6_clearTape
    refine p_pF (ji := 5) rfl (fun M5 h5 => p_pF (ji := 6) rfl (fun M6 h6 => p_pF (ji := 7) rfl (fun M7 h7 => ?_)))
    have i5 : I n M5 := wr_Told_5 i4 rfl (by decide) h5
    have i6 : I n M6 := wr_Told_6 i5 rfl (by decide) h6
    have i7 : I n M7 := wr_Told_7 i6 rfl (by decide) h7
    refine p_ret ⟨i7, ?_, fun b j hb => ?_⟩
    · show mG M7 3 6 = 0
      rw [st_ne h7 (fun z => absurd z.2 (by decide))]; exact st_eq h6
    · show mG M7 b j = _
      rw [st_ne h7 (fun z => hb z.1), st_ne h6 (fun z => hb z.1), st_ne h5 (fun z => hb z.1)]
  obtain ⟨im, z6, gm⟩ := h
  have im : I n m := im
  have z6 : mG m 3 6 = 0 := z6
  have gm : ∀ b j : Int, ¬ b = 3 → mG m b j = mG M4 b j := gm
  have rm : RR m := RR_of r4 (gm _ _ (by decide)) (gm _ _ (by decide)) (gm _ _ (by decide))
  dsimp only
  refine p_pZ (ji := 4) rfl (fun M5 h5 => p_gFc (ji := 5) (r := 66) rfl ((st_ne h5 (fun z => absurd z.2 (by decide))).trans (rd_Reader_5 im (a := 65) rfl)) (p_pF (ji := 5) rfl (fun M6 h6 => p_pF (ji := 10) rfl (fun M7 h7 => p_pF (ji := 7) rfl (fun M8 h8 => p_gK ?_)))))
  have i5 : I n M5 := wr_Reader_4 im rfl (by decide) h5
  have i6 : I n M6 := wr_Draft_5 i5 rfl (by decide) h6
  have i7 : I n M7 := wr_Reader_10 i6 rfl (by decide) h7
  have i8 : I n M8 := wr_Reader_7 i7 rfl (by decide) h8
  have g8 : ∀ b j : Int, ¬ (b = 65 ∧ 4 ≤ j) → ¬ (b = 66 ∧ j = 5) → mG M8 b j = mG m b j := fun b j x y => by
    rw [st_ne h8 (fun z => x ⟨z.1, by omega⟩), st_ne h7 (fun z => x ⟨z.1, by omega⟩), st_ne h6 y, st_ne h5 (fun z => x ⟨z.1, by omega⟩)]
  have r8 : RR M8 := RR_of rm (g8 _ _ (by omega) (by omega)) (g8 _ _ (by omega) (by omega)) (g8 _ _ (by omega) (by omega))
  have z84 : mG M8 65 4 = 0 := by rw [st_ne h8 (fun z => absurd z.2 (by decide)), st_ne h7 (fun z => absurd z.2 (by decide)), st_ne h6 (fun z => absurd z.1 (by decide))]; exact st_eq h5
  have z87 : mG M8 65 7 = 0 := st_eq h8
  have z8a : mG M8 65 10 = 0 := (st_ne h8 (fun z => absurd z.2 (by decide))).trans (st_eq h7)
  have z85 : mG M8 66 5 = 0 := by rw [st_ne h8 (fun z => absurd z.1 (by decide)), st_ne h7 (fun z => absurd z.1 (by decide))]; exact st_eq h6
  have gg : ∀ b j : Int, ¬ b = 65 → ¬ b = 66 → ¬ b = 3 → mG M8 b j = mG M b j := fun b j x y w => (g8 b j (by omega) (by omega)).trans ((gm b j w).trans (g4 b j x))
  refine p_call (P := fun q => I n q.2 ∧ (∀ b j : Int, ¬ (b = 65 ∧ j = 7) → ¬ b = 72 → mG q.2 b j = mG M8 b j) ∧ mG q.2 65 7 = 1 ∧ mG q.2 72 0 = 0) ?_ (fun q9 m9 h => ?_)
  · refine p_mono (p_and (p_wp (s_X2_expectPart (l1 := 0) (by decide) r8 i8)) (Q := fun q => (∀ b j : Int, ¬ (b = 65 ∧ j = 7) → ¬ b = 72 → mG q.2 b j = mG M8 b j) ∧ mG q.2 65 7 = 1 ∧ mG q.2 72 0 = 0) ?_) (fun q h => ⟨h.1.1, h.2⟩)
    unfold mX2_expectPart
    refine p_gFc (ji := 7) rfl z87 (p_gFc (ji := 6) rfl (r8.ac i8).2.2.2.2.1 (p_aL (fun v hv => p_if (fun c => ?_) (fun c => ?_))))
    · have e : (mK M8 72).2 = 402 := congrArg Prod.snd (kl_72 i8)
      rw [e] at hv
      omega
    refine p_gFc (ji := 6) rfl (r8.ac i8).2.2.2.2.1 (p_gFc (ji := 7) rfl z87 (p_aS (fun M9 h9 => ?_)))
    refine p_gFc (ji := 7) rfl ((st_ne h9 (fun z => absurd z.1 (by decide))).trans z87) (p_pF (ji := 7) rfl (fun Ma ha => p_ret ⟨fun b j x y => ?_, (st_eq ha).trans rfl, ?_⟩))
    · exact (st_ne ha x).trans (st_ne h9 (fun z => y z.1))
    · exact (st_ne ha (fun z => absurd z.1 (by decide))).trans (st_eq h9)
  obtain ⟨i9, g9, z97, z90⟩ := h
  have i9 : I n m9 := i9
  have g9 : ∀ b j : Int, ¬ (b = 65 ∧ j = 7) → ¬ b = 72 → mG m9 b j = mG M8 b j := g9
  have z97 : mG m9 65 7 = 1 := z97
  have z90 : mG m9 72 0 = 0 := z90
  have r9 : RR m9 := RR_of r8 (g9 _ _ (by omega) (by decide)) (g9 _ _ (by omega) (by decide)) (g9 _ _ (by omega) (by decide))
  have ga : ∀ b j : Int, ¬ b = 65 → ¬ b = 66 → ¬ b = 3 → ¬ b = 72 → mG m9 b j = mG M b j := fun b j x y w v => (g9 b j (by omega) v).trans (gg b j x y w)
  have ce : CE E m9 := by
    refine ⟨r9.ac i9, ?_, by omega, fun i i0 i1 => (ga 13 i (by decide) (by decide) (by decide) (by decide)).trans (et i).symm, (ga 4 6 (by decide) (by decide) (by decide) (by decide)).trans er.symm, by omega, ⟨rd_Shape_1 i9 (a := 4) rfl, rd_Shape_2 i9 (a := 4) rfl⟩, fun r r0 r1 => ⟨(ga 6 r (by decide) (by decide) (by decide) (by decide)).trans (e1 r).symm, (ga 7 r (by decide) (by decide) (by decide) (by decide)).trans (e2 r).symm⟩, congrArg Prod.snd (kl_67 i9), congrArg Prod.snd (kl_72 i9)⟩
    rw [g9 65 2 (by omega) (by decide), g8 65 2 (by omega) (by omega), gm 65 2 (by decide)]; exact l4
  have f6 : mG m9 3 6 = 0 := (g9 3 6 (by omega) (by decide)).trans ((g8 3 6 (by omega) (by omega)).trans z6)
  have bf : BFI m9 := fun y => absurd ((g9 65 4 (by omega) (by decide)).trans z84) y
  refine p_gK (p_call (p_and (p_wp (s_X2_advance r9 i9)) (q_advance ce ((g9 65 10 (by omega) (by decide)).trans z8a) ⟨by decide, by omega⟩)) (fun qa ma h => ?_))
  obtain ⟨⟨ia, -⟩, af, ct⟩ := h
  have ia : I n ma := ia
  have af : AF m9 ma := af
  have ct : CTok E (E.sk 0) ma := ct
  have c2 : C2 E (E.sk 0) ma := ⟨af.ce ce, fun y => by rw [af.1 3 6 (by omega)]; exact bf (by rw [← af.1 65 4 (by omega)]; exact y), (af.1 3 6 (by omega)).trans f6, ct⟩
  have d0 : D8 [] ma := ⟨(af.1 66 5 (by omega)).trans ((g9 66 5 (by omega) (by decide)).trans z85), fun k r hr => by cases hr⟩
  have w0 : W8 [((0 : Int), (255 : Int))] ma := ⟨(af.1 65 7 (by omega)).trans z97, fun k x hx => by
    cases k with
    | zero =>
      have hx : ((0 : Int), (255 : Int)) = x := Option.some.inj hx
      subst hx
      exact (af.1 72 _ (by omega)).trans z90
    | succ k => cases hx⟩
  have tx : E.rText = (E.rLoop 42 ⟨E.sk 0, [(0, 255)], []⟩).bind E.rEnd := rfl
  refine q_79 (E := E) FU ⟨E.sk 0, [(0, 255)], []⟩ ma ia c2 d0 w0 (fun x hx => ?_) (by show 0 ≤ 40; decide) (by show 1 ≤ 0 + 1; decide) 42 (by show 42 ≤ 42 + 0; decide) _ (fun q q0 z e => Or.inl ⟨q0, z.2.2, tx.trans e⟩) (fun S' M' e hb i' c' d' hl => ?_)
  · have hx : x ∈ [((0 : Int), (255 : Int))] := hx
    rw [List.mem_singleton] at hx
    subst hx; exact ScR.start
  · have et : E.rText = some S'.ps := by
      rw [tx, e]
      exact if_pos hb
    have tyy := rText_ty (by omega) (by omega) et
    unfold mX2_read_121
    refine p_gFc (ji := 0) rfl c'.ac.1 (p_gFc (ji := 6) rfl c'.2.2.1 (p_it1 rfl (p_gFc (ji := 5) rfl c'.ac.2.2.2.1 (p_gK (p_call (q_finished (ps := S'.ps) i' d'.1 (fun k r hr => ⟨tyy.c0 _ _ r (List.mem_of_getElem? hr), d'.2 k r hr⟩) hl) (fun r m h => p_ret (Or.inr ⟨S'.ps, et, h⟩)))))))
end
