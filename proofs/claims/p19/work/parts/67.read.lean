/-! ===== the class's read, story, guess ===== -/
theorem I.ext {n : Nat} {M M' : Mem} (h : I n M) (hk : ∀ b : Int, b ≤ (n : Int) → mK M' b = mK M b ∧ ∀ j, mG M' b j = mG M b j) (hn : n ≤ mN M') : I n M' := by
  obtain ⟨h1, h2, ⟨h3, h4, h5⟩, h6, h7, h8⟩ := h
  have tx : ∀ t : Int, TX n M t → TX n M' t := fun t ht => ht.of (Nat.le_refl _) (fun b _ hb => (hk b hb).1) (fun b j _ hb => (hk b hb).2 j)
  refine ⟨fun b hb => by rw [(hk _ (by omega)).1]; exact h1 b hb, fun a j => ?_, ⟨fun t j ht hj hj2 => ?_, fun t ht => ?_, ?_⟩, hn, h7, ?_⟩
  · by_cases e : a ≤ 169
    · rw [(hk a (by omega)).2]; exact h2 a j
    · rw [fam_out (by omega)]; trivial
  · have : t ≤ 109 := by unfold isTold at ht; omega
    rw [(hk _ (by omega)).2]; exact tx _ (h3 t j ht hj hj2)
  · have : t ≤ 109 := by unfold isTold at ht; omega
    rw [(hk _ (by omega)).2]; exact tx _ (h4 t ht)
  · rw [(hk _ (by omega)).2]; exact tx _ h5
  · intro k k0 k1 e j j0 j1
    rw [(hk _ (by omega)).2] at e
    rw [(hk _ (by omega)).2]
    exact h8 k k0 k1 e j j0 j1
theorem Keep.less {n n' : Nat} {W : Int → Int → Prop} {M M' : Mem} (h : Keep n' W M M') (hn : n ≤ n') : Keep n W M M' := ⟨fun b hb => h.1 b (by omega), h.2.1, fun b j hb hw => h.2.2 b j (by omega) hw⟩
/-- what read answers -/
def RD (n : Nat) (M : Mem) (q : Int × Mem) : Prop := ∃ n' : Nat, n ≤ n' ∧ I n' q.2 ∧ Keep n W_X2_read M q.2 ∧ TX n' q.2 q.1 ∧ mG q.2 3 5 = 0
theorem P2.rr {M M' : Mem} (h : P2 M M') (r : RR M) : RR M' := RR_of r (h.1 65 0 (by omega) (by omega) (by decide) (by omega) (by omega)) (h.1 65 1 (by omega) (by omega) (by decide) (by omega) (by omega)) (h.1 65 3 (by omega) (by omega) (by decide) (by omega) (by omega))
theorem s_X2_read {n : Nat} {M : Mem} (iM : I n M) : wp (mX2_read 65 3 M) (RD n M) := by
  have hn : (169 : Int) ≤ (n : Int) := by have := iM.2.2.2.2.1; omega
  have t121 : ∀ M' : Mem, I n M' → RR M' → Keep n W_X2_read M M' → mG M' 3 5 = 0 → (mG M' 3 6 = 0 → 1 ≤ mG M' 66 5 ∧ mG M' 66 5 ≤ 40) → wp (mX2_read_121 65 M') (RD n M) := by
    intro M' i r k z hp
    unfold mX2_read_121
    refine w_gFc (ji := 0) rfl (congrArg Prod.fst (kl_65 i)) r.1 ?_
    refine w_gF (ji := 6) rfl (congrArg Prod.fst (kl_3 i)) (fun v hv => ?_)
    refine w_if (fun c => ?_) (fun c => ?_)
    · obtain ⟨p1, p2⟩ := hp (hv.e.trans c)
      obtain ⟨np, e⟩ := Int.eq_ofNat_of_zero_le (a := mG M' 66 5) (by omega)
      refine w_gFc (ji := 5) rfl (congrArg Prod.fst (kl_65 i)) (rd_Reader_5 i (a := 65) rfl) ?_
      refine w_gK (congrArg Prod.fst (kl_66 i)) ?_
      refine w_call (x_finished i e (by omega) (by omega)) ?_
      rintro q m ⟨eq, tb⟩
      have eq : q = (mN M' : Int) + 1 := eq
      have tb : TB M' ((mN M' : Int) + 1) np np m := tb
      have hN : n ≤ mN M' := i.2.2.2.1
      have eN : (mN m : Int) = (mN M' : Int) + 1 + 5 := tb.1
      have i2 : I n m := i.ext (fun b hb => tb.2.1 b (by omega)) (by omega)
      refine w_ret ⟨mN m, by omega, i2.up (by omega) (Nat.le_refl _), ⟨fun b hb => (tb.2.1 b (by omega)).1.trans (k.1 b hb), Nat.le_trans k.2.1 (show mN M' ≤ mN m from by omega), fun b j hb hw => ((tb.2.1 b (by omega)).2 j).trans (k.2.2 b j hb hw)⟩, Or.inr ⟨by show 169 < q; omega, by show q + 5 ≤ (mN m : Int); omega, np, ?_⟩, ((tb.2.1 3 (by omega)).2 5).trans z⟩
      show TextN m q np
      rw [eq]
      exact tb.text (by omega) (by omega)
    · exact w_ret ⟨n, Nat.le_refl _, i, k, Or.inl rfl, z⟩
  have t110 : ∀ M' : Mem, I n M' → RR M' → Keep n W_X2_read M M' → mG M' 3 5 = 0 → BFI M' → (mG M' 3 6 = 0 → 1 ≤ mG M' 66 5 ∧ mG M' 66 5 ≤ 40) → wp (mX2_read_110 65 M') (RD n M) := by
    intro M' i r k z b hp
    unfold mX2_read_110
    refine w_gF (ji := 8) rfl (congrArg Prod.fst (kl_65 i)) (fun v hv => ?_)
    refine w_if (fun c => t121 M' i r k z hp) (fun c => ?_)
    refine w_gK (congrArg Prod.fst (kl_65 i)) ?_
    refine w_call (w_pw (s_X2_refuse r i) (pu_refuse (r.ac i))) ?_
    rintro q m ⟨⟨i2, k2, -⟩, t2, f2, -⟩
    have i2 : I n m := i2
    have k2 : Keep n W_X2_refuse M' m := k2
    have t2 : T2 M' m := t2
    have f2 : ¬ mG m 3 6 = 0 := f2 b
    exact t121 m i2 (t2.p.rr r) (k.tr k2 (fun b j z => by unfold W_X2_refuse at z; exact (show W_X2_read b j from Or.elim z (fun z => (Or.inr (Or.inr (Or.inr (Or.inl z))))) (fun z => Or.elim z (fun z => (Or.inr (Or.inr (Or.inr (Or.inr (Or.inl z)))))) (fun z => (Or.inr (Or.inr (Or.inr (Or.inr (Or.inr (Or.inr (Or.inr (Or.inr (Or.inr (Or.inr (Or.inr (Or.inl z))))))))))))))))) ((t2.1 3 5 (by omega) (by omega) (by decide)).trans z) (fun y => absurd y f2)
  have loop : ∀ (fu : Nat) (l2 : Int) (M' : Mem), 0 ≤ l2 → l2 ≤ 401 → 402 - l2 < (fu : Int) → I n M' → RR M' → Keep n W_X2_read M M' → BFI M' → mG M' 66 5 ≤ l2 → (mG M' 3 6 = 0 → l2 ≤ mG M' 66 5 ∧ mG M' 66 5 ≤ 40) → (l2 = 0 → 1 ≤ mG M' 65 7) → mG M' 3 5 = 0 → wp (mX2_read_79 fu 65 l2 M') (RD n M) := by
    intro fu
    induction fu with
    | zero => intro l2 M' _ _ hf; exfalso; omega
    | succ fu ih =>
      intro l2 M' b0 b1 hf i r k bf h5 hp hw z
      show wp (bX2_read_79 (mX2_read_79 fu) 65 l2 M') _
      unfold bX2_read_79
      refine w_if (fun c => t110 M' i r k z bf (fun y => by have := hp y; omega)) (fun c => ?_)
      refine w_gF (ji := 7) rfl (congrArg Prod.fst (kl_65 i)) (fun w hw7 => ?_)
      have hw7 := hw7.e
      refine w_if (fun c2 => t110 M' i r k z bf (fun y => ?_)) (fun c2 => ?_)
      · have := hp y
        have : ¬ l2 = 0 := fun y2 => by have := hw y2; omega
        omega
      refine w_gF (ji := 4) rfl (congrArg Prod.fst (kl_65 i)) (fun w4 hw4 => ?_)
      have hw4 := hw4.e
      refine w_if (fun c3 => ?_) (fun c3 => t110 M' i r k z bf (fun y => absurd y (bf (by rw [hw4]; exact c3))))
      have r5 := rd_Draft_5 i (a := 66) rfl
      refine w_gK (congrArg Prod.fst (kl_65 i)) ?_
      refine w_call (w_pw (s_X2_readPart (by omega) (by omega) r i) (pu_readPart (r.ac i) (by omega))) ?_
      rintro q m ⟨⟨i2, k2, n2, -⟩, p2, g2⟩
      have i2 : I n m := i2
      have k2 : Keep n W_X2_readPart M' m := k2
      have n2 : mG m 66 5 ≤ mG M' 66 5 + 1 := n2
      have p2 : P2 M' m := p2
      have g2 : mG m 3 6 = 0 → mG m 66 5 = mG M' 66 5 + 1 ∧ mG M' 66 5 < 40 := g2 bf
      have w1 := wI_id (x := l2 + 1) (by omega) (by omega)
      dsimp only
      rw [w1]
      refine ih _ m (by omega) (by omega) (by have : ((fu + 1 : Nat) : Int) = (fu : Int) + 1 := rfl; omega) i2 (p2.rr r) (k.tr k2 (fun b j z => by unfold W_X2_readPart at z; exact (show W_X2_read b j from Or.elim z (fun z => (Or.inl z)) (fun z => Or.elim z (fun z => (Or.inr (Or.inl z))) (fun z => Or.elim z (fun z => (Or.inr (Or.inr (Or.inr (Or.inl z))))) (fun z => Or.elim z (fun z => (Or.inr (Or.inr (Or.inr (Or.inr (Or.inl z)))))) (fun z => Or.elim z (fun z => (Or.inr (Or.inr (Or.inr (Or.inr (Or.inr (Or.inr (Or.inr (Or.inl z))))))))) (fun z => Or.elim z (fun z => (Or.inr (Or.inr (Or.inr (Or.inr (Or.inr (Or.inr (Or.inr (Or.inr (Or.inl z)))))))))) (fun z => Or.elim z (fun z => (Or.inr (Or.inr (Or.inr (Or.inr (Or.inr (Or.inr (Or.inr (Or.inr (Or.inr (Or.inr (Or.inr (Or.inl z))))))))))))) (fun z => Or.elim z (fun z => (Or.inr (Or.inr (Or.inr (Or.inr (Or.inr (Or.inr (Or.inr (Or.inr (Or.inr (Or.inr (Or.inr (Or.inr (Or.inl z)))))))))))))) (fun z => Or.elim z (fun z => (Or.inr (Or.inr (Or.inr (Or.inr (Or.inr (Or.inr (Or.inr (Or.inr (Or.inr (Or.inr (Or.inr (Or.inr (Or.inr (Or.inl z))))))))))))))) (fun z => Or.elim z (fun z => (Or.inr (Or.inr (Or.inr (Or.inr (Or.inr (Or.inr (Or.inr (Or.inr (Or.inr (Or.inr (Or.inr (Or.inr (Or.inr (Or.inr (Or.inl z)))))))))))))))) (fun z => (Or.inr (Or.inr (Or.inr (Or.inr (Or.inr (Or.inr (Or.inr (Or.inr (Or.inr (Or.inr (Or.inr (Or.inr (Or.inr (Or.inr (Or.inr z)))))))))))))))))))))))))))) (p2.2.2 bf) (by omega) (fun y => ?_) (fun y => by omega) ((p2.1 3 5 (by omega) (by omega) (by decide) (by omega) (by omega)).trans z)
      have y1 : mG M' 3 6 = 0 := Decidable.byContradiction fun x => p2.2.1 x y
      have := hp y1
      have := g2 y
      omega
  unfold mX2_read
  refine w_pF (ji := 0) rfl (congrArg Prod.fst (kl_65 iM)) (fun M1 h1 => ?_)
  have i1 : I n M1 := wr_Reader_0 iM rfl (Or.inr rfl) h1
  have k1 : Keep n W_X2_read M M1 := Keep.rf.st h1 (Or.inl (show W_X2_read 65 0 from (Or.inr (Or.inr (Or.inr (Or.inr (Or.inr (Or.inl ⟨rfl, rfl⟩))))))))
  have e10 : mG M1 65 0 = 3 := st_eq h1
  refine w_gFc (ji := 0) rfl (congrArg Prod.fst (kl_65 i1)) e10 ?_
  refine w_gFc (ji := 4) rfl (congrArg Prod.fst (kl_3 i1)) (rd_Told_4 i1 (a := 3) rfl) ?_
  refine w_pF (ji := 1) rfl (congrArg Prod.fst (kl_65 i1)) (fun M2 h2 => ?_)
  have i2 : I n M2 := wr_Reader_1 i1 rfl (Or.inr rfl) h2
  have k2 : Keep n W_X2_read M M2 := k1.st h2 (Or.inl (show W_X2_read 65 1 from (Or.inr (Or.inr (Or.inr (Or.inr (Or.inr (Or.inr (Or.inl ⟨rfl, rfl⟩)))))))))
  have e20 : mG M2 65 0 = 3 := (st_ne h2 (fun z => absurd z.2 (by decide))).trans e10
  refine w_gFc (ji := 0) rfl (congrArg Prod.fst (kl_65 i2)) e20 ?_
  refine w_gF (ji := 5) rfl (congrArg Prod.fst (kl_3 i2)) (fun v5 hv5 => ?_)
  have r5 := hv5.tr (P := fun z => 0 ≤ z ∧ z ≤ 400) (rd_Told_5 i2 (a := 3) rfl)
  refine w_pF (ji := 2) rfl (congrArg Prod.fst (kl_65 i2)) (fun M3 h3 => ?_)
  have i3 : I n M3 := wr_Reader_2 i2 rfl r5 h3
  have k3 : Keep n W_X2_read M M3 := k2.st h3 (Or.inl (show W_X2_read 65 2 from (Or.inr (Or.inr (Or.inr (Or.inr (Or.inr (Or.inr (Or.inr (Or.inr (Or.inr (Or.inl ⟨rfl, rfl⟩))))))))))))
  have e30 : mG M3 65 0 = 3 := (st_ne h3 (fun z => absurd z.2 (by decide))).trans e20
  refine w_gFc (ji := 0) rfl (congrArg Prod.fst (kl_65 i3)) e30 ?_
  refine w_gFc (ji := 0) rfl (congrArg Prod.fst (kl_3 i3)) (rd_Told_0 i3 (a := 3) rfl) ?_
  refine w_pF (ji := 3) rfl (congrArg Prod.fst (kl_65 i3)) (fun M4 h4 => ?_)
  have i4 : I n M4 := wr_Reader_3 i3 rfl (Or.inr rfl) h4
  have k4 : Keep n W_X2_read M M4 := k3.st h4 (Or.inl (show W_X2_read 65 3 from (Or.inr (Or.inr (Or.inr (Or.inr (Or.inr (Or.inr (Or.inr (Or.inr (Or.inr (Or.inr (Or.inl ⟨rfl, rfl⟩)))))))))))))
  have r4 : RR M4 := by
    refine ⟨(st_ne h4 (fun z => absurd z.2 (by decide))).trans e30, ?_, st_eq h4⟩
    rw [st_ne h4 (fun z => absurd z.2 (by decide)), st_ne h3 (fun z => absurd z.2 (by decide))]; exact st_eq h2
  refine w_gFc (ji := 0) rfl (congrArg Prod.fst (kl_65 i4)) r4.1 ?_
  refine w_gK (congrArg Prod.fst (kl_3 i4)) ?_
  refine w_call (P := fun q => I n q.2 ∧ Keep n W_X6_clearTape M4 q.2 ∧ mG q.2 3 5 = 0 ∧ mG q.2 3 6 = 0) ?_ ?_
  · unfold mX6_clearTape
    refine w_pF (ji := 5) rfl (congrArg Prod.fst (kl_3 i4)) (fun M5 h5 => ?_)
    have i5 : I n M5 := wr_Told_5 i4 rfl (by decide) h5
    refine w_pF (ji := 6) rfl (congrArg Prod.fst (kl_3 i5)) (fun M6 h6 => ?_)
    have i6 : I n M6 := wr_Told_6 i5 rfl (by decide) h6
    refine w_pF (ji := 7) rfl (congrArg Prod.fst (kl_3 i6)) (fun M7 h7 => ?_)
    have i7 : I n M7 := wr_Told_7 i6 rfl (by decide) h7
    refine w_ret ⟨i7, ((Keep.rf.st h5 (Or.inl (show W_X6_clearTape 3 5 from (Or.inl ⟨rfl, rfl⟩)))).st h6 (Or.inl (show W_X6_clearTape 3 6 from (Or.inr (Or.inl ⟨rfl, rfl⟩))))).st h7 (Or.inl (show W_X6_clearTape 3 7 from (Or.inr (Or.inr ⟨rfl, rfl⟩)))), ?_, ?_⟩
    · rw [st_ne h7 (fun z => absurd z.2 (by decide)), st_ne h6 (fun z => absurd z.2 (by decide))]; exact st_eq h5
    · rw [st_ne h7 (fun z => absurd z.2 (by decide))]; exact st_eq h6
  · rintro q m ⟨im, km, z5, z6⟩
    have im : I n m := im
    have km : Keep n W_X6_clearTape M4 m := km
    have z5 : mG m 3 5 = 0 := z5
    have z6 : mG m 3 6 = 0 := z6
    dsimp only
    have gm : ∀ b j : Int, b ≤ 169 → ¬ b = 3 → mG m b j = mG M4 b j := fun b j hb hc => km.2.2 b j (by omega) (fun z => by unfold W_X6_clearTape at z; omega)
    have rm : RR m := RR_of r4 (gm _ _ (by decide) (by decide)) (gm _ _ (by decide) (by decide)) (gm _ _ (by decide) (by decide))
    have kmm : Keep n W_X2_read M m := k4.tr km (fun b j z => by unfold W_X6_clearTape at z; exact (show W_X2_read b j from Or.elim z (fun z => (Or.inr (Or.inr (Or.inl z)))) (fun z => Or.elim z (fun z => (Or.inr (Or.inr (Or.inr (Or.inl z))))) (fun z => (Or.inr (Or.inr (Or.inr (Or.inr (Or.inl z)))))))))
    refine w_pZ (ji := 4) rfl (congrArg Prod.fst (kl_65 im)) (Or.inl rfl) (fun M5 h5 => ?_)
    have i5 : I n M5 := wr_Reader_4 im rfl (by decide) h5
    have k5 : Keep n W_X2_read M M5 := kmm.st h5 (Or.inl (show W_X2_read 65 4 from (Or.inr (Or.inr (Or.inr (Or.inr (Or.inr (Or.inr (Or.inr (Or.inr (Or.inr (Or.inr (Or.inr (Or.inl ⟨rfl, rfl⟩))))))))))))))
    refine w_gFc (ji := 5) rfl (congrArg Prod.fst (kl_65 i5)) (rd_Reader_5 i5 (a := 65) rfl) ?_
    refine w_pF (ji := 5) rfl (congrArg Prod.fst (kl_66 i5)) (fun M6 h6 => ?_)
    have i6 : I n M6 := wr_Draft_5 i5 rfl (by decide) h6
    have k6 : Keep n W_X2_read M M6 := k5.st h6 (Or.inl (show W_X2_read 66 5 from (Or.inr (Or.inr (Or.inr (Or.inr (Or.inr (Or.inr (Or.inr (Or.inr (Or.inr (Or.inr (Or.inr (Or.inr (Or.inr (Or.inr (Or.inr ⟨rfl, rfl⟩)))))))))))))))))
    refine w_pF (ji := 10) rfl (congrArg Prod.fst (kl_65 i6)) (fun M7 h7 => ?_)
    have i7 : I n M7 := wr_Reader_10 i6 rfl (by decide) h7
    have k7 : Keep n W_X2_read M M7 := k6.st h7 (Or.inl (show W_X2_read 65 10 from (Or.inr (Or.inr (Or.inr (Or.inr (Or.inr (Or.inr (Or.inr (Or.inl ⟨rfl, rfl⟩))))))))))
    refine w_pF (ji := 7) rfl (congrArg Prod.fst (kl_65 i7)) (fun M8 h8 => ?_)
    have i8 : I n M8 := wr_Reader_7 i7 rfl (by decide) h8
    have k8 : Keep n W_X2_read M M8 := k7.st h8 (Or.inl (show W_X2_read 65 7 from (Or.inr (Or.inr (Or.inr (Or.inr (Or.inr (Or.inr (Or.inr (Or.inr (Or.inr (Or.inr (Or.inr (Or.inr (Or.inl ⟨rfl, rfl⟩)))))))))))))))
    have g8 : ∀ b j : Int, ¬ (b = 65 ∧ 4 ≤ j) → ¬ (b = 66 ∧ j = 5) → mG M8 b j = mG m b j := fun b j x y => by
      rw [st_ne h8 (fun z => x ⟨z.1, by omega⟩), st_ne h7 (fun z => x ⟨z.1, by omega⟩), st_ne h6 y, st_ne h5 (fun z => x ⟨z.1, by omega⟩)]
    have r8 : RR M8 := RR_of rm (g8 _ _ (by omega) (by omega)) (g8 _ _ (by omega) (by omega)) (g8 _ _ (by omega) (by omega))
    have z84 : mG M8 65 4 = 0 := by rw [st_ne h8 (fun z => absurd z.2 (by decide)), st_ne h7 (fun z => absurd z.2 (by decide)), st_ne h6 (fun z => absurd z.1 (by decide))]; exact st_eq h5
    have z87 : mG M8 65 7 = 0 := st_eq h8
    have z85 : mG M8 66 5 = 0 := by rw [st_ne h8 (fun z => absurd z.1 (by decide)), st_ne h7 (fun z => absurd z.1 (by decide))]; exact st_eq h6
    refine w_gK (congrArg Prod.fst (kl_65 i8)) ?_
    refine w_call (P := fun q => (I n q.2 ∧ Keep n W_X2_expectPart M8 q.2 ∧ True) ∧ (T2 M8 q.2) ∧ mG q.2 65 7 = 1 ∧ mG q.2 65 4 = 0 ∧ mG q.2 3 6 = 0) ?_ ?_
    · refine w_mono (w_pw (w_pw (s_X2_expectPart (l1 := 0) (by decide) r8 i8) (pu_expectPart (r8.ac i8))) (Q := fun q => mG q.2 65 7 = 1 ∧ mG q.2 65 4 = 0 ∧ mG q.2 3 6 = 0) ?_) (fun q h => ⟨h.1.1, h.1.2, h.2⟩)
      unfold mX2_expectPart
      refine p_gFc (ji := 7) rfl z87 ?_
      refine p_gFc (ji := 6) rfl (r8.ac i8).2.2.2.2.1 (p_aL (fun v hv => p_if (fun c => ?_) (fun c => ?_)))
      · have e : (mK M8 72).2 = 402 := congrArg Prod.snd (kl_72 i8)
        rw [e] at hv
        omega
      refine p_gFc (ji := 6) rfl (r8.ac i8).2.2.2.2.1 (p_gFc (ji := 7) rfl z87 (p_aS (fun M9 h9 => ?_)))
      refine p_gFc (ji := 7) rfl ((st_ne h9 (fun z => absurd z.1 (by decide))).trans z87) (p_pF (ji := 7) rfl (fun Ma ha => p_ret ⟨(st_eq ha).trans rfl, ?_, ?_⟩))
      · rw [st_ne ha (fun z => absurd z.2 (by decide)), st_ne h9 (fun z => absurd z.1 (by decide))]; exact z84
      · rw [st_ne ha (fun z => absurd z.1 (by decide)), st_ne h9 (fun z => absurd z.1 (by decide)), g8 _ _ (by omega) (by omega)]; exact z6
    · rintro q9 m9 ⟨⟨i9, k9, -⟩, t9, z97, z94, z96⟩
      have i9 : I n m9 := i9
      have k9 : Keep n W_X2_expectPart M8 m9 := k9
      have t9 : T2 M8 m9 := t9
      have z97 : mG m9 65 7 = 1 := z97
      have z94 : mG m9 65 4 = 0 := z94
      have z96 : mG m9 3 6 = 0 := z96
      have r9 := t9.p.rr r8
      refine w_gK (congrArg Prod.fst (kl_65 i9)) ?_
      refine w_call (w_pw (s_X2_advance r9 i9) pu_advance) ?_
      rintro qa ma ⟨⟨ia, ka, -⟩, ta⟩
      have ia : I n ma := ia
      have ka : Keep n W_X2_advance m9 ma := ka
      have ta : T2 m9 ma := ta
      dsimp only
      have ga : ∀ b j : Int, b ≤ 169 → ¬ (b = 65 ∧ 8 ≤ j) → mG ma b j = mG m9 b j := fun b j hb hc => ka.2.2 b j (by omega) (fun z => by unfold W_X2_advance at z; omega)
      have za6 : mG ma 3 6 = 0 := (ga _ _ (by decide) (by omega)).trans z96
      have za5 : mG ma 66 5 = 0 := by rw [ga _ _ (by decide) (by omega), t9.np]; exact z85
      refine loop FU 0 ma (by decide) (by decide) (by show _ < (70000 : Int); omega) ia (ta.p.rr r9) ((k8.tr k9 (fun b j z => by unfold W_X2_expectPart at z; exact (show W_X2_read b j from Or.elim z (fun z => (Or.inr (Or.inl z))) (fun z => (Or.inr (Or.inr (Or.inr (Or.inr (Or.inr (Or.inr (Or.inr (Or.inr (Or.inr (Or.inr (Or.inr (Or.inr (Or.inl z))))))))))))))))).tr ka (fun b j z => by unfold W_X2_advance at z; exact (show W_X2_read b j from Or.elim z (fun z => (Or.inr (Or.inr (Or.inr (Or.inr (Or.inr (Or.inr (Or.inr (Or.inl z))))))))) (fun z => Or.elim z (fun z => (Or.inr (Or.inr (Or.inr (Or.inr (Or.inr (Or.inr (Or.inr (Or.inr (Or.inl z)))))))))) (fun z => Or.elim z (fun z => (Or.inr (Or.inr (Or.inr (Or.inr (Or.inr (Or.inr (Or.inr (Or.inr (Or.inr (Or.inr (Or.inr (Or.inr (Or.inr (Or.inl z))))))))))))))) (fun z => (Or.inr (Or.inr (Or.inr (Or.inr (Or.inr (Or.inr (Or.inr (Or.inr (Or.inr (Or.inr (Or.inr (Or.inr (Or.inr (Or.inr (Or.inl z))))))))))))))))))))) (fun z => absurd ((ga 65 4 (by decide) (by omega)).trans z94) z) (by omega) (fun _ => by omega) (fun _ => by rw [ga _ _ (by decide) (by omega), z97]; exact Int.le_refl _) ?_
      rw [ga _ _ (by decide) (by omega), t9.1 3 5 (by omega) (by omega) (by decide), g8 _ _ (by omega) (by omega)]
      exact z5
