/-! ===== a text of its own ===== -/
section NEWC
variable {M M' : Mem} {kd : Nat × Nat}
theorem nw_n (h : M' = mNew M kd) : mN M' = mN M + 1 := by subst h; rfl
theorem nw_k (h : M' = mNew M kd) {b : Int} (hb : ¬ b = (mN M : Int) + 1) : mK M' b = mK M b := by subst h; exact if_neg hb
theorem nw_kn (h : M' = mNew M kd) {b : Int} (hb : b = (mN M : Int) + 1) : mK M' b = kd := by subst h; exact if_pos hb
theorem nw_g (h : M' = mNew M kd) {b j : Int} (hb : ¬ b = (mN M : Int) + 1) : mG M' b j = mG M b j := by subst h; exact if_neg hb
theorem nw_gn (h : M' = mNew M kd) {b j : Int} (hb : b = (mN M : Int) + 1) : mG M' b j = 0 := by subst h; exact if_pos hb
end NEWC
/-- the new text's cells, k rows of them -/
def IB (M0 : Mem) (t : Int) (np : Nat) (k : Int) (M : Mem) : Prop := (mN M : Int) = t + k ∧ (∀ b : Int, b < t → mK M b = mK M0 b ∧ ∀ j, mG M b j = mG M0 b j) ∧ mK M t = (5, 0) ∧ (∀ i : Int, 1 ≤ i → i ≤ k → mK M (t + i) = (10, np)) ∧ (∀ i : Int, 0 ≤ i → i < k → mG M t i = t + 1 + i) ∧ mG M t 5 = 0 ∧ (∀ i j : Int, 1 ≤ i → i ≤ k → mG M (t + i) j = 0)
theorem IB.step {M0 M M1 M2 : Mem} {t k : Int} {np : Nat} (h : IB M0 t np k M) (hk : 0 ≤ k ∧ k ≤ 4) (h1 : M1 = mNew M (10, np)) (h2 : M2 = mS M1 t k ((mN M : Int) + 1)) : IB M0 t np (k + 1) M2 := by
  obtain ⟨a1, a2, a3, a4, a5, a6, a7⟩ := h
  refine ⟨?_, fun b hb => ⟨?_, fun j => ?_⟩, ?_, fun i i0 i1 => ?_, fun i i0 i1 => ?_, ?_, fun i j i0 i1 => ?_⟩
  · rw [st_n h2, nw_n h1]; omega
  · rw [st_k h2, nw_k h1 (by omega)]; exact (a2 b hb).1
  · rw [st_ne h2 (fun z => by omega), nw_g h1 (by omega)]; exact (a2 b hb).2 j
  · rw [st_k h2, nw_k h1 (by omega)]; exact a3
  · rw [st_k h2]
    by_cases e : i = k + 1
    · exact nw_kn h1 (by omega)
    · rw [nw_k h1 (by omega)]; exact a4 i i0 (by omega)
  · by_cases e : i = k
    · rw [e, st_eq h2]; omega
    · rw [st_ne h2 (fun z => e z.2), nw_g h1 (by omega)]; exact a5 i i0 (by omega)
  · rw [st_ne h2 (fun z => by omega), nw_g h1 (by omega)]; exact a6
  · rw [st_ne h2 (fun z => by omega)]
    by_cases e : i = k + 1
    · exact nw_gn h1 (by omega)
    · rw [nw_g h1 (by omega)]; exact a7 i j i0 (by omega)
/-- the new text, u parts of it written -/
def TB (M0 : Mem) (t : Int) (np : Nat) (u : Int) (M : Mem) : Prop := (mN M : Int) = t + 5 ∧ (∀ b : Int, b < t → mK M b = mK M0 b ∧ ∀ j, mG M b j = mG M0 b j) ∧ mK M t = (5, 0) ∧ (∀ i : Int, 1 ≤ i → i ≤ 5 → mK M (t + i) = (10, np)) ∧ (∀ i : Int, 0 ≤ i → i < 5 → mG M t i = t + 1 + i) ∧ mG M t 5 = u ∧ (∀ j : Int, 0 ≤ mG M (t + 5) j ∧ mG M (t + 5) j ≤ 40) ∧ (∀ i j : Int, 0 ≤ i → i < 4 → 0 ≤ j → j < u → mG M (t + 1 + i) j = mG M0 (67 + i) j)
theorem TB.write {M0 M M1 M2 M3 M4 M5 : Mem} {t u : Int} {np : Nat} (h : TB M0 t np u M) (hu : 0 ≤ u) (h1 : M1 = mS M (t + 1) u (mG M0 67 u)) (h2 : M2 = mS M1 (t + 2) u (mG M0 68 u)) (h3 : M3 = mS M2 (t + 3) u (mG M0 69 u)) (h4 : M4 = mS M3 (t + 4) u (mG M0 70 u)) (h5 : M5 = mS M4 t 5 (u + 1)) : TB M0 t np (u + 1) M5 := by
  obtain ⟨a1, a2, a3, a4, a5, a6, a7, a8⟩ := h
  have k : ∀ b, mK M5 b = mK M b := fun b => by rw [st_k h5, st_k h4, st_k h3, st_k h2, st_k h1]
  have g : ∀ b j : Int, (b < t + 1 ∨ t + 4 < b ∨ ¬ j = u) → ¬ (b = t ∧ j = 5) → mG M5 b j = mG M b j := fun b j hb hc => by
    rw [st_ne h5 hc, st_ne h4 (fun z => by omega), st_ne h3 (fun z => by omega), st_ne h2 (fun z => by omega), st_ne h1 (fun z => by omega)]
  refine ⟨?_, fun b hb => ⟨?_, fun j => ?_⟩, ?_, fun i i0 i1 => ?_, fun i i0 i1 => ?_, ?_, fun j => ?_, fun i j i0 i1 j0 j1 => ?_⟩
  · rw [st_n h5, st_n h4, st_n h3, st_n h2, st_n h1]; exact a1
  · rw [k]; exact (a2 b hb).1
  · rw [g b j (by omega) (fun z => by omega)]; exact (a2 b hb).2 j
  · rw [k]; exact a3
  · rw [k]; exact a4 i i0 i1
  · rw [g t i (by omega) (fun z => by omega)]; exact a5 i i0 i1
  · exact st_eq h5
  · rw [g (t + 5) j (by omega) (fun z => by omega)]; exact a7 j
  · by_cases e : j = u
    · subst e
      obtain e | e | e | e : i = 0 ∨ i = 1 ∨ i = 2 ∨ i = 3 := by omega
      · subst e
        rw [st_ne h5 (fun z => by omega), st_ne h4 (fun z => by omega), st_ne h3 (fun z => by omega), st_ne h2 (fun z => by omega), show t + 1 + 0 = t + 1 by omega, st_eq h1]; rfl
      · subst e
        rw [st_ne h5 (fun z => by omega), st_ne h4 (fun z => by omega), st_ne h3 (fun z => by omega), show t + 1 + 1 = t + 2 by omega, st_eq h2]; rfl
      · subst e
        rw [st_ne h5 (fun z => by omega), st_ne h4 (fun z => by omega), show t + 1 + 2 = t + 3 by omega, st_eq h3]; rfl
      · subst e
        rw [st_ne h5 (fun z => by omega), show t + 1 + 3 = t + 4 by omega, st_eq h4]; rfl
    · rw [g (t + 1 + i) j (by omega) (fun z => by omega)]; exact a8 i j i0 i1 j0 (by omega)
theorem TB.beh {M0 M M1 : Mem} {t u l x : Int} {np : Nat} (h : TB M0 t np u M) (hx : 0 ≤ x ∧ x ≤ 40) (h1 : M1 = mS M (t + 5) l x) : TB M0 t np u M1 := by
  obtain ⟨a1, a2, a3, a4, a5, a6, a7, a8⟩ := h
  have g : ∀ b j : Int, ¬ b = t + 5 → mG M1 b j = mG M b j := fun b j hb => st_ne h1 (fun z => hb z.1)
  refine ⟨?_, fun b hb => ⟨?_, fun j => ?_⟩, ?_, fun i i0 i1 => ?_, fun i i0 i1 => ?_, ?_, fun j => ?_, fun i j i0 i1 j0 j1 => ?_⟩
  · rw [st_n h1]; exact a1
  · rw [st_k h1]; exact (a2 b hb).1
  · rw [g b j (by omega)]; exact (a2 b hb).2 j
  · rw [st_k h1]; exact a3
  · rw [st_k h1]; exact a4 i i0 i1
  · rw [g t i (by omega)]; exact a5 i i0 i1
  · rw [g t 5 (by omega)]; exact a6
  · by_cases e : j = l
    · subst e; rw [st_eq h1]; exact hx
    · rw [st_ne h1 (fun z => e z.2)]; exact a7 j
  · rw [g (t + 1 + i) j (by omega)]; exact a8 i j i0 i1 j0 j1
theorem TB.text {M0 M : Mem} {t : Int} {np : Nat} (h : TB M0 t np np M) (h1 : 1 ≤ np) (h2 : np ≤ 40) : TextN M t np := by
  obtain ⟨a1, a2, a3, a4, a5, a6, a7, a8⟩ := h
  refine ⟨h1, h2, a3, ?_, ?_, ?_, ?_, ?_, a6, a4 1 (by decide) (by decide), a4 2 (by decide) (by decide), a4 3 (by decide) (by decide), a4 4 (by decide) (by decide), a4 5 (by decide) (by decide), a7⟩
  · rw [a5 0 (by decide) (by decide)]; omega
  · rw [a5 1 (by decide) (by decide)]; omega
  · rw [a5 2 (by decide) (by decide)]; omega
  · rw [a5 3 (by decide) (by decide)]; omega
  · rw [a5 4 (by decide) (by decide)]; omega
theorem x_partsInside {a : Int} {M : Mem} : wp (mX5_partsInside a M) (fun q => q.2 = M ∧ 0 ≤ q.1 ∧ q.1 ≤ 2) := by
  have t : ∀ s : Int, 0 ≤ s → s ≤ 2 → wp (some (s, M)) (fun q : Int × Mem => q.2 = M ∧ 0 ≤ q.1 ∧ q.1 ≤ 2) := fun s s0 s1 => w_ret ⟨rfl, s0, s1⟩
  unfold mX5_partsInside
  refine w_if (fun _ => t 1 (by decide) (by decide)) (fun _ => ?_)
  refine w_if (fun _ => t 1 (by decide) (by decide)) (fun _ => ?_)
  refine w_if (fun _ => t 1 (by decide) (by decide)) (fun _ => ?_)
  refine w_if (fun _ => t 1 (by decide) (by decide)) (fun _ => ?_)
  refine w_if (fun _ => t 1 (by decide) (by decide)) (fun _ => ?_)
  refine w_if (fun _ => t 2 (by decide) (by decide)) (fun _ => ?_)
  refine w_if (fun _ => t 2 (by decide) (by decide)) (fun _ => ?_)
  exact w_if (fun _ => t 2 (by decide) (by decide)) (fun _ => t 0 (by decide) (by decide))
theorem x_findBehind {M0 M : Mem} {t : Int} {np : Nat} (h : TB M0 t np np M) (h1 : 1 ≤ np) (h2 : np ≤ 40) : wp (mX5_findBehind t M) (fun q => TB M0 t np np q.2) := by
  have key : ∀ (fu : Nat) (l1 : Int) (M : Mem), TB M0 t np np M → -1 ≤ l1 → l1 < (np : Int) → l1 + 1 < (fu : Int) → wp (mX5_findBehind_8 fu t l1 M) (fun q => TB M0 t np np q.2) := by
    intro fu
    induction fu with
    | zero => intro l1 M _ _ _ hf; exfalso; omega
    | succ fu ih =>
      intro l1 M hb b0 b1 hf
      show wp (bX5_findBehind_8 (mX5_findBehind_8 fu) t l1 M) _
      unfold bX5_findBehind_8
      refine w_if (fun c => w_ret hb) (fun c => ?_)
      have inner : ∀ (fu2 : Nat) (l2 l3 : Int) (M : Mem), TB M0 t np np M → 0 ≤ l2 → l2 ≤ 40 → 0 ≤ l3 → l3 ≤ 2 → l3 + 1 < (fu2 : Int) → wp (mX5_findBehind_26 (mX5_findBehind_8 fu) fu2 t l1 l2 l3 M) (fun q => TB M0 t np np q.2) := by
        intro fu2
        induction fu2 with
        | zero =>
          intro l2 l3 M hb c0 c1 c2 c3 hf2; exfalso; omega
        | succ fu2 ih2 =>
          intro l2 l3 M hb c0 c1 c2 c3 hf2
          show wp (bX5_findBehind_26 (mX5_findBehind_8 fu) (mX5_findBehind_26 (mX5_findBehind_8 fu) fu2) t l1 l2 l3 M) _
          obtain ⟨a1, a2, a3, a4, a5, a6, a7, a8⟩ := id hb
          have f0 : mG M t 0 = t + 1 := by rw [a5 0 (by decide) (by decide)]; omega
          have f4 : mG M t 4 = t + 5 := by rw [a5 4 (by decide) (by decide)]; omega
          unfold bX5_findBehind_26
          refine w_if (fun d => ?_) (fun d => ?_)
          · refine w_gFc (ji := 4) rfl (congrArg Prod.fst a3) f4 ?_
            refine w_aS (a4 5 (by decide) (by decide)) (by omega) b1 (fun M1 h1 => ?_)
            have w1 := wI_id (x := l1 + (-1)) (by omega) (by omega)
            rw [w1]
            exact ih _ M1 (hb.beh ⟨c0, c1⟩ h1) (by omega) (by omega) (by have : ((fu + 1 : Nat) : Int) = (fu : Int) + 1 := rfl; omega)
          · have w3 := wI_id (x := l3 + (-1)) (by omega) (by omega)
            have hfu : ((fu2 + 1 : Nat) : Int) = (fu2 : Int) + 1 := rfl
            refine w_gFc (ji := 0) rfl (congrArg Prod.fst a3) f0 ?_
            refine w_aL (a4 1 (by decide) (by decide)) (fun v hv => ?_)
            refine w_if (fun e => ?_) (fun e => ?_)
            · refine w_gFc (ji := 0) rfl (congrArg Prod.fst a3) f0 ?_
              refine w_aL (a4 1 (by decide) (by decide)) (fun v2 hv2 => ?_)
              unfold mX5_findBehind_53
              rw [w3]
              exact ih2 _ _ M hb (by omega) (by omega) (by omega) (by omega) (by omega)
            · refine w_gFc (ji := 4) rfl (congrArg Prod.fst a3) f4 ?_
              refine w_aG (a4 5 (by decide) (by decide)) (by omega) (by omega) (fun v2 hv2 => ?_)
              have r2 := hv2.tr (P := fun z => 0 ≤ z ∧ z ≤ 40) (a7 l2)
              unfold mX5_findBehind_53
              rw [w3]
              exact ih2 _ _ M hb r2.1 r2.2 (by omega) (by omega) (by omega)
      obtain ⟨a1, a2, a3, a4, a5, a6, a7, a8⟩ := id hb
      have f0 : mG M t 0 = t + 1 := by rw [a5 0 (by decide) (by decide)]; omega
      refine w_gFc (ji := 0) rfl (congrArg Prod.fst a3) f0 ?_
      refine w_aG (a4 1 (by decide) (by decide)) (by omega) b1 (fun v hv => ?_)
      refine w_call x_partsInside ?_
      rintro r m ⟨e, r0, r1⟩
      have e : m = M := e
      have r0 : 0 ≤ r := r0
      have r1 : r ≤ 2 := r1
      subst e
      have w1 := wI_id (x := l1 + 1) (by omega) (by omega)
      dsimp only
      rw [w1]
      exact inner FU _ _ m hb (by omega) (by omega) r0 r1 (by show _ < (70000 : Int); omega)
  obtain ⟨a1, a2, a3, a4, a5, a6, a7, a8⟩ := id h
  have f0 : mG M t 0 = t + 1 := by rw [a5 0 (by decide) (by decide)]; omega
  unfold mX5_findBehind
  refine w_gFc (ji := 0) rfl (congrArg Prod.fst a3) f0 ?_
  refine w_aL (a4 1 (by decide) (by decide)) (fun v hv => ?_)
  have w1 := wI_id (x := v - 1) (by omega) (by omega)
  rw [w1]
  exact key FU _ M h (by omega) (by omega) (by show _ < (70000 : Int); omega)
theorem x_finished {n : Nat} {M0 : Mem} {np : Nat} (iM : I n M0) (h5 : mG M0 66 5 = (np : Int)) (h1 : 1 ≤ np) (h2 : np ≤ 40) : wp (mX5_finished 66 M0) (fun q => q.1 = (mN M0 : Int) + 1 ∧ TB M0 ((mN M0 : Int) + 1) np np q.2) := by
  have hn : (169 : Int) ≤ (mN M0 : Int) := by have := iM.2.2.2.2.1; have := iM.2.2.2.1; omega
  obtain ⟨t, ht⟩ : ∃ t : Int, t = (mN M0 : Int) + 1 := ⟨_, rfl⟩
  rw [← ht]
  have loop : ∀ (fu : Nat) (u : Int) (M : Mem), TB M0 t np u M → 0 ≤ u → u ≤ (np : Int) → (np : Int) - u < (fu : Int) → wp (mX5_finished_14 fu 66 t u M) (fun q => q.1 = t ∧ TB M0 t np np q.2) := by
    intro fu
    induction fu with
    | zero => intro u M _ _ _ hf; exfalso; omega
    | succ fu ih =>
      intro u M hb b0 b1 hf
      show wp (bX5_finished_14 (mX5_finished_14 fu) 66 t u M) _
      obtain ⟨a1, a2, a3, a4, a5, a6, a7, a8⟩ := id hb
      have k66 : mK M 66 = (5, 0) := (a2 66 (by omega)).1.trans (kl_66 iM)
      have k67 : mK M 67 = (10, 40) := (a2 67 (by omega)).1.trans (kl_67 iM)
      have k68 : mK M 68 = (10, 40) := (a2 68 (by omega)).1.trans (kl_68 iM)
      have k69 : mK M 69 = (10, 40) := (a2 69 (by omega)).1.trans (kl_69 iM)
      have k70 : mK M 70 = (10, 40) := (a2 70 (by omega)).1.trans (kl_70 iM)
      have g0 : mG M 66 0 = 67 := ((a2 66 (by omega)).2 0).trans (rd_Draft_0 iM (a := 66) rfl)
      have g1 : mG M 66 1 = 68 := ((a2 66 (by omega)).2 1).trans (rd_Draft_1 iM (a := 66) rfl)
      have g2 : mG M 66 2 = 69 := ((a2 66 (by omega)).2 2).trans (rd_Draft_2 iM (a := 66) rfl)
      have g3 : mG M 66 3 = 70 := ((a2 66 (by omega)).2 3).trans (rd_Draft_3 iM (a := 66) rfl)
      have f0 : mG M t 0 = t + 1 := by rw [a5 0 (by decide) (by decide)]; omega
      have f1 : mG M t 1 = t + 2 := by rw [a5 1 (by decide) (by decide)]; omega
      have f2 : mG M t 2 = t + 3 := by rw [a5 2 (by decide) (by decide)]; omega
      have f3 : mG M t 3 = t + 4 := by rw [a5 3 (by decide) (by decide)]; omega
      have t65 : u = (np : Int) → wp (mX5_finished_65 t M) (fun q => q.1 = t ∧ TB M0 t np np q.2) := by
        intro e
        subst e
        unfold mX5_finished_65
        refine w_gK (congrArg Prod.fst a3) ?_
        refine w_call (x_findBehind hb h1 h2) ?_
        intro r m hm
        exact w_ret ⟨rfl, hm⟩
      unfold bX5_finished_14
      refine w_gFc (ji := 5) rfl (congrArg Prod.fst k66) (((a2 66 (by omega)).2 5).trans h5) ?_
      refine w_if (fun c => t65 (by omega)) (fun c => ?_)
      refine w_gFc (ji := 0) rfl (congrArg Prod.fst k66) g0 ?_
      refine w_aL k67 (fun v hv => ?_)
      refine w_if (fun c2 => absurd c2 (by omega)) (fun c2 => ?_)
      refine w_gFc (ji := 0) rfl (congrArg Prod.fst k66) g0 ?_
      refine w_aGc k67 (by omega) (by omega) ((a2 67 (by omega)).2 u) ?_
      refine w_gFc (ji := 1) rfl (congrArg Prod.fst k66) g1 ?_
      refine w_aGc k68 (by omega) (by omega) ((a2 68 (by omega)).2 u) ?_
      refine w_gFc (ji := 2) rfl (congrArg Prod.fst k66) g2 ?_
      refine w_aGc k69 (by omega) (by omega) ((a2 69 (by omega)).2 u) ?_
      refine w_gFc (ji := 3) rfl (congrArg Prod.fst k66) g3 ?_
      refine w_aGc k70 (by omega) (by omega) ((a2 70 (by omega)).2 u) ?_
      refine w_gK (congrArg Prod.fst a3) ?_
      have w1 := wI_id (x := u + 1) (by omega) (by omega)
      refine w_call (P := fun q => TB M0 t np (u + 1) q.2) ?_ ?_
      · unfold mX5_write
        refine w_gFc (ji := 5) rfl (congrArg Prod.fst a3) a6 ?_
        refine w_gFc (ji := 0) rfl (congrArg Prod.fst a3) f0 ?_
        refine w_aL (a4 1 (by decide) (by decide)) (fun v hv => ?_)
        refine w_if (fun c3 => absurd c3 (by omega)) (fun c3 => ?_)
        refine w_gFc (ji := 0) rfl (congrArg Prod.fst a3) f0 ?_
        refine w_gFc (ji := 5) rfl (congrArg Prod.fst a3) a6 ?_
        refine w_aS (a4 1 (by decide) (by decide)) b0 (by omega) (fun M1 h1 => ?_)
        refine w_gFc (ji := 1) rfl (congrArg Prod.fst ((st_k h1 t).trans a3)) ((st_ne h1 (fun z => by omega)).trans f1) ?_
        refine w_gFc (ji := 5) rfl (congrArg Prod.fst ((st_k h1 t).trans a3)) ((st_ne h1 (fun z => by omega)).trans a6) ?_
        refine w_aS ((st_k h1 _).trans (a4 2 (by decide) (by decide))) b0 (by omega) (fun M2 h2 => ?_)
        have k2 : ∀ b, mK M2 b = mK M b := fun b => (st_k h2 b).trans (st_k h1 b)
        have g2 : ∀ j, mG M2 t j = mG M t j := fun j => (st_ne h2 (fun z => by omega)).trans (st_ne h1 (fun z => by omega))
        refine w_gFc (ji := 2) rfl (congrArg Prod.fst ((k2 t).trans a3)) ((g2 _).trans f2) ?_
        refine w_gFc (ji := 5) rfl (congrArg Prod.fst ((k2 t).trans a3)) ((g2 _).trans a6) ?_
        refine w_aS ((k2 _).trans (a4 3 (by decide) (by decide))) b0 (by omega) (fun M3 h3 => ?_)
        have k3 : ∀ b, mK M3 b = mK M b := fun b => (st_k h3 b).trans (k2 b)
        have g3 : ∀ j, mG M3 t j = mG M t j := fun j => (st_ne h3 (fun z => by omega)).trans (g2 j)
        refine w_gFc (ji := 3) rfl (congrArg Prod.fst ((k3 t).trans a3)) ((g3 _).trans f3) ?_
        refine w_gFc (ji := 5) rfl (congrArg Prod.fst ((k3 t).trans a3)) ((g3 _).trans a6) ?_
        refine w_aS ((k3 _).trans (a4 4 (by decide) (by decide))) b0 (by omega) (fun M4 h4 => ?_)
        have k4 : ∀ b, mK M4 b = mK M b := fun b => (st_k h4 b).trans (k3 b)
        have g4 : ∀ j, mG M4 t j = mG M t j := fun j => (st_ne h4 (fun z => by omega)).trans (g3 j)
        unfold mX5_write_53
        refine w_gFc (ji := 5) rfl (congrArg Prod.fst ((k4 t).trans a3)) ((g4 _).trans a6) ?_
        rw [w1]
        refine w_pF (ji := 5) rfl (congrArg Prod.fst ((k4 t).trans a3)) (fun M5 h5 => ?_)
        exact w_ret (hb.write b0 h1 h2 h3 h4 h5)
      · intro r m hm
        dsimp only
        rw [w1]
        exact ih _ m hm (by omega) (by omega) (by have : ((fu + 1 : Nat) : Int) = (fu : Int) + 1 := rfl; omega)
  unfold mX5_finished
  refine w_nO (fun v M1 hv hM1 => ?_)
  dsimp only
  have ev : v = t := by rw [hv, ht]
  subst ev
  have k66 : mK M1 66 = (5, 0) := (nw_k hM1 (by omega)).trans (kl_66 iM)
  refine w_gFc (ji := 5) rfl (congrArg Prod.fst k66) ((nw_g hM1 (by omega)).trans h5) ?_
  have kt : mK M1 v = (5, 0) := nw_kn hM1 ht
  refine w_gK (congrArg Prod.fst kt) ?_
  refine w_call (P := fun q => IB M0 v np 5 q.2) ?_ ?_
  · unfold mX5_init
    refine w_gK (congrArg Prod.fst kt) ?_
    refine w_pF (ji := 5) rfl (congrArg Prod.fst kt) (fun M6 h6 => ?_)
    have b0 : IB M0 v np 0 M6 := by
      refine ⟨by rw [st_n h6, nw_n hM1]; omega, fun b hb => ⟨by rw [st_k h6, nw_k hM1 (by omega)], fun j => by rw [st_ne h6 (fun z => by omega), nw_g hM1 (by omega)]⟩, by rw [st_k h6]; exact kt, fun i i0 i1 => by omega, fun i i0 i1 => by omega, st_eq h6, fun i j i0 i1 => by omega⟩
    refine w_some (fun b14 e14 => ?_)
    have e14 : b14 = (np : Int) := by rw [e14, if_pos (by omega)]
    subst e14
    have stp : ∀ (k : Int) (kn : Nat) (M : Mem) (f : Int × Mem → Mem → Option (Int × Mem)), (kn : Int) = k → 0 ≤ k → k ≤ 4 → IB M0 v np k M → (∀ M2 q, IB M0 v np (k + 1) M2 → wp (f q M2) (fun q => IB M0 v np 5 q.2)) → wp ((nA 10 40 M (np : Int)).bind fun q17 => (pF 5 kn q17.2 v q17.1).bind fun M19 => f q17 M19) (fun q => IB M0 v np 5 q.2) := by
      intro k kn M f ek k0 k1 hb hf
      refine w_nA (by omega) (fun a M2 ha h2 => ?_)
      have h2 : M2 = mNew M (10, np) := by rw [h2, Int.toNat_natCast]
      dsimp only
      refine w_pF (ji := k) ek (congrArg Prod.fst ((nw_k h2 (by have := hb.1; omega)).trans hb.2.2.1)) (fun M3 h3 => ?_)
      exact hf M3 _ (hb.step ⟨k0, k1⟩ h2 (by rw [h3, ha]))
    refine stp 0 0 M6 _ rfl (by decide) (by decide) b0 (fun Ma qa ba => ?_)
    refine stp 1 1 Ma _ rfl (by decide) (by decide) ba (fun Mb qb bb => ?_)
    refine stp 2 2 Mb _ rfl (by decide) (by decide) bb (fun Mc qc bc => ?_)
    refine stp 3 3 Mc _ rfl (by decide) (by decide) bc (fun Md qd bd => ?_)
    refine stp 4 4 Md _ rfl (by decide) (by decide) bd (fun Me qe be => ?_)
    exact w_ret be
  · intro r m hb
    have hb : IB M0 v np 5 m := hb
    dsimp only
    obtain ⟨a1, a2, a3, a4, a5, a6, a7⟩ := hb
    exact loop FU 0 m ⟨a1, a2, a3, a4, a5, a6, fun j => by rw [a7 5 j (by decide) (by decide)]; decide, fun i j _ _ j0 j1 => by omega⟩ (by decide) (by omega) (by show _ < (70000 : Int); omega)
