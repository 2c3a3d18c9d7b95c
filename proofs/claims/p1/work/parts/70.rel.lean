/-! ===== what both sides hold, and that it is alike ===== -/
def sOf (i : Int) : Int := if i = 0 then 3 else 75 + 17 * (i - 1)
def szC (a : Int) (M : Mem) (k : Int) : Int := if k = -1 then 1 else mG M (a + 1) k
def stC (a : Int) (M : Mem) : Nat → Int
  | 0 => 0
  | r + 1 => stC a M r + szC a M (mG M (a + 2) r) * szC a M (mG M (a + 3) r)
/-- a shape is laid out -/
def LO (a : Int) (M : Mem) : Prop := mG M a 7 = stC a M (mG M a 6).toNat ∧ ∀ r : Nat, (r : Int) < mG M a 6 → mG M (a + 4) r = stC a M r ∧ mG M (a + 5) r = szC a M (mG M (a + 2) r) ∧ mG M (a + 6) r = szC a M (mG M (a + 3) r)
theorem stC_of {a : Int} {M M' : Mem} (g1 : ∀ j, mG M' (a + 1) j = mG M (a + 1) j) (g2 : ∀ j, mG M' (a + 2) j = mG M (a + 2) j) (g3 : ∀ j, mG M' (a + 3) j = mG M (a + 3) j) : ∀ r : Nat, stC a M' r = stC a M r := by
  intro r
  induction r with
  | zero => rfl
  | succ r ih =>
    show stC a M' r + szC a M' (mG M' (a + 2) r) * szC a M' (mG M' (a + 3) r) = stC a M r + szC a M (mG M (a + 2) r) * szC a M (mG M (a + 3) r)
    unfold szC
    rw [ih, g2, g3, g1, g1]
theorem szC_b {n : Nat} {a k : Int} {M : Mem} (iM : I n M) (ha : isShape a) (hk : -1 ≤ k ∧ k ≤ 2) : 1 ≤ szC a M k ∧ szC a M k ≤ 3 := by
  unfold szC
  split
  · decide
  · exact rd_Ssizes iM (f_Ssizes ha) (by omega) (by omega)
theorem stC_b {n : Nat} {a : Int} {M : Mem} (iM : I n M) (ha : isShape a) : ∀ r : Nat, 0 ≤ stC a M r ∧ stC a M r ≤ 9 * (r : Int) := by
  intro r
  induction r with
  | zero => exact ⟨Int.le_refl _, Int.le_refl _⟩
  | succ r ih =>
    have f1 := rd_Sfirst (i := (r : Int)) iM (f_Sfirst ha)
    have f2 := rd_Ssecond (i := (r : Int)) iM (f_Ssecond ha)
    have z1 := szC_b iM ha (k := mG M (a + 2) r) ⟨by omega, f1.2⟩
    have z2 := szC_b iM ha (k := mG M (a + 3) r) f2
    have p := mul_b (x := szC a M (mG M (a + 2) r)) (y := szC a M (mG M (a + 3) r)) (a := 3) (b := 3) (by omega) (by omega) (by omega) (by omega)
    show 0 ≤ stC a M r + szC a M (mG M (a + 2) r) * szC a M (mG M (a + 3) r) ∧ stC a M r + szC a M (mG M (a + 2) r) * szC a M (mG M (a + 3) r) ≤ 9 * ((r + 1 : Nat) : Int)
    omega
def FrL (a : Int) (M M' : Mem) : Prop := ∀ b j : Int, ¬ (b = a ∧ j = 7) → ¬ (a + 4 ≤ b ∧ b ≤ a + 6) → mG M' b j = mG M b j
def LR (a : Int) (M : Mem) (l : Nat) (M' : Mem) : Prop := ∀ r : Nat, r < l → mG M' (a + 4) r = stC a M r ∧ mG M' (a + 5) r = szC a M (mG M (a + 2) r) ∧ mG M' (a + 6) r = szC a M (mG M (a + 3) r)
theorem lay_step {a x y z w : Int} {l : Nat} {M M' M1 M2 M3 M4 : Mem} (fr : FrL a M M') (hr : LR a M l M') (h1 : M1 = mS M' (a + 4) l x) (h2 : M2 = mS M1 (a + 5) l y) (h3 : M3 = mS M2 (a + 6) l z) (h4 : M4 = mS M3 a 7 w) (ex : x = stC a M l) (ey : y = szC a M (mG M (a + 2) l)) (ez : z = szC a M (mG M (a + 3) l)) : FrL a M M4 ∧ LR a M (l + 1) M4 := by
  have d1 : ¬ a + 4 = a := by omega
  have d2 : ¬ a + 5 = a := by omega
  have d3 : ¬ a + 6 = a := by omega
  have d4 : ¬ a + 4 = a + 6 := by omega
  have d5 : ¬ a + 4 = a + 5 := by omega
  have d6 : ¬ a + 5 = a + 6 := by omega
  have d7 : ¬ a + 5 = a + 4 := by omega
  have d8 : ¬ a + 6 = a + 4 := by omega
  have d9 : ¬ a + 6 = a + 5 := by omega
  refine ⟨fun b j p q => ?_, fun r hr1 => ?_⟩
  · have n4 : ¬ b = a + 4 := fun e => q ⟨by omega, by omega⟩
    have n5 : ¬ b = a + 5 := fun e => q ⟨by omega, by omega⟩
    have n6 : ¬ b = a + 6 := fun e => q ⟨by omega, by omega⟩
    rw [st_ne h4 p, st_ne h3 (fun e => n6 e.1), st_ne h2 (fun e => n5 e.1), st_ne h1 (fun e => n4 e.1)]
    exact fr b j p q
  · by_cases er : r = l
    · subst er
      refine ⟨?_, ?_, ?_⟩
      · rw [st_ne h4 (fun e => d1 e.1), st_ne h3 (fun e => d4 e.1), st_ne h2 (fun e => d5 e.1), st_eq h1, ex]
      · rw [st_ne h4 (fun e => d2 e.1), st_ne h3 (fun e => d6 e.1), st_eq h2, ey]
      · rw [st_ne h4 (fun e => d3 e.1), st_eq h3, ez]
    · have nr : ¬ (r : Int) = (l : Int) := fun e => er (by omega)
      obtain ⟨x1, x2, x3⟩ := hr r (by omega)
      refine ⟨?_, ?_, ?_⟩
      · rw [st_ne h4 (fun e => d1 e.1), st_ne h3 (fun e => d4 e.1), st_ne h2 (fun e => d5 e.1), st_ne h1 (fun e => nr e.2)]; exact x1
      · rw [st_ne h4 (fun e => d2 e.1), st_ne h3 (fun e => d6 e.1), st_ne h2 (fun e => nr e.2), st_ne h1 (fun e => d7 e.1)]; exact x2
      · rw [st_ne h4 (fun e => d3 e.1), st_ne h3 (fun e => nr e.2), st_ne h2 (fun e => d9 e.1), st_ne h1 (fun e => d8 e.1)]; exact x3
theorem pl_layOut {n : Nat} {a : Int} {M : Mem} (iM : I n M) (ha : isShape a) : pw (mX3_layOut a M) (fun q => LO a q.2 ∧ FrL a M q.2) := by
  have c0 : mG M a 0 = a + 1 := rd_Shape_0 iM (f_Shape ha)
  have c1 : mG M a 1 = a + 2 := rd_Shape_1 iM (f_Shape ha)
  have c2 : mG M a 2 = a + 3 := rd_Shape_2 iM (f_Shape ha)
  have c3 : mG M a 3 = a + 4 := rd_Shape_3 iM (f_Shape ha)
  have c4 : mG M a 4 = a + 5 := rd_Shape_4 iM (f_Shape ha)
  have c5 : mG M a 5 = a + 6 := rd_Shape_5 iM (f_Shape ha)
  have r6 := rd_Shape_6 iM (f_Shape ha)
  have d (k l : Int) (h : ¬ k = l) : ¬ a + k = a + l := by omega
  have d0 (k : Int) (h : ¬ k = 0) : ¬ a = a + k := by omega
  have key : ∀ (fu : Nat) (l : Nat) (M' : Mem), (l : Int) ≤ mG M a 6 → FrL a M M' → Is (mG M' a 7) (stC a M l) → LR a M l M' → pw (mX3_layOut_7 fu a l M') (fun q => LO a q.2 ∧ FrL a M q.2) := by
    intro fu
    induction fu with
    | zero => intro l M' _ _ _ _; exact p_none
    | succ fu ih =>
      intro l M' hl fr h7 hr
      have e : ∀ j, ¬ j = 7 → mG M' a j = mG M a j := fun j hj => fr a j (fun z => hj z.2) (fun z => by omega)
      have e1 : ∀ j, mG M' (a + 1) j = mG M (a + 1) j := fun j => fr _ j (fun z => by omega) (fun z => by omega)
      have e2 : ∀ j, mG M' (a + 2) j = mG M (a + 2) j := fun j => fr _ j (fun z => by omega) (fun z => by omega)
      have e3 : ∀ j, mG M' (a + 3) j = mG M (a + 3) j := fun j => fr _ j (fun z => by omega) (fun z => by omega)
      have f1 := rd_Sfirst (i := (l : Int)) iM (f_Sfirst ha)
      have f2 := rd_Ssecond (i := (l : Int)) iM (f_Ssecond ha)
      have z1 := szC_b iM ha (k := mG M (a + 2) l) ⟨by omega, f1.2⟩
      have z2 := szC_b iM ha (k := mG M (a + 3) l) f2
      have ww : Is (wI (stC a M l + wI (szC a M (mG M (a + 2) l) * szC a M (mG M (a + 3) l)))) (stC a M (l + 1)) ∧ Is (wI ((l : Int) + 1)) ((l + 1 : Nat) : Int) := by
        have p := mul_b (x := szC a M (mG M (a + 2) l)) (y := szC a M (mG M (a + 3) l)) (a := 3) (b := 3) (by omega) (by omega) (by omega) (by omega)
        have sb := stC_b iM ha l
        have w1 := wI_id (x := szC a M (mG M (a + 2) l) * szC a M (mG M (a + 3) l)) (by omega) (by omega)
        have w2 := wI_id (x := stC a M l + szC a M (mG M (a + 2) l) * szC a M (mG M (a + 3) l)) (by omega) (by omega)
        have w3 := wI_id (x := (l : Int) + 1) (by omega) (by omega)
        unfold Is
        rw [w1, w2, w3]
        exact ⟨rfl, rfl⟩
      have es : Is (mG M (a + 1) (mG M (a + 2) l)) (szC a M (mG M (a + 2) l)) := by unfold szC Is; rw [if_neg (by omega)]
      clear f1 f2 z1 z2
      show pw (bX3_layOut_7 (mX3_layOut_7 fu) a l M') _
      unfold bX3_layOut_7
      refine p_gFc (ji := 6) rfl (e 6 (by decide)) ?_
      refine p_if (fun c => ?_) (fun c => ?_)
      · have el : l = (mG M a 6).toNat := by omega
        refine p_ret ⟨⟨?_, fun r hr6 => ?_⟩, fr⟩
        · rw [h7.e, stC_of e1 e2 e3, e 6 (by decide), el]
        · have hr6 : (r : Int) < mG M' a 6 := hr6
          rw [e 6 (by decide)] at hr6
          obtain ⟨x1, x2, x3⟩ := hr r (by omega)
          unfold szC
          rw [stC_of e1 e2 e3, e2, e3, e1, e1]
          exact ⟨x1, x2, x3⟩
      have hl' : ((l + 1 : Nat) : Int) ≤ mG M a 6 := by omega
      clear hl c
      refine p_gFc (ji := 2) rfl ((e 2 (by decide)).trans c2) (p_aGc (e3 l) ?_)
      refine p_gFc (ji := 3) rfl ((e 3 (by decide)).trans c3) (p_gFc (ji := 7) rfl h7.e (p_aS (fun M1 h1 => ?_)))
      have ga1 : ∀ j, mG M1 a j = mG M' a j := fun j => st_ne h1 (fun z => d0 4 (by decide) z.1)
      refine p_gFc (ji := 4) rfl ((ga1 _).trans ((e 4 (by decide)).trans c4)) ?_
      refine p_gFc (ji := 0) rfl ((ga1 _).trans ((e 0 (by decide)).trans c0)) ?_
      refine p_gFc (ji := 1) rfl ((ga1 _).trans ((e 1 (by decide)).trans c1)) ?_
      refine p_aGc ((st_ne h1 (fun z => d 2 4 (by decide) z.1)).trans (e2 l)) ?_
      refine p_aGc ((st_ne h1 (fun z => d 1 4 (by decide) z.1)).trans ((e1 _).trans es.e)) ?_
      refine p_aS (fun M2 h2 => ?_)
      have ga2 : ∀ j, mG M2 a j = mG M' a j := fun j => (st_ne h2 (fun z => d0 5 (by decide) z.1)).trans (ga1 j)
      refine p_gFc (ji := 5) rfl ((ga2 _).trans ((e 5 (by decide)).trans c5)) ?_
      have t69 : pw (mX3_layOut_69 (mX3_layOut_7 fu) a l (a + 6) l (szC a M (mG M (a + 3) l)) M2) (fun q => LO a q.2 ∧ FrL a M q.2) := by
        unfold mX3_layOut_69
        refine p_aS (fun M3 h3 => ?_)
        have ga : ∀ j, mG M3 a j = mG M' a j := fun j => (st_ne h3 (fun z => d0 6 (by decide) z.1)).trans (ga2 j)
        refine p_gFc (ji := 7) rfl ((ga 7).trans h7.e) ?_
        refine p_gFc (ji := 4) rfl ((ga 4).trans ((e 4 (by decide)).trans c4)) ?_
        refine p_aGc ((st_ne h3 (fun z => d 5 6 (by decide) z.1)).trans (st_eq h2)) ?_
        refine p_gFc (ji := 5) rfl ((ga 5).trans ((e 5 (by decide)).trans c5)) ?_
        refine p_aGc (st_eq h3) ?_
        rw [ww.1.e]
        refine p_pF (ji := 7) rfl (fun M4 h4 => ?_)
        rw [ww.2.e]
        obtain ⟨s1, s2⟩ := lay_step fr hr h1 h2 h3 h4 rfl rfl rfl
        exact ih (l + 1) M4 hl' s1 (st_eq h4) s2
      refine p_if (fun c2' => ?_) (fun c2' => ?_)
      · have ez : szC a M (mG M (a + 3) l) = 1 := by unfold szC; rw [if_pos c2']
        rw [ez] at t69; exact t69
      · have ez : mG M (a + 1) (mG M (a + 3) l) = szC a M (mG M (a + 3) l) := by unfold szC; rw [if_neg c2']
        refine p_gFc (ji := 0) rfl ((ga2 _).trans ((e 0 (by decide)).trans c0)) ?_
        exact p_aGc ((st_ne h2 (fun z => d 1 5 (by decide) z.1)).trans ((st_ne h1 (fun z => d 1 4 (by decide) z.1)).trans ((e1 _).trans ez))) t69
  unfold mX3_layOut
  refine p_pF (ji := 7) rfl (fun M1 h1 => ?_)
  exact key FU 0 M1 r6.1 (fun b j x y => st_ne h1 x) (st_eq h1) (fun r hr => absurd hr (Nat.not_lt_zero r))
/-! the class's changes -/
theorem pl_isKind {M : Mem} {k : Int} : pw (mX3_isKind k M) (fun q => q.2 = M ∧ ((q.1 = 1 ∧ 0 ≤ k ∧ k ≤ 2) ∨ (q.1 = 0 ∧ ¬ (0 ≤ k ∧ k ≤ 2)))) := by
  unfold mX3_isKind
  exact p_if (fun _ => p_ret ⟨rfl, Or.inr ⟨rfl, by omega⟩⟩) (fun _ => p_if (fun _ => p_ret ⟨rfl, Or.inr ⟨rfl, by omega⟩⟩) (fun _ => p_ret ⟨rfl, Or.inl ⟨rfl, by omega, by omega⟩⟩))
theorem pl_forget {n : Nat} {M : Mem} (iM : I n M) : pw (mX4_forget 2 M) (fun q => ∀ b j : Int, ¬ b = 2 → ¬ b = 24 → mG q.2 b j = mG M b j) := by
  unfold mX4_forget
  refine p_pF (ji := 4) rfl (fun M1 h1 => p_pF (ji := 10) rfl (fun M2 h2 => ?_))
  have e : mG M2 2 2 = 24 := by rw [st_ne h2 (fun z => absurd z.2 (by decide)), st_ne h1 (fun z => absurd z.2 (by decide))]; exact rd_Solver_2 iM (a := 2) rfl
  refine p_gFc (ji := 2) rfl e (p_gK ?_)
  unfold mX1_forget
  refine p_call (P := fun q => ∀ b j : Int, ¬ b = 24 → mG q.2 b j = mG M2 b j) ?_ ?_
  · refine p_pZ (ji := 6) rfl (fun M3 h3 => p_pZ (ji := 7) rfl (fun M4 h4 => p_ret (fun b j hb => ?_)))
    rw [st_ne h4 (fun z => hb z.1), st_ne h3 (fun z => hb z.1)]
  · intro r m h
    refine p_ret (fun b j x y => ?_)
    show mG m b j = _
    rw [h b j y, st_ne h2 (fun z => x z.1), st_ne h1 (fun z => x z.1)]
theorem pl_clearWorlds {n : Nat} {M : Mem} (iM : I n M) : pw (mX6_clearWorlds 3 M) (fun q => ∀ b j : Int, ¬ (b = 3 ∧ j = 1) → ¬ b = 12 → mG q.2 b j = mG M b j) := by
  have key : ∀ (fu : Nat) (l : Int) (M' : Mem), (∀ b j : Int, ¬ (b = 3 ∧ j = 1) → ¬ b = 12 → mG M' b j = mG M b j) → pw (mX6_clearWorlds_7 fu 3 l M') (fun q => ∀ b j : Int, ¬ (b = 3 ∧ j = 1) → ¬ b = 12 → mG q.2 b j = mG M b j) := by
    intro fu
    induction fu with
    | zero => intro l M' _; exact p_none
    | succ fu ih =>
      intro l M' h
      show pw (bX6_clearWorlds_7 (mX6_clearWorlds_7 fu) 3 l M') _
      unfold bX6_clearWorlds_7
      refine p_if (fun _ => p_ret h) (fun _ => ?_)
      refine p_gFc (ji := 3) rfl ((h 3 3 (by omega) (by decide)).trans (rd_Told_3 iM (a := 3) rfl)) (p_aSZ (fun M1 h1 => ?_))
      exact ih _ M1 (fun b j x y => (st_ne h1 (fun z => y (by omega))).trans (h b j x y))
  unfold mX6_clearWorlds
  exact p_pF (ji := 1) rfl (fun M1 h1 => key _ _ _ (fun b j x y => st_ne h1 x))
/-- the class's size -/
def C_size (l1 l2 : Int) (M : Mem) : Prop := 0 ≤ l1 ∧ l1 ≤ 2 ∧ 1 ≤ l2 ∧ l2 ≤ 3 ∧ ¬ mG M 5 l1 = l2
theorem pl_size {n : Nat} {l1 l2 : Int} {M : Mem} (iM : I n M) : pw (mX8_size 1 l1 l2 M) (fun q => (q.1 = 0 ∧ ¬ C_size l1 l2 M ∧ q.2 = M) ∨ (q.1 = 1 ∧ C_size l1 l2 M ∧ LO 4 q.2 ∧ mG q.2 5 l1 = l2 ∧ ∀ b j : Int, ¬ (b = 5 ∧ j = l1) → ¬ (b = 4 ∧ j = 7) → ¬ (8 ≤ b ∧ b ≤ 10) → ¬ (b = 3 ∧ j = 1) → ¬ b = 12 → ¬ b = 2 → ¬ b = 24 → mG q.2 b j = mG M b j)) := by
  have i1 : mG M 1 1 = 3 := rd_VS_1 iM (a := 1) rfl
  have i0 : mG M 1 0 = 2 := rd_VS_0 iM (a := 1) rfl
  have s4 : mG M 3 0 = 4 := rd_Told_0 iM (a := 3) rfl
  have s5 : mG M 4 0 = 5 := rd_Shape_0 iM (a := 4) rfl
  unfold mX8_size
  refine p_gFc (ji := 1) rfl i1 (p_gFc (ji := 0) rfl s4 (p_gK ?_))
  refine p_call (P := fun q => (q.1 = 0 ∧ ¬ C_size l1 l2 M ∧ q.2 = M) ∨ (q.1 = 1 ∧ C_size l1 l2 M ∧ LO 4 q.2 ∧ ∃ M1, M1 = mS M 5 l1 l2 ∧ FrL 4 M1 q.2)) ?_ ?_
  · unfold mX3_resize
    refine p_call pl_isKind ?_
    rintro r m ⟨e, h⟩
    have e : m = M := e
    have h : (r = 1 ∧ 0 ≤ l1 ∧ l1 ≤ 2) ∨ (r = 0 ∧ ¬ (0 ≤ l1 ∧ l1 ≤ 2)) := h
    subst e
    dsimp only
    refine p_if (fun c => p_ret (Or.inl ⟨rfl, fun z => by have := z.1; have := z.2.1; omega, rfl⟩)) (fun c => ?_)
    refine p_if (fun c2 => p_ret (Or.inl ⟨rfl, fun z => by have := z.2.2.1; omega, rfl⟩)) (fun c2 => ?_)
    refine p_if (fun c3 => p_ret (Or.inl ⟨rfl, fun z => by have := z.2.2.2.1; omega, rfl⟩)) (fun c3 => ?_)
    refine p_gFc (ji := 0) rfl s5 (p_aG (fun v hv => ?_))
    refine p_if (fun c4 => p_ret (Or.inl ⟨rfl, fun z => z.2.2.2.2 (hv.trans c4), rfl⟩)) (fun c4 => ?_)
    refine p_gFc (ji := 0) rfl s5 (p_aS (fun M1 h1 => p_gK ?_))
    have iM1 : I n M1 := wr_Ssizes iM (a := 5) rfl ⟨by omega, by omega⟩ h1
    refine p_call (pl_layOut iM1 (Or.inl rfl)) ?_
    rintro r2 m2 ⟨lo, fr⟩
    exact p_ret (Or.inr ⟨rfl, ⟨by omega, by omega, by omega, by omega, fun z => c4 (hv.symm.trans z)⟩, lo, M1, h1, fr⟩)
  · rintro r m h
    dsimp only
    rcases h with ⟨e0, e1, e2⟩ | ⟨e0, e1, lo, M1, h1, fr⟩
    · have e0 : r = 0 := e0
      have e2 : m = M := e2
      subst e2
      refine p_if (fun c => p_ret (Or.inl ⟨rfl, e1, rfl⟩)) (fun c => absurd e0 c)
    · have e0 : r = 1 := e0
      have lo : LO 4 m := lo
      have fr : FrL 4 M1 m := fr
      refine p_if (fun c => by omega) (fun c => ?_)
      have g : ∀ b j : Int, ¬ (b = 5 ∧ j = l1) → ¬ (b = 4 ∧ j = 7) → ¬ (8 ≤ b ∧ b ≤ 10) → mG m b j = mG M b j := fun b j x y z => (fr b j y z).trans (st_ne h1 x)
      refine p_gFc (ji := 1) rfl ((g 1 1 (by omega) (by omega) (by decide)).trans i1) (p_gK ?_)
      sorry
