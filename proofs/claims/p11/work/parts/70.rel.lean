/-! ===== what both sides hold, and that it is alike ===== -/
def sOf (i : Int) : Int := if i = 0 then 3 else 75 + 17 * (i - 1)
def szC (a : Int) (M : Mem) (k : Int) : Int := if k = -1 then 1 else mG M (a + 1) k
def stC (a : Int) (M : Mem) : Nat → Int
  | 0 => 0
  | r + 1 => stC a M r + szC a M (mG M (a + 2) r) * szC a M (mG M (a + 3) r)
/-- a shape is laid out -/
def LO (a : Int) (M : Mem) : Prop := mG M a 7 = stC a M (mG M a 6).toNat ∧ ∀ r : Nat, (r : Int) < mG M a 6 → mG M (a + 4) r = stC a M r ∧ mG M (a + 5) r = szC a M (mG M (a + 2) r) ∧ mG M (a + 6) r = szC a M (mG M (a + 3) r)
theorem stC_of {a : Int} {M M' : Mem} (g1 : ∀ j, mG M' (a + 1) j = mG M (a + 1) j) (g2 : ∀ j, mG M' (a + 2) j = mG M (a + 2) j) (g3 : ∀ j, mG M' (a + 3) j = mG M (a + 3) j) : ∀ r : Nat, stC a M' r = stC a M r := by
  intro r
  induction r with
  | zero => rfl
  | succ r ih =>
    show stC a M' r + szC a M' (mG M' (a + 2) r) * szC a M' (mG M' (a + 3) r) = stC a M r + szC a M (mG M (a + 2) r) * szC a M (mG M (a + 3) r)
    unfold szC
    rw [ih, g2, g3, g1, g1]
/-- a shape that is as it must be -/
def SG (a : Int) (M : Mem) : Prop := (∀ k : Int, 0 ≤ k → k ≤ 5 → mG M a k = a + 1 + k) ∧ (0 ≤ mG M a 6 ∧ mG M a 6 ≤ 4) ∧ (∀ k : Int, 0 ≤ k → k < 3 → 1 ≤ mG M (a + 1) k ∧ mG M (a + 1) k ≤ 3) ∧ (∀ r : Int, 0 ≤ mG M (a + 2) r ∧ mG M (a + 2) r ≤ 2) ∧ ∀ r : Int, -1 ≤ mG M (a + 3) r ∧ mG M (a + 3) r ≤ 2
theorem I.sg {n : Nat} {a : Int} {M : Mem} (iM : I n M) (ha : isShape a) : SG a M := by
  refine ⟨fun k k0 k1 => ?_, rd_Shape_6 iM (f_Shape ha), fun k k0 k1 => rd_Ssizes iM (f_Ssizes ha) k0 k1, fun r => rd_Sfirst iM (f_Sfirst ha), fun r => rd_Ssecond iM (f_Ssecond ha)⟩
  obtain e | e | e | e | e | e : k = 0 ∨ k = 1 ∨ k = 2 ∨ k = 3 ∨ k = 4 ∨ k = 5 := by omega
  · subst e; exact (rd_Shape_0 iM (f_Shape ha)).trans (by omega)
  · subst e; exact (rd_Shape_1 iM (f_Shape ha)).trans (by omega)
  · subst e; exact (rd_Shape_2 iM (f_Shape ha)).trans (by omega)
  · subst e; exact (rd_Shape_3 iM (f_Shape ha)).trans (by omega)
  · subst e; exact (rd_Shape_4 iM (f_Shape ha)).trans (by omega)
  · subst e; exact (rd_Shape_5 iM (f_Shape ha)).trans (by omega)
theorem szC_b {a k : Int} {M : Mem} (sg : SG a M) (hk : -1 ≤ k ∧ k ≤ 2) : 1 ≤ szC a M k ∧ szC a M k ≤ 3 := by
  unfold szC
  split
  · decide
  · exact sg.2.2.1 k (by omega) (by omega)
theorem stC_b {a : Int} {M : Mem} (sg : SG a M) : ∀ r : Nat, 0 ≤ stC a M r ∧ stC a M r ≤ 9 * (r : Int) := by
  intro r
  induction r with
  | zero => exact ⟨Int.le_refl _, Int.le_refl _⟩
  | succ r ih =>
    have f1 := sg.2.2.2.1 r
    have f2 := sg.2.2.2.2 r
    have z1 := szC_b sg (k := mG M (a + 2) r) ⟨by omega, f1.2⟩
    have z2 := szC_b sg (k := mG M (a + 3) r) f2
    have p := mul_b (x := szC a M (mG M (a + 2) r)) (y := szC a M (mG M (a + 3) r)) (a := 3) (b := 3) (by omega) (by omega) (by omega) (by omega)
    show 0 ≤ stC a M r + szC a M (mG M (a + 2) r) * szC a M (mG M (a + 3) r) ∧ stC a M r + szC a M (mG M (a + 2) r) * szC a M (mG M (a + 3) r) ≤ 9 * ((r + 1 : Nat) : Int)
    omega
def FrL (a : Int) (M M' : Mem) : Prop := ∀ b j : Int, ¬ (b = a ∧ j = 7) → ¬ (a + 4 ≤ b ∧ b ≤ a + 6) → mG M' b j = mG M b j
def LR (a : Int) (M : Mem) (l : Nat) (M' : Mem) : Prop := ∀ r : Nat, r < l → mG M' (a + 4) r = stC a M r ∧ mG M' (a + 5) r = szC a M (mG M (a + 2) r) ∧ mG M' (a + 6) r = szC a M (mG M (a + 3) r)
theorem lay_step {a x y z w : Int} {l : Nat} {M M' M1 M2 M3 M4 : Mem} (fr : FrL a M M') (hr : LR a M l M') (h1 : M1 = mS M' (a + 4) l x) (h2 : M2 = mS M1 (a + 5) l y) (h3 : M3 = mS M2 (a + 6) l z) (h4 : M4 = mS M3 a 7 w) (ex : x = stC a M l) (ey : y = szC a M (mG M (a + 2) l)) (ez : z = szC a M (mG M (a + 3) l)) : FrL a M M4 ∧ LR a M (l + 1) M4 := by
  have d1 : ¬ a + 4 = a := by omega
  have d2 : ¬ a + 5 = a := by omega
  have d3 : ¬ a + 6 = a := by omega
  have d4 : ¬ a + 4 = a + 6 := by omega
  have d5 : ¬ a + 4 = a + 5 := by omega
  have d6 : ¬ a + 5 = a + 6 := by omega
  have d7 : ¬ a + 5 = a + 4 := by omega
  have d8 : ¬ a + 6 = a + 4 := by omega
  have d9 : ¬ a + 6 = a + 5 := by omega
  refine ⟨fun b j p q => ?_, fun r hr1 => ?_⟩
  · have n4 : ¬ b = a + 4 := fun e => q ⟨by omega, by omega⟩
    have n5 : ¬ b = a + 5 := fun e => q ⟨by omega, by omega⟩
    have n6 : ¬ b = a + 6 := fun e => q ⟨by omega, by omega⟩
    rw [st_ne h4 p, st_ne h3 (fun e => n6 e.1), st_ne h2 (fun e => n5 e.1), st_ne h1 (fun e => n4 e.1)]
    exact fr b j p q
  · by_cases er : r = l
    · subst er
      refine ⟨?_, ?_, ?_⟩
      · rw [st_ne h4 (fun e => d1 e.1), st_ne h3 (fun e => d4 e.1), st_ne h2 (fun e => d5 e.1), st_eq h1, ex]
      · rw [st_ne h4 (fun e => d2 e.1), st_ne h3 (fun e => d6 e.1), st_eq h2, ey]
      · rw [st_ne h4 (fun e => d3 e.1), st_eq h3, ez]
    · have nr : ¬ (r : Int) = (l : Int) := fun e => er (by omega)
      obtain ⟨x1, x2, x3⟩ := hr r (by omega)
      refine ⟨?_, ?_, ?_⟩
      · rw [st_ne h4 (fun e => d1 e.1), st_ne h3 (fun e => d4 e.1), st_ne h2 (fun e => d5 e.1), st_ne h1 (fun e => nr e.2)]; exact x1
      · rw [st_ne h4 (fun e => d2 e.1), st_ne h3 (fun e => d6 e.1), st_ne h2 (fun e => nr e.2), st_ne h1 (fun e => d7 e.1)]; exact x2
      · rw [st_ne h4 (fun e => d3 e.1), st_ne h3 (fun e => nr e.2), st_ne h2 (fun e => d9 e.1), st_ne h1 (fun e => d8 e.1)]; exact x3
theorem pl_layOut {a : Int} {M : Mem} (sg : SG a M) : pw (mX3_layOut a M) (fun q => LO a q.2 ∧ FrL a M q.2) := by
  have c0 : mG M a 0 = a + 1 := (sg.1 0 (by decide) (by decide)).trans (by omega)
  have c1 : mG M a 1 = a + 2 := (sg.1 1 (by decide) (by decide)).trans (by omega)
  have c2 : mG M a 2 = a + 3 := (sg.1 2 (by decide) (by decide)).trans (by omega)
  have c3 : mG M a 3 = a + 4 := (sg.1 3 (by decide) (by decide)).trans (by omega)
  have c4 : mG M a 4 = a + 5 := (sg.1 4 (by decide) (by decide)).trans (by omega)
  have c5 : mG M a 5 = a + 6 := (sg.1 5 (by decide) (by decide)).trans (by omega)
  have r6 := sg.2.1
  have d (k l : Int) (h : ¬ k = l) : ¬ a + k = a + l := by omega
  have d0 (k : Int) (h : ¬ k = 0) : ¬ a = a + k := by omega
  have key : ∀ (fu : Nat) (l : Nat) (M' : Mem), (l : Int) ≤ mG M a 6 → FrL a M M' → Is (mG M' a 7) (stC a M l) → LR a M l M' → pw (mX3_layOut_7 fu a l M') (fun q => LO a q.2 ∧ FrL a M q.2) := by
    intro fu
    induction fu with
    | zero => intro l M' _ _ _ _; exact p_none
    | succ fu ih =>
      intro l M' hl fr h7 hr
      have e : ∀ j, ¬ j = 7 → mG M' a j = mG M a j := fun j hj => fr a j (fun z => hj z.2) (fun z => by omega)
      have e1 : ∀ j, mG M' (a + 1) j = mG M (a + 1) j := fun j => fr _ j (fun z => by omega) (fun z => by omega)
      have e2 : ∀ j, mG M' (a + 2) j = mG M (a + 2) j := fun j => fr _ j (fun z => by omega) (fun z => by omega)
      have e3 : ∀ j, mG M' (a + 3) j = mG M (a + 3) j := fun j => fr _ j (fun z => by omega) (fun z => by omega)
      have f1 := sg.2.2.2.1 (l : Int)
      have f2 := sg.2.2.2.2 (l : Int)
      have z1 := szC_b sg (k := mG M (a + 2) l) ⟨by omega, f1.2⟩
      have z2 := szC_b sg (k := mG M (a + 3) l) f2
      have ww : Is (wI (stC a M l + wI (szC a M (mG M (a + 2) l) * szC a M (mG M (a + 3) l)))) (stC a M (l + 1)) ∧ Is (wI ((l : Int) + 1)) ((l + 1 : Nat) : Int) := by
        have p := mul_b (x := szC a M (mG M (a + 2) l)) (y := szC a M (mG M (a + 3) l)) (a := 3) (b := 3) (by omega) (by omega) (by omega) (by omega)
        have sb := stC_b sg l
        have w1 := wI_id (x := szC a M (mG M (a + 2) l) * szC a M (mG M (a + 3) l)) (by omega) (by omega)
        have w2 := wI_id (x := stC a M l + szC a M (mG M (a + 2) l) * szC a M (mG M (a + 3) l)) (by omega) (by omega)
        have w3 := wI_id (x := (l : Int) + 1) (by omega) (by omega)
        unfold Is
        rw [w1, w2, w3]
        exact ⟨rfl, rfl⟩
      have es : Is (mG M (a + 1) (mG M (a + 2) l)) (szC a M (mG M (a + 2) l)) := by unfold szC Is; rw [if_neg (by omega)]
      clear f1 f2 z1 z2
      show pw (bX3_layOut_7 (mX3_layOut_7 fu) a l M') _
      unfold bX3_layOut_7
      refine p_gFc (ji := 6) rfl (e 6 (by decide)) ?_
      refine p_if (fun c => ?_) (fun c => ?_)
      · have el : l = (mG M a 6).toNat := by omega
        refine p_ret ⟨⟨?_, fun r hr6 => ?_⟩, fr⟩
        · rw [h7.e, stC_of e1 e2 e3, e 6 (by decide), el]
        · have hr6 : (r : Int) < mG M' a 6 := hr6
          rw [e 6 (by decide)] at hr6
          obtain ⟨x1, x2, x3⟩ := hr r (by omega)
          unfold szC
          rw [stC_of e1 e2 e3, e2, e3, e1, e1]
          exact ⟨x1, x2, x3⟩
      have hl' : ((l + 1 : Nat) : Int) ≤ mG M a 6 := by omega
      clear hl c
      refine p_gFc (ji := 2) rfl ((e 2 (by decide)).trans c2) (p_aGc (e3 l) ?_)
      refine p_gFc (ji := 3) rfl ((e 3 (by decide)).trans c3) (p_gFc (ji := 7) rfl h7.e (p_aS (fun M1 h1 => ?_)))
      have ga1 : ∀ j, mG M1 a j = mG M' a j := fun j => st_ne h1 (fun z => d0 4 (by decide) z.1)
      refine p_gFc (ji := 4) rfl ((ga1 _).trans ((e 4 (by decide)).trans c4)) ?_
      refine p_gFc (ji := 0) rfl ((ga1 _).trans ((e 0 (by decide)).trans c0)) ?_
      refine p_gFc (ji := 1) rfl ((ga1 _).trans ((e 1 (by decide)).trans c1)) ?_
      refine p_aGc ((st_ne h1 (fun z => d 2 4 (by decide) z.1)).trans (e2 l)) ?_
      refine p_aGc ((st_ne h1 (fun z => d 1 4 (by decide) z.1)).trans ((e1 _).trans es.e)) ?_
      refine p_aS (fun M2 h2 => ?_)
      have ga2 : ∀ j, mG M2 a j = mG M' a j := fun j => (st_ne h2 (fun z => d0 5 (by decide) z.1)).trans (ga1 j)
      refine p_gFc (ji := 5) rfl ((ga2 _).trans ((e 5 (by decide)).trans c5)) ?_
      have t69 : pw (mX3_layOut_69 (mX3_layOut_7 fu) a l (a + 6) l (szC a M (mG M (a + 3) l)) M2) (fun q => LO a q.2 ∧ FrL a M q.2) := by
        unfold mX3_layOut_69
        refine p_aS (fun M3 h3 => ?_)
        have ga : ∀ j, mG M3 a j = mG M' a j := fun j => (st_ne h3 (fun z => d0 6 (by decide) z.1)).trans (ga2 j)
        refine p_gFc (ji := 7) rfl ((ga 7).trans h7.e) ?_
        refine p_gFc (ji := 4) rfl ((ga 4).trans ((e 4 (by decide)).trans c4)) ?_
        refine p_aGc ((st_ne h3 (fun z => d 5 6 (by decide) z.1)).trans (st_eq h2)) ?_
        refine p_gFc (ji := 5) rfl ((ga 5).trans ((e 5 (by decide)).trans c5)) ?_
        refine p_aGc (st_eq h3) ?_
        rw [ww.1.e]
        refine p_pF (ji := 7) rfl (fun M4 h4 => ?_)
        rw [ww.2.e]
        obtain ⟨s1, s2⟩ := lay_step fr hr h1 h2 h3 h4 rfl rfl rfl
        exact ih (l + 1) M4 hl' s1 (st_eq h4) s2
      refine p_if (fun c2' => ?_) (fun c2' => ?_)
      · have ez : szC a M (mG M (a + 3) l) = 1 := by unfold szC; rw [if_pos c2']
        rw [ez] at t69; exact t69
      · have ez : mG M (a + 1) (mG M (a + 3) l) = szC a M (mG M (a + 3) l) := by unfold szC; rw [if_neg c2']
        refine p_gFc (ji := 0) rfl ((ga2 _).trans ((e 0 (by decide)).trans c0)) ?_
        exact p_aGc ((st_ne h2 (fun z => d 1 5 (by decide) z.1)).trans ((st_ne h1 (fun z => d 1 4 (by decide) z.1)).trans ((e1 _).trans ez))) t69
  unfold mX3_layOut
  refine p_pF (ji := 7) rfl (fun M1 h1 => ?_)
  exact key FU 0 M1 r6.1 (fun b j x y => st_ne h1 x) (st_eq h1) (fun r hr => absurd hr (Nat.not_lt_zero r))
/-! the class's changes -/
theorem pl_isKind {M : Mem} {k : Int} : pw (mX3_isKind k M) (fun q => q.2 = M ∧ ((q.1 = 1 ∧ 0 ≤ k ∧ k ≤ 2) ∨ (q.1 = 0 ∧ ¬ (0 ≤ k ∧ k ≤ 2)))) := by
  unfold mX3_isKind
  exact p_if (fun _ => p_ret ⟨rfl, Or.inr ⟨rfl, by omega⟩⟩) (fun _ => p_if (fun _ => p_ret ⟨rfl, Or.inr ⟨rfl, by omega⟩⟩) (fun _ => p_ret ⟨rfl, Or.inl ⟨rfl, by omega, by omega⟩⟩))
theorem LO.of {a : Int} {M M' : Mem} (h : LO a M) (g : ∀ b j : Int, a ≤ b → b ≤ a + 6 → mG M' b j = mG M b j) : LO a M' := by
  have e1 : ∀ j, mG M' (a + 1) j = mG M (a + 1) j := fun j => g _ j (by omega) (by omega)
  have e2 : ∀ j, mG M' (a + 2) j = mG M (a + 2) j := fun j => g _ j (by omega) (by omega)
  have e3 : ∀ j, mG M' (a + 3) j = mG M (a + 3) j := fun j => g _ j (by omega) (by omega)
  unfold LO szC
  rw [g a 7 (by omega) (by omega), g a 6 (by omega) (by omega)]
  refine ⟨by rw [stC_of e1 e2 e3]; exact h.1, fun r hr => ?_⟩
  rw [stC_of e1 e2 e3, e2, e3, e1, e1, g (a + 4) r (by omega) (by omega), g (a + 5) r (by omega) (by omega), g (a + 6) r (by omega) (by omega)]
  exact h.2 r hr
theorem pl_forget' {M : Mem} (e2 : mG M 2 2 = 24) : pw (mX4_forget 2 M) (fun q => ∀ b j : Int, ¬ b = 2 → ¬ b = 24 → mG q.2 b j = mG M b j) := by
  unfold mX4_forget
  refine p_pF (ji := 4) rfl (fun M1 h1 => p_pF (ji := 10) rfl (fun M2 h2 => ?_))
  have e : mG M2 2 2 = 24 := by rw [st_ne h2 (fun z => absurd z.2 (by decide)), st_ne h1 (fun z => absurd z.2 (by decide))]; exact e2
  refine p_gFc (ji := 2) rfl e (p_gK ?_)
  unfold mX1_forget
  refine p_call (P := fun q => ∀ b j : Int, ¬ b = 24 → mG q.2 b j = mG M2 b j) ?_ ?_
  · refine p_pZ (ji := 6) rfl (fun M3 h3 => p_pZ (ji := 7) rfl (fun M4 h4 => p_ret (fun b j hb => ?_)))
    rw [st_ne h4 (fun z => hb z.1), st_ne h3 (fun z => hb z.1)]
  · intro r m h
    refine p_ret (fun b j x y => ?_)
    show mG m b j = _
    rw [h b j y, st_ne h2 (fun z => x z.1), st_ne h1 (fun z => x z.1)]
theorem pl_clearWorlds' {M : Mem} (e3 : mG M 3 3 = 12) : pw (mX6_clearWorlds 3 M) (fun q => ∀ b j : Int, ¬ (b = 3 ∧ j = 1) → ¬ b = 12 → mG q.2 b j = mG M b j) := by
  have key : ∀ (fu : Nat) (l : Int) (M' : Mem), (∀ b j : Int, ¬ (b = 3 ∧ j = 1) → ¬ b = 12 → mG M' b j = mG M b j) → pw (mX6_clearWorlds_7 fu 3 l M') (fun q => ∀ b j : Int, ¬ (b = 3 ∧ j = 1) → ¬ b = 12 → mG q.2 b j = mG M b j) := by
    intro fu
    induction fu with
    | zero => intro l M' _; exact p_none
    | succ fu ih =>
      intro l M' h
      show pw (bX6_clearWorlds_7 (mX6_clearWorlds_7 fu) 3 l M') _
      unfold bX6_clearWorlds_7
      refine p_if (fun _ => p_ret h) (fun _ => ?_)
      refine p_gFc (ji := 3) rfl ((h 3 3 (by omega) (by decide)).trans e3) (p_aSZ (fun M1 h1 => ?_))
      exact ih _ M1 (fun b j x y => (st_ne h1 (fun z => y (by omega))).trans (h b j x y))
  unfold mX6_clearWorlds
  exact p_pF (ji := 1) rfl (fun M1 h1 => key _ _ _ (fun b j x y => st_ne h1 x))
/-- the class's size -/
def C_size (l1 l2 : Int) (M : Mem) : Prop := 0 ≤ l1 ∧ l1 ≤ 2 ∧ 1 ≤ l2 ∧ l2 ≤ 3 ∧ ¬ mG M 5 l1 = l2
theorem pl_size {n : Nat} {l1 l2 : Int} {M : Mem} (iM : I n M) : pw (mX8_size 1 l1 l2 M) (fun q => (q.1 = 0 ∧ ¬ C_size l1 l2 M ∧ q.2 = M) ∨ (q.1 = 1 ∧ C_size l1 l2 M ∧ LO 4 q.2 ∧ mG q.2 5 l1 = l2 ∧ ∀ b j : Int, ¬ (b = 5 ∧ j = l1) → ¬ (b = 4 ∧ j = 7) → ¬ (8 ≤ b ∧ b ≤ 10) → ¬ (b = 3 ∧ j = 1) → ¬ b = 12 → ¬ b = 2 → ¬ b = 24 → mG q.2 b j = mG M b j)) := by
  have i1 : mG M 1 1 = 3 := rd_VS_1 iM (a := 1) rfl
  have i0 : mG M 1 0 = 2 := rd_VS_0 iM (a := 1) rfl
  have s4 : mG M 3 0 = 4 := rd_Told_0 iM (a := 3) rfl
  have s5 : mG M 4 0 = 5 := rd_Shape_0 iM (a := 4) rfl
  unfold mX8_size
  refine p_gFc (ji := 1) rfl i1 (p_gFc (ji := 0) rfl s4 (p_gK ?_))
  refine p_call (P := fun q => (q.1 = 0 ∧ ¬ C_size l1 l2 M ∧ q.2 = M) ∨ (q.1 = 1 ∧ C_size l1 l2 M ∧ LO 4 q.2 ∧ ∃ M1, M1 = mS M 5 l1 l2 ∧ FrL 4 M1 q.2)) ?_ ?_
  · unfold mX3_resize
    refine p_call pl_isKind ?_
    rintro r m ⟨e, h⟩
    have e : m = M := e
    have h : (r = 1 ∧ 0 ≤ l1 ∧ l1 ≤ 2) ∨ (r = 0 ∧ ¬ (0 ≤ l1 ∧ l1 ≤ 2)) := h
    subst e
    dsimp only
    refine p_if (fun c => p_ret (Or.inl ⟨rfl, fun z => by have := z.1; have := z.2.1; omega, rfl⟩)) (fun c => ?_)
    refine p_if (fun c2 => p_ret (Or.inl ⟨rfl, fun z => by have := z.2.2.1; omega, rfl⟩)) (fun c2 => ?_)
    refine p_if (fun c3 => p_ret (Or.inl ⟨rfl, fun z => by have := z.2.2.2.1; omega, rfl⟩)) (fun c3 => ?_)
    refine p_gFc (ji := 0) rfl s5 (p_aG (fun v hv => ?_))
    refine p_if (fun c4 => p_ret (Or.inl ⟨rfl, fun z => z.2.2.2.2 (hv.trans c4), rfl⟩)) (fun c4 => ?_)
    refine p_gFc (ji := 0) rfl s5 (p_aS (fun M1 h1 => p_gK ?_))
    have iM1 : I n M1 := wr_Ssizes iM (a := 5) rfl ⟨by omega, by omega⟩ h1
    refine p_call (pl_layOut (iM1.sg (Or.inl rfl))) ?_
    rintro r2 m2 ⟨lo, fr⟩
    exact p_ret (Or.inr ⟨rfl, ⟨by omega, by omega, by omega, by omega, fun z => c4 (hv.symm.trans z)⟩, lo, M1, h1, fr⟩)
  · rintro r m h
    dsimp only
    rcases h with ⟨e0, e1, e2⟩ | ⟨e0, e1, lo, M1, h1, fr⟩
    · have e0 : r = 0 := e0
      have e2 : m = M := e2
      subst e2
      refine p_if (fun c => p_ret (Or.inl ⟨rfl, e1, rfl⟩)) (fun c => absurd e0 c)
    · have e0 : r = 1 := e0
      have lo : LO 4 m := lo
      have fr : FrL 4 M1 m := fr
      refine p_if (fun c => by omega) (fun c => ?_)
      have g : ∀ b j : Int, ¬ (b = 5 ∧ j = l1) → ¬ (b = 4 ∧ j = 7) → ¬ (8 ≤ b ∧ b ≤ 10) → mG m b j = mG M b j := fun b j x y z => (fr b j y z).trans (st_ne h1 x)
      refine p_gFc (ji := 1) rfl ((g 1 1 (by omega) (by omega) (by decide)).trans i1) (p_gK ?_)
      refine p_call (pl_clearWorlds' ((g 3 3 (by omega) (by omega) (by decide)).trans (rd_Told_3 iM (a := 3) rfl))) ?_
      intro r2 m2 g2
      have g2 : ∀ b j : Int, ¬ (b = 3 ∧ j = 1) → ¬ b = 12 → mG m2 b j = mG m b j := g2
      refine p_gFc (ji := 0) rfl ((g2 1 0 (by omega) (by decide)).trans ((g 1 0 (by omega) (by omega) (by decide)).trans i0)) (p_gK ?_)
      refine p_call (pl_forget' ((g2 2 2 (by omega) (by decide)).trans ((g 2 2 (by omega) (by omega) (by decide)).trans (rd_Solver_2 iM (a := 2) rfl)))) ?_
      intro r3 m3 g3
      have g3 : ∀ b j : Int, ¬ b = 2 → ¬ b = 24 → mG m3 b j = mG m2 b j := g3
      refine p_ret (Or.inr ⟨rfl, e1, ?_, ?_, fun b j x1 x2 x3 x4 x5 x6 x7 => ?_⟩)
      · exact lo.of (fun b j b0 b1 => by rw [g3 b j (by omega) (by omega), g2 b j (by omega) (by omega)])
      · show mG m3 5 l1 = l2
        rw [g3 5 l1 (by decide) (by decide), g2 5 l1 (by omega) (by decide), fr 5 l1 (by omega) (by omega)]
        exact st_eq h1
      · show mG m3 b j = _
        rw [g3 b j x6 x7, g2 b j x4 x5]
        exact g b j x1 x2 x3
/-- the class's relation -/
def C_rel (l1 l2 : Int) (M : Mem) : Prop := mG M 4 6 < 4 ∧ 0 ≤ l1 ∧ l1 ≤ 2 ∧ -1 ≤ l2 ∧ l2 ≤ 2
theorem pl_relation {n : Nat} {l1 l2 : Int} {M : Mem} (iM : I n M) : pw (mX8_relation 1 l1 l2 M) (fun q => (q.1 = -1 ∧ ¬ C_rel l1 l2 M ∧ q.2 = M) ∨ (q.1 = mG M 4 6 ∧ C_rel l1 l2 M ∧ LO 4 q.2 ∧ mG q.2 4 6 = mG M 4 6 + 1 ∧ mG q.2 6 (mG M 4 6) = l1 ∧ mG q.2 7 (mG M 4 6) = l2 ∧ ∀ b j : Int, ¬ (b = 6 ∧ j = mG M 4 6) → ¬ (b = 7 ∧ j = mG M 4 6) → ¬ (b = 4 ∧ j = 6) → ¬ (b = 4 ∧ j = 7) → ¬ (8 ≤ b ∧ b ≤ 10) → ¬ (b = 3 ∧ j = 1) → ¬ b = 12 → ¬ b = 2 → ¬ b = 24 → mG q.2 b j = mG M b j)) := by
  have i1 : mG M 1 1 = 3 := rd_VS_1 iM (a := 1) rfl
  have i0 : mG M 1 0 = 2 := rd_VS_0 iM (a := 1) rfl
  have s4 : mG M 3 0 = 4 := rd_Told_0 iM (a := 3) rfl
  have s6 : mG M 4 1 = 6 := rd_Shape_1 iM (a := 4) rfl
  have s7 : mG M 4 2 = 7 := rd_Shape_2 iM (a := 4) rfl
  have r6 := rd_Shape_6 iM (a := 4) rfl
  obtain ⟨R, hR⟩ : ∃ R, mG M 4 6 = R := ⟨_, rfl⟩
  unfold C_rel
  rw [hR] at r6 ⊢
  unfold mX8_relation
  refine p_gFc (ji := 1) rfl i1 (p_gFc (ji := 0) rfl s4 (p_gK ?_))
  refine p_call (P := fun q => (q.1 = -1 ∧ ¬ (R < 4 ∧ 0 ≤ l1 ∧ l1 ≤ 2 ∧ -1 ≤ l2 ∧ l2 ≤ 2) ∧ q.2 = M) ∨ (q.1 = R ∧ (R < 4 ∧ 0 ≤ l1 ∧ l1 ≤ 2 ∧ -1 ≤ l2 ∧ l2 ≤ 2) ∧ LO 4 q.2 ∧ ∃ M1 M2 M3, M1 = mS M 6 R l1 ∧ M2 = mS M1 7 R l2 ∧ M3 = mS M2 4 6 (R + 1) ∧ FrL 4 M3 q.2)) ?_ ?_
  · unfold mX3_addRelation
    refine p_gFc (ji := 6) rfl hR (p_if (fun c => p_ret (Or.inl ⟨rfl, fun z => by omega, rfl⟩)) (fun c => ?_))
    refine p_call pl_isKind ?_
    rintro r m ⟨e, h⟩
    have e : m = M := e
    have h : (r = 1 ∧ 0 ≤ l1 ∧ l1 ≤ 2) ∨ (r = 0 ∧ ¬ (0 ≤ l1 ∧ l1 ≤ 2)) := h
    subst e
    dsimp only
    refine p_if (fun c1 => p_ret (Or.inl ⟨rfl, fun z => by omega, rfl⟩)) (fun c1 => ?_)
    have t29 : -1 ≤ l2 → l2 ≤ 2 → pw (mX3_addRelation_29 4 l1 l2 m) (fun q => (q.1 = -1 ∧ ¬ (R < 4 ∧ 0 ≤ l1 ∧ l1 ≤ 2 ∧ -1 ≤ l2 ∧ l2 ≤ 2) ∧ q.2 = m) ∨ (q.1 = R ∧ (R < 4 ∧ 0 ≤ l1 ∧ l1 ≤ 2 ∧ -1 ≤ l2 ∧ l2 ≤ 2) ∧ LO 4 q.2 ∧ ∃ M1 M2 M3, M1 = mS m 6 R l1 ∧ M2 = mS M1 7 R l2 ∧ M3 = mS M2 4 6 (R + 1) ∧ FrL 4 M3 q.2)) := by
      intro b0 b1
      have w1 := wI_id (x := R + 1) (by omega) (by omega)
      have w2 := wI_id (x := R + 1 - 1) (by omega) (by omega)
      unfold mX3_addRelation_29
      refine p_gFc (ji := 1) rfl s6 (p_gFc (ji := 6) rfl hR (p_aS (fun M1 h1 => ?_)))
      have j1 : I n M1 := wr_Sfirst iM (a := 6) rfl ⟨by omega, by omega⟩ h1
      refine p_gFc (ji := 2) rfl ((st_ne h1 (fun z => absurd z.1 (by decide))).trans s7) (p_gFc (ji := 6) rfl ((st_ne h1 (fun z => absurd z.1 (by decide))).trans hR) (p_aS (fun M2 h2 => ?_)))
      have j2 : I n M2 := wr_Ssecond j1 (a := 7) rfl ⟨b0, b1⟩ h2
      refine p_gFc (ji := 6) rfl ((st_ne h2 (fun z => absurd z.1 (by decide))).trans ((st_ne h1 (fun z => absurd z.1 (by decide))).trans hR)) ?_
      rw [w1]
      refine p_pF (ji := 6) rfl (fun M3 h3 => p_gK ?_)
      have j3 : I n M3 := wr_Shape_6 j2 (a := 4) rfl ⟨by omega, by omega⟩ h3
      refine p_call (pl_layOut (j3.sg (Or.inl rfl))) ?_
      rintro r2 m2 ⟨lo, fr⟩
      have fr : FrL 4 M3 m2 := fr
      refine p_gFc (ji := 6) rfl ((fr 4 6 (by omega) (by omega)).trans (st_eq h3)) ?_
      rw [w2]
      exact p_ret (Or.inr ⟨by show R + 1 - 1 = R; omega, by omega, lo, M1, M2, M3, h1, h2, h3, fr⟩)
    refine p_if (fun c2 => t29 (by omega) (by omega)) (fun c2 => ?_)
    refine p_call pl_isKind ?_
    rintro r2 m2 ⟨e, h2⟩
    have e : m2 = m := e
    have h2 : (r2 = 1 ∧ 0 ≤ l2 ∧ l2 ≤ 2) ∨ (r2 = 0 ∧ ¬ (0 ≤ l2 ∧ l2 ≤ 2)) := h2
    subst e
    dsimp only
    exact p_if (fun c1 => p_ret (Or.inl ⟨rfl, fun z => by omega, rfl⟩)) (fun c1 => t29 (by omega) (by omega))
  · rintro r m h
    dsimp only
    rcases h with ⟨e0, e1, e2⟩ | ⟨e0, e1, lo, M1, M2, M3, h1, h2, h3, fr⟩
    · have e0 : r = -1 := e0
      have e2 : m = M := e2
      subst e2
      unfold mX8_relation_32
      refine p_if (fun c => p_ret (Or.inl ⟨e0, e1, rfl⟩)) (fun c => absurd e0 c)
    · have e0 : r = R := e0
      have lo : LO 4 m := lo
      have fr : FrL 4 M3 m := fr
      refine p_if (fun c => by omega) (fun c => ?_)
      have g : ∀ b j : Int, ¬ (b = 6 ∧ j = R) → ¬ (b = 7 ∧ j = R) → ¬ (b = 4 ∧ j = 6) → ¬ (b = 4 ∧ j = 7) → ¬ (8 ≤ b ∧ b ≤ 10) → mG m b j = mG M b j := fun b j x y z u v => (fr b j u v).trans ((st_ne h3 z).trans ((st_ne h2 y).trans (st_ne h1 x)))
      have g0 : ∀ b j : Int, b ≤ 3 → mG m b j = mG M b j := fun b j hb => g b j (by omega) (by omega) (by omega) (by omega) (by omega)
      refine p_gFc (ji := 1) rfl ((g0 1 1 (by decide)).trans i1) (p_gK ?_)
      refine p_call (pl_clearWorlds' ((g0 3 3 (by decide)).trans (rd_Told_3 iM (a := 3) rfl))) ?_
      intro r2 m2 g2
      have g2 : ∀ b j : Int, ¬ (b = 3 ∧ j = 1) → ¬ b = 12 → mG m2 b j = mG m b j := g2
      refine p_gFc (ji := 0) rfl ((g2 1 0 (by omega) (by decide)).trans ((g0 1 0 (by decide)).trans i0)) (p_gK ?_)
      refine p_call (pl_forget' ((g2 2 2 (by omega) (by decide)).trans ((g0 2 2 (by decide)).trans (rd_Solver_2 iM (a := 2) rfl)))) ?_
      intro r3 m3 g3
      have g3 : ∀ b j : Int, ¬ b = 2 → ¬ b = 24 → mG m3 b j = mG m2 b j := g3
      have gg : ∀ b j : Int, 4 ≤ b → b ≤ 10 → mG m3 b j = mG m b j := fun b j b0 b1 => by rw [g3 b j (by omega) (by omega), g2 b j (by omega) (by omega)]
      unfold mX8_relation_32
      refine p_ret (Or.inr ⟨e0, e1, ?_, ?_, ?_, ?_, fun b j x1 x2 x3 x4 x5 x6 x7 x8 x9 => ?_⟩)
      · exact lo.of (fun b j b0 b1 => gg b j b0 (by omega))
      · show mG m3 4 6 = R + 1
        rw [gg 4 6 (by decide) (by decide), fr 4 6 (by omega) (by omega)]
        exact st_eq h3
      · show mG m3 6 R = l1
        rw [gg 6 R (by decide) (by decide), fr 6 R (by omega) (by omega), st_ne h3 (fun z => absurd z.1 (by decide)), st_ne h2 (fun z => absurd z.1 (by decide))]
        exact st_eq h1
      · show mG m3 7 R = l2
        rw [gg 7 R (by decide) (by decide), fr 7 R (by omega) (by omega), st_ne h3 (fun z => absurd z.1 (by decide))]
        exact st_eq h2
      · show mG m3 b j = _
        rw [g3 b j x8 x9, g2 b j x6 x7]
        exact g b j x1 x2 x3 x4 x5
/-- the class's known -/
def C_kn (l1 l2 l3 : Int) (M : Mem) : Prop := mG M 3 18 < 40 ∧ (0 ≤ l1 ∧ l1 < mG M 4 6) ∧ (0 ≤ l2 ∧ l2 ≤ 2) ∧ (mG M 7 l1 = -1 ∨ (0 ≤ l3 ∧ l3 ≤ 2))
theorem pl_known {n : Nat} {l1 l2 l3 l4 : Int} {M : Mem} (iM : I n M) : pw (mX8_known 1 l1 l2 l3 l4 M) (fun q => (q.1 = 0 ∧ ¬ C_kn l1 l2 l3 M ∧ q.2 = M) ∨ (q.1 = 1 ∧ C_kn l1 l2 l3 M ∧ mG q.2 3 18 = mG M 3 18 + 1 ∧ mG q.2 17 (mG M 3 18) = 9 * l1 + 3 * l2 + (if mG M 7 l1 = -1 then 0 else l3) ∧ mG q.2 18 (mG M 3 18) = l4 ∧ mG q.2 19 (mG M 3 18) = mG M 3 13 ∧ ∀ b j : Int, ¬ (17 ≤ b ∧ b ≤ 19 ∧ j = mG M 3 18) → ¬ (b = 3 ∧ j = 18) → mG q.2 b j = mG M b j)) := by
  have i1 : mG M 1 1 = 3 := rd_VS_1 iM (a := 1) rfl
  have s4 : mG M 3 0 = 4 := rd_Told_0 iM (a := 3) rfl
  have r6 := rd_Shape_6 iM (a := 4) rfl
  have r18 := rd_Told_18 iM (a := 3) rfl
  obtain ⟨K, hK⟩ : ∃ K, mG M 3 18 = K := ⟨_, rfl⟩
  unfold C_kn
  rw [hK] at r18 ⊢
  have t16 : ∀ s0 : Int, (s0 = if mG M 7 l1 = -1 then 0 else l3) ∨ ¬ (0 ≤ l1 ∧ l1 < mG M 4 6) → pw (mX6_addKnown_16 3 l1 l2 l4 s0 M) (fun q => (q.1 = 0 ∧ ¬ (K < 40 ∧ (0 ≤ l1 ∧ l1 < mG M 4 6) ∧ (0 ≤ l2 ∧ l2 ≤ 2) ∧ (mG M 7 l1 = -1 ∨ (0 ≤ l3 ∧ l3 ≤ 2))) ∧ q.2 = M) ∨ (q.1 = 1 ∧ (K < 40 ∧ (0 ≤ l1 ∧ l1 < mG M 4 6) ∧ (0 ≤ l2 ∧ l2 ≤ 2) ∧ (mG M 7 l1 = -1 ∨ (0 ≤ l3 ∧ l3 ≤ 2))) ∧ mG q.2 3 18 = K + 1 ∧ mG q.2 17 K = 9 * l1 + 3 * l2 + (if mG M 7 l1 = -1 then 0 else l3) ∧ mG q.2 18 K = l4 ∧ mG q.2 19 K = mG M 3 13 ∧ ∀ b j : Int, ¬ (17 ≤ b ∧ b ≤ 19 ∧ j = K) → ¬ (b = 3 ∧ j = 18) → mG q.2 b j = mG M b j)) := by
    intro s0 hs
    unfold mX6_addKnown_16
    refine p_gFc (ji := 18) rfl hK (p_if (fun c => p_ret (Or.inl ⟨rfl, fun z => by omega, rfl⟩)) (fun c => ?_))
    refine p_gFc (ji := 0) rfl s4 (p_gK (p_call pu_hasRelation ?_))
    rintro r m ⟨e, h⟩
    have e : m = M := e
    have h : (r = 0 ∧ ¬ (0 ≤ l1 ∧ l1 < mG M 4 6)) ∨ (r = 1 ∧ 0 ≤ l1 ∧ l1 < mG M 4 6) := h
    subst e
    dsimp only
    refine p_if (fun c1 => p_ret (Or.inl ⟨rfl, fun z => by have := z.2.1; omega, rfl⟩)) (fun c1 => ?_)
    have hs := hs.resolve_right (fun z => z (by omega))
    refine p_if (fun c2 => p_ret (Or.inl ⟨rfl, fun z => by have := z.2.2.1; omega, rfl⟩)) (fun c2 => ?_)
    refine p_if (fun c3 => p_ret (Or.inl ⟨rfl, fun z => by have := z.2.2.1; omega, rfl⟩)) (fun c3 => ?_)
    refine p_if (fun c4 => p_ret (Or.inl ⟨rfl, fun z => by have := z.2.2.2; split at hs <;> omega, rfl⟩)) (fun c4 => ?_)
    refine p_if (fun c5 => ?_) (fun c5 => p_ret (Or.inl ⟨rfl, fun z => by have := z.2.2.2; split at hs <;> omega, rfl⟩))
    have w1 := wI_id (x := l1 * 3) (by omega) (by omega)
    have w2 := wI_id (x := l1 * 3 + l2) (by omega) (by omega)
    have w3 := wI_id (x := (l1 * 3 + l2) * 3) (by omega) (by omega)
    have w4 := wI_id (x := (l1 * 3 + l2) * 3 + s0) (by omega) (by omega)
    have w5 := wI_id (x := K + 1) (by omega) (by omega)
    refine p_gFc (ji := 15) (r := 17) rfl (rd_Told_15 iM (a := 3) rfl) (p_gFc (ji := 18) rfl hK ?_)
    rw [w1, w2, w3, w4]
    refine p_aS (fun M1 h1 => ?_)
    have g1 : ∀ j, mG M1 3 j = mG m 3 j := fun j => st_ne h1 (fun z => absurd z.1 (by decide))
    refine p_gFc (ji := 16) (r := 18) rfl ((g1 _).trans (rd_Told_16 iM (a := 3) rfl)) (p_gFc (ji := 18) rfl ((g1 _).trans hK) (p_aSZ (fun M2 h2 => ?_)))
    have g2 : ∀ j, mG M2 3 j = mG m 3 j := fun j => (st_ne h2 (fun z => absurd z.1 (by decide))).trans (g1 j)
    refine p_gFc (ji := 17) (r := 19) rfl ((g2 _).trans (rd_Told_17 iM (a := 3) rfl)) (p_gFc (ji := 18) rfl ((g2 _).trans hK) (p_gFc (ji := 13) rfl (g2 13) (p_aS (fun M3 h3 => ?_))))
    have g3 : ∀ j, mG M3 3 j = mG m 3 j := fun j => (st_ne h3 (fun z => absurd z.1 (by decide))).trans (g2 j)
    refine p_gFc (ji := 18) rfl ((g3 _).trans hK) ?_
    rw [w5]
    refine p_pF (ji := 18) rfl (fun M4 h4 => ?_)
    refine p_ret (Or.inr ⟨rfl, ⟨by omega, by omega, by omega, ?_⟩, st_eq h4, ?_, ?_, ?_, fun b j x y => ?_⟩)
    · by_cases e : mG m 7 l1 = -1
      · exact Or.inl e
      · rw [if_neg e] at hs; exact Or.inr (by omega)
    · rw [st_ne h4 (fun z => absurd z.1 (by decide)), st_ne h3 (fun z => absurd z.1 (by decide)), st_ne h2 (fun z => absurd z.1 (by decide)), st_eq h1, ← hs]; omega
    · rw [st_ne h4 (fun z => absurd z.1 (by decide)), st_ne h3 (fun z => absurd z.1 (by decide)), st_eq h2]
    · rw [st_ne h4 (fun z => absurd z.1 (by decide)), st_eq h3]
    · rw [st_ne h4 y, st_ne h3 (fun z => x (by omega)), st_ne h2 (fun z => x (by omega)), st_ne h1 (fun z => x (by omega))]
  unfold mX8_known
  refine p_gFc (ji := 1) rfl i1 (p_gK ?_)
  unfold mX6_addKnown
  refine p_call (P := fun q => (q.1 = 0 ∧ ¬ (K < 40 ∧ (0 ≤ l1 ∧ l1 < mG M 4 6) ∧ (0 ≤ l2 ∧ l2 ≤ 2) ∧ (mG M 7 l1 = -1 ∨ (0 ≤ l3 ∧ l3 ≤ 2))) ∧ q.2 = M) ∨ (q.1 = 1 ∧ (K < 40 ∧ (0 ≤ l1 ∧ l1 < mG M 4 6) ∧ (0 ≤ l2 ∧ l2 ≤ 2) ∧ (mG M 7 l1 = -1 ∨ (0 ≤ l3 ∧ l3 ≤ 2))) ∧ mG q.2 3 18 = K + 1 ∧ mG q.2 17 K = 9 * l1 + 3 * l2 + (if mG M 7 l1 = -1 then 0 else l3) ∧ mG q.2 18 K = l4 ∧ mG q.2 19 K = mG M 3 13 ∧ ∀ b j : Int, ¬ (17 ≤ b ∧ b ≤ 19 ∧ j = K) → ¬ (b = 3 ∧ j = 18) → mG q.2 b j = mG M b j)) ?_ (fun r m h => p_zR (fun _ => p_ret h))
  refine p_gFc (ji := 0) rfl s4 (p_gK ?_)
  refine p_call (P := fun q => q.2 = M ∧ ((q.1 = 0 ∧ (¬ (0 ≤ l1 ∧ l1 < mG M 4 6) ∨ mG M 7 l1 = -1)) ∨ (q.1 = 1 ∧ ¬ mG M 7 l1 = -1))) ?_ ?_
  · unfold mX3_isOfTwo
    refine p_if (fun c => p_ret ⟨rfl, Or.inl ⟨rfl, Or.inl (by omega)⟩⟩) (fun c => ?_)
    refine p_gF (ji := 6) rfl (fun v hv => p_if (fun c2 => p_ret ⟨rfl, Or.inl ⟨rfl, Or.inl (by omega)⟩⟩) (fun c2 => ?_))
    refine p_gFc (ji := 2) rfl (rd_Shape_2 iM (a := 4) rfl) (p_aG (fun w hw => p_if (fun c3 => p_ret ⟨rfl, Or.inl ⟨rfl, Or.inr (hw.trans c3)⟩⟩) (fun c3 => p_ret ⟨rfl, Or.inr ⟨rfl, fun z => c3 (hw.symm.trans z)⟩⟩)))
  · rintro r m ⟨e, h⟩
    have e : m = M := e
    have h : (r = 0 ∧ (¬ (0 ≤ l1 ∧ l1 < mG M 4 6) ∨ mG M 7 l1 = -1)) ∨ (r = 1 ∧ ¬ mG M 7 l1 = -1) := h
    subst e
    dsimp only
    refine p_if (fun c => t16 0 ?_) (fun c => t16 l3 (Or.inl ?_))
    · rcases h with ⟨_, h | h⟩ | ⟨h, _⟩
      · exact Or.inr h
      · exact Or.inl (by rw [if_pos h])
      · exact absurd (h.symm.trans c) (by decide)
    · rcases h with ⟨h, _⟩ | ⟨_, h⟩
      · exact absurd h c
      · rw [if_neg h]
