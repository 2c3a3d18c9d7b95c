section
/-! ===== what both sides hold, and that it is alike ===== -/
def sOf (i : Int) : Int := if i = 0 then 3 else 75 + 17 * (i - 1)
def szC (a : Int) (M : Mem) (k : Int) : Int := if k = -1 then 1 else mG M (a + 1) k
def stC (a : Int) (M : Mem) : Nat → Int
  | 0 => 0
  | r + 1 => stC a M r + szC a M (mG M (a + 2) r) * szC a M (mG M (a + 3) r)
/-- a shape is laid out -/
def LO (a : Int) (M : Mem) : Prop := mG M a 7 = stC a M (mG M a 6).toNat ∧ ∀ r : Nat, (r : Int) < mG M a 6 → mG M (a + 4) r = stC a M r ∧ mG M (a + 5) r = szC a M (mG M (a + 2) r) ∧ mG M (a + 6) r = szC a M (mG M (a + 3) r)
theorem stC_of {a : Int} {M M' : Mem} (g1 : ∀ j, mG M' (a + 1) j = mG M (a + 1) j) (g2 : ∀ j, mG M' (a + 2) j = mG M (a + 2) j) (g3 : ∀ j, mG M' (a + 3) j = mG M (a + 3) j) : ∀ r : Nat, stC a M' r = stC a M r := by
  intro r
  induction r with
  | zero => rfl
  | succ r ih =>
    show stC a M' r + szC a M' (mG M' (a + 2) r) * szC a M' (mG M' (a + 3) r) = stC a M r + szC a M (mG M (a + 2) r) * szC a M (mG M (a + 3) r)
    unfold szC
    rw [ih, g2, g3, g1, g1]
/-- a shape that is as it must be -/
def SG (a : Int) (M : Mem) : Prop := (∀ k : Int, 0 ≤ k → k ≤ 5 → mG M a k = a + 1 + k) ∧ (0 ≤ mG M a 6 ∧ mG M a 6 ≤ 4) ∧ (∀ k : Int, 0 ≤ k → k < 3 → 1 ≤ mG M (a + 1) k ∧ mG M (a + 1) k ≤ 3) ∧ (∀ r : Int, 0 ≤ mG M (a + 2) r ∧ mG M (a + 2) r ≤ 2) ∧ ∀ r : Int, -1 ≤ mG M (a + 3) r ∧ mG M (a + 3) r ≤ 2
theorem I.sg {n : Nat} {a : Int} {M : Mem} (iM : I n M) (ha : isShape a) : SG a M := by
  refine ⟨fun k k0 k1 => ?_, rd_Shape_6 iM (f_Shape ha), fun k k0 k1 => rd_Ssizes iM (f_Ssizes ha) k0 k1, fun r => rd_Sfirst iM (f_Sfirst ha), fun r => rd_Ssecond iM (f_Ssecond ha)⟩
  obtain e | e | e | e | e | e : k = 0 ∨ k = 1 ∨ k = 2 ∨ k = 3 ∨ k = 4 ∨ k = 5 := by omega
  · subst e; exact (rd_Shape_0 iM (f_Shape ha)).trans (by omega)
  · subst e; exact (rd_Shape_1 iM (f_Shape ha)).trans (by omega)
  · subst e; exact (rd_Shape_2 iM (f_Shape ha)).trans (by omega)
  · subst e; exact (rd_Shape_3 iM (f_Shape ha)).trans (by omega)
  · subst e; exact (rd_Shape_4 iM (f_Shape ha)).trans (by omega)
  · subst e; exact (rd_Shape_5 iM (f_Shape ha)).trans (by omega)
theorem szC_b {a k : Int} {M : Mem} (sg : SG a M) (hk : -1 ≤ k ∧ k ≤ 2) : 1 ≤ szC a M k ∧ szC a M k ≤ 3 := by
  unfold szC
  split
  · decide
  · exact sg.2.2.1 k (by omega) (by omega)
theorem stC_b {a : Int} {M : Mem} (sg : SG a M) : ∀ r : Nat, 0 ≤ stC a M r ∧ stC a M r ≤ 9 * (r : Int) := by
  intro r
  induction r with
  | zero => exact ⟨Int.le_refl _, Int.le_refl _⟩
  | succ r ih =>
    have f1 := sg.2.2.2.1 r
    have f2 := sg.2.2.2.2 r
    have z1 := szC_b sg (k := mG M (a + 2) r) ⟨by omega, f1.2⟩
    have z2 := szC_b sg (k := mG M (a + 3) r) f2
    have p := mul_b (x := szC a M (mG M (a + 2) r)) (y := szC a M (mG M (a + 3) r)) (a := 3) (b := 3) (by omega) (by omega) (by omega) (by omega)
    show 0 ≤ stC a M r + szC a M (mG M (a + 2) r) * szC a M (mG M (a + 3) r) ∧ stC a M r + szC a M (mG M (a + 2) r) * szC a M (mG M (a + 3) r) ≤ 9 * ((r + 1 : Nat) : Int)
    omega
def FrL (a : Int) (M M' : Mem) : Prop := ∀ b j : Int, ¬ (b = a ∧ j = 7) → ¬ (a + 4 ≤ b ∧ b ≤ a + 6) → mG M' b j = mG M b j
def LR (a : Int) (M : Mem) (l : Nat) (M' : Mem) : Prop := ∀ r : Nat, r < l → mG M' (a + 4) r = stC a M r ∧ mG M' (a + 5) r = szC a M (mG M (a + 2) r) ∧ mG M' (a + 6) r = szC a M (mG M (a + 3) r)
theorem lay_step {a x y z w : Int} {l : Nat} {M M' M1 M2 M3 M4 : Mem} (fr : FrL a M M') (hr : LR a M l M') (h1 : M1 = mS M' (a + 4) l x) (h2 : M2 = mS M1 (a + 5) l y) (h3 : M3 = mS M2 (a + 6) l z) (h4 : M4 = mS M3 a 7 w) (ex : x = stC a M l) (ey : y = szC a M (mG M (a + 2) l)) (ez : z = szC a M (mG M (a + 3) l)) : FrL a M M4 ∧ LR a M (l + 1) M4 := by
  have d1 : ¬ a + 4 = a := by omega
  have d2 : ¬ a + 5 = a := by omega
  have d3 : ¬ a + 6 = a := by omega
  have d4 : ¬ a + 4 = a + 6 := by omega
  have d5 : ¬ a + 4 = a + 5 := by omega
  have d6 : ¬ a + 5 = a + 6 := by omega
  have d7 : ¬ a + 5 = a + 4 := by omega
  have d8 : ¬ a + 6 = a + 4 := by omega
  have d9 : ¬ a + 6 = a + 5 := by omega
  refine ⟨fun b j p q => ?_, fun r hr1 => ?_⟩
  · have n4 : ¬ b = a + 4 := fun e => q ⟨by omega, by omega⟩
    have n5 : ¬ b = a + 5 := fun e => q ⟨by omega, by omega⟩
    have n6 : ¬ b = a + 6 := fun e => q ⟨by omega, by omega⟩
    rw [st_ne h4 p, st_ne h3 (fun e => n6 e.1), st_ne h2 (fun e => n5 e.1), st_ne h1 (fun e => n4 e.1)]
    exact fr b j p q
  · by_cases er : r = l
    · subst er
      refine ⟨?_, ?_, ?_⟩
      · rw [st_ne h4 (fun e => d1 e.1), st_ne h3 (fun e => d4 e.1), st_ne h2 (fun e => d5 e.1), st_eq h1, ex]
      · rw [st_ne h4 (fun e => d2 e.1), st_ne h3 (fun e => d6 e.1), st_eq h2, ey]
      · rw [st_ne h4 (fun e => d3 e.1), st_eq h3, ez]
    · have nr : ¬ (r : Int) = (l : Int) := fun e => er (by omega)
      obtain ⟨x1, x2, x3⟩ := hr r (by omega)
      refine ⟨?_, ?_, ?_⟩
      · rw [st_ne h4 (fun e => d1 e.1), st_ne h3 (fun e => d4 e.1), st_ne h2 (fun e => d5 e.1), st_ne h1 (fun e => nr e.2)]; exact x1
      · rw [st_ne h4 (fun e => d2 e.1), st_ne h3 (fun e => d6 e.1), st_ne h2 (fun e => nr e.2), st_ne h1 (fun e => d7 e.1)]; exact x2
      · rw [st_ne h4 (fun e => d3 e.1), st_ne h3 (fun e => nr e.2), st_ne h2 (fun e => d9 e.1), st_ne h1 (fun e => d8 e.1)]; exact x3
theorem pl_layOut {a : Int} {M : Mem} (sg : SG a M) : pw (mX3_layOut a M) (fun q => LO a q.2 ∧ FrL a M q.2) := by
  have c0 : mG M a 0 = a + 1 := (sg.1 0 (by decide) (by decide)).trans (by omega)
  have c1 : mG M a 1 = a + 2 := (sg.1 1 (by decide) (by decide)).trans (by omega)
  have c2 : mG M a 2 = a + 3 := (sg.1 2 (by decide) (by decide)).trans (by omega)
  have c3 : mG M a 3 = a + 4 := (sg.1 3 (by decide) (by decide)).trans (by omega)
  have c4 : mG M a 4 = a + 5 := (sg.1 4 (by decide) (by decide)).trans (by omega)
  have c5 : mG M a 5 = a + 6 := (sg.1 5 (by decide) (by decide)).trans (by omega)
  have r6 := sg.2.1
  have d (k l : Int) (h : ¬ k = l) : ¬ a + k = a + l := by omega
  have d0 (k : Int) (h : ¬ k = 0) : ¬ a = a + k := by omega
  have key : ∀ (fu : Nat) (l : Nat) (M' : Mem), (l : Int) ≤ mG M a 6 → FrL a M M' → Is (mG M' a 7) (stC a M l) → LR a M l M' → pw (mX3_layOut_7 fu a l M') (fun q => LO a q.2 ∧ FrL a M q.2) := by
    intro fu
    induction fu with
    | zero => intro l M' _ _ _ _; exact p_none
    | succ fu ih =>
      intro l M' hl fr h7 hr
      have e : ∀ j, ¬ j = 7 → mG M' a j = mG M a j := fun j hj => fr a j (fun z => hj z.2) (fun z => by omega)
      have e1 : ∀ j, mG M' (a + 1) j = mG M (a + 1) j := fun j => fr _ j (fun z => by omega) (fun z => by omega)
      have e2 : ∀ j, mG M' (a + 2) j = mG M (a + 2) j := fun j => fr _ j (fun z => by omega) (fun z => by omega)
      have e3 : ∀ j, mG M' (a + 3) j = mG M (a + 3) j := fun j => fr _ j (fun z => by omega) (fun z => by omega)
      have f1 := sg.2.2.2.1 (l : Int)
      have f2 := sg.2.2.2.2 (l : Int)
      have z1 := szC_b sg (k := mG M (a + 2) l) ⟨by omega, f1.2⟩
      have z2 := szC_b sg (k := mG M (a + 3) l) f2
      have ww : Is (wI (stC a M l + wI (szC a M (mG M (a + 2) l) * szC a M (mG M (a + 3) l)))) (stC a M (l + 1)) ∧ Is (wI ((l : Int) + 1)) ((l + 1 : Nat) : Int) := by
        have p := mul_b (x := szC a M (mG M (a + 2) l)) (y := szC a M (mG M (a + 3) l)) (a := 3) (b := 3) (by omega) (by omega) (by omega) (by omega)
        have sb := stC_b sg l
        have w1 := wI_id (x := szC a M (mG M (a + 2) l) * szC a M (mG M (a + 3) l)) (by omega) (by omega)
        have w2 := wI_id (x := stC a M l + szC a M (mG M (a + 2) l) * szC a M (mG M (a + 3) l)) (by omega) (by omega)
        have w3 := wI_id (x := (l : Int) + 1) (by omega) (by omega)
        unfold Is
        rw [w1, w2, w3]
        exact ⟨rfl, rfl⟩
      have es : Is (mG M (a + 1) (mG M (a + 2) l)) (szC a M (mG M (a + 2) l)) := by unfold szC Is; rw [if_neg (by omega)]
      clear f1 f2 z1 z2
      show pw (bX3_layOut_7 (mX3_layOut_7 fu) a l M') _
      unfold bX3_layOut_7
      refine p_gFc (ji := 6) rfl (e 6 (by decide)) ?_
      refine p_if (fun c => ?_) (fun c => ?_)
      · have el : l = (mG M a 6).toNat := by omega
        refine p_ret ⟨⟨?_, fun r hr6 => ?_⟩, fr⟩
        · rw [h7.e, stC_of e1 e2 e3, e 6 (by decide), el]
        · have hr6 : (r : Int) < mG M' a 6 := hr6
          rw [e 6 (by decide)] at hr6
          obtain ⟨x1, x2, x3⟩ := hr r (by omega)
          unfold szC
          rw [stC_of e1 e2 e3, e2, e3, e1, e1]
          exact ⟨x1, x2, x3⟩
      have hl' : ((l + 1 : Nat) : Int) ≤ mG M a 6 := by omega
      clear hl c
      refine p_gFc (ji := 2) rfl ((e 2 (by decide)).trans c2) (p_aGc (e3 l) ?_)
      refine p_gFc (ji := 3) rfl ((e 3 (by decide)).trans c3) (p_gFc (ji := 7) rfl h7.e (p_aS (fun M1 h1 => ?_)))
      have ga1 : ∀ j, mG M1 a j = mG M' a j := fun j => st_ne h1 (fun z => d0 4 (by decide) z.1)
      refine p_gFc (ji := 4) rfl ((ga1 _).trans ((e 4 (by decide)).trans c4)) ?_
      refine p_gFc (ji := 0) rfl ((ga1 _).trans ((e 0 (by decide)).trans c0)) ?_
      refine p_gFc (ji := 1) rfl ((ga1 _).trans ((e 1 (by decide)).trans c1)) ?_
      refine p_aGc ((st_ne h1 (fun z => d 2 4 (by decide) z.1)).trans (e2 l)) ?_
      refine p_aGc ((st_ne h1 (fun z => d 1 4 (by decide) z.1)).trans ((e1 _).trans es.e)) ?_
      refine p_aS (fun M2 h2 => ?_)
      have ga2 : ∀ j, mG M2 a j = mG M' a j := fun j => (st_ne h2 (fun z => d0 5 (by decide) z.1)).trans (ga1 j)
      refine p_gFc (ji := 5) rfl ((ga2 _).trans ((e 5 (by decide)).trans c5)) ?_
      have t69 : pw (mX3_layOut_69 (mX3_layOut_7 fu) a l (a + 6) l (szC a M (mG M (a + 3) l)) M2) (fun q => LO a q.2 ∧ FrL a M q.2) := by
        unfold mX3_layOut_69
        refine p_aS (fun M3 h3 => ?_)
        have ga : ∀ j, mG M3 a j = mG M' a j := fun j => (st_ne h3 (fun z => d0 6 (by decide) z.1)).trans (ga2 j)
        refine p_gFc (ji := 7) rfl ((ga 7).trans h7.e) ?_
        refine p_gFc (ji := 4) rfl ((ga 4).trans ((e 4 (by decide)).trans c4)) ?_
        refine p_aGc ((st_ne h3 (fun z => d 5 6 (by decide) z.1)).trans (st_eq h2)) ?_
        refine p_gFc (ji := 5) rfl ((ga 5).trans ((e 5 (by decide)).trans c5)) ?_
        refine p_aGc (st_eq h3) ?_
        rw [ww.1.e]
        refine p_pF (ji := 7) rfl (fun M4 h4 => ?_)
        rw [ww.2.e]
        obtain ⟨s1, s2⟩ := lay_step fr hr h1 h2 h3 h4 rfl rfl rfl
        exact ih (l + 1) M4 hl' s1 (st_eq h4) s2
      refine p_if (fun c2' => ?_) (fun c2' => ?_)
      · have ez : szC a M (mG M (a + 3) l) = 1 := by unfold szC; rw [if_pos c2']
        rw [ez] at t69; exact t69
      · have ez : mG M (a + 1) (mG M (a + 3) l) = szC a M (mG M (a + 3) l) := by unfold szC; rw [if_neg c2']
        refine p_gFc (ji := 0) rfl ((ga2 _).trans ((e 0 (by decide)).trans c0)) ?_
        exact p_aGc ((st_ne h2 (fun z => d 1 5 (by decide) z.1)).trans ((st_ne h1 (fun z => d 1 4 (by decide) z.1)).trans ((e1 _).trans ez))) t69
  unfold mX3_layOut
  refine p_pF (ji := 7) rfl (fun M1 h1 => ?_)
  exact key FU 0 M1 r6.1 (fun b j x y => st_ne h1 x) (st_eq h1) (fun r hr => absurd hr (Nat.not_lt_zero r))
/-! the class's changes -/
theorem pl_isKind {M : Mem} {k : Int} : pw (mX3_isKind k M) (fun q => q.2 = M ∧ ((q.1 = 1 ∧ 0 ≤ k ∧ k ≤ 2) ∨ (q.1 = 0 ∧ ¬ (0 ≤ k ∧ k ≤ 2)))) := by
  unfold mX3_isKind
  exact p_if (fun _ => p_ret ⟨rfl, Or.inr ⟨rfl, by omega⟩⟩) (fun _ => p_if (fun _ => p_ret ⟨rfl, Or.inr ⟨rfl, by omega⟩⟩) (fun _ => p_ret ⟨rfl, Or.inl ⟨rfl, by omega, by omega⟩⟩))
theorem LO.of {a : Int} {M M' : Mem} (h : LO a M) (g : ∀ b j : Int, a ≤ b → b ≤ a + 6 → mG M' b j = mG M b j) : LO a M' := by
  have e1 : ∀ j, mG M' (a + 1) j = mG M (a + 1) j := fun j => g _ j (by omega) (by omega)
  have e2 : ∀ j, mG M' (a + 2) j = mG M (a + 2) j := fun j => g _ j (by omega) (by omega)
  have e3 : ∀ j, mG M' (a + 3) j = mG M (a + 3) j := fun j => g _ j (by omega) (by omega)
  unfold LO szC
  rw [g a 7 (by omega) (by omega), g a 6 (by omega) (by omega)]
  refine ⟨by rw [stC_of e1 e2 e3]; exact h.1, fun r hr => ?_⟩
  rw [stC_of e1 e2 e3, e2, e3, e1, e1, g (a + 4) r (by omega) (by omega), g (a + 5) r (by omega) (by omega), g (a + 6) r (by omega) (by omega)]
  exact h.2 r hr
theorem pl_forget' {M : Mem} (e2 : mG M 2 2 = 24) : pw (mX4_forget 2 M) (fun q => ∀ b j : Int, ¬ b = 2 → ¬ b = 24 → mG q.2 b j = mG M b j) := by
  unfold mX4_forget
  refine p_pF (ji := 4) rfl (fun M1 h1 => p_pF (ji := 10) rfl (fun M2 h2 => ?_))
  have e : mG M2 2 2 = 24 := by rw [st_ne h2 (fun z => absurd z.2 (by decide)), st_ne h1 (fun z => absurd z.2 (by decide))]; exact e2
  refine p_gFc (ji := 2) rfl e (p_gK ?_)
  unfold mX1_forget
  refine p_call (P := fun q => ∀ b j : Int, ¬ b = 24 → mG q.2 b j = mG M2 b j) ?_ ?_
  · refine p_pZ (ji := 6) rfl (fun M3 h3 => p_pZ (ji := 7) rfl (fun M4 h4 => p_ret (fun b j hb => ?_)))
    rw [st_ne h4 (fun z => hb z.1), st_ne h3 (fun z => hb z.1)]
  · intro r m h
    refine p_ret (fun b j x y => ?_)
    show mG m b j = _
    rw [h b j y, st_ne h2 (fun z => x z.1), st_ne h1 (fun z => x z.1)]
theorem pl_clearWorlds' {M : Mem} (e3 : mG M 3 3 = 12) : pw (mX6_clearWorlds 3 M) (fun q => ∀ b j : Int, ¬ (b = 3 ∧ j = 1) → ¬ b = 12 → mG q.2 b j = mG M b j) := by
  have key : ∀ (fu : Nat) (l : Int) (M' : Mem), (∀ b j : Int, ¬ (b = 3 ∧ j = 1) → ¬ b = 12 → mG M' b j = mG M b j) → pw (mX6_clearWorlds_7 fu 3 l M') (fun q => ∀ b j : Int, ¬ (b = 3 ∧ j = 1) → ¬ b = 12 → mG q.2 b j = mG M b j) := by
    intro fu
    induction fu with
    | zero => intro l M' _; exact p_none
    | succ fu ih =>
      intro l M' h
      show pw (bX6_clearWorlds_7 (mX6_clearWorlds_7 fu) 3 l M') _
      unfold bX6_clearWorlds_7
      refine p_if (fun _ => p_ret h) (fun _ => ?_)
      refine p_gFc (ji := 3) rfl ((h 3 3 (by omega) (by decide)).trans e3) (p_aSZ (fun M1 h1 => ?_))
      exact ih _ M1 (fun b j x y => (st_ne h1 (fun z => y (by omega))).trans (h b j x y))
  unfold mX6_clearWorlds
  exact p_pF (ji := 1) rfl (fun M1 h1 => key _ _ _ (fun b j x y => st_ne h1 x))
/-- the class's size -/
def C_size (l1 l2 : Int) (M : Mem) : Prop := 0 ≤ l1 ∧ l1 ≤ 2 ∧ 1 ≤ l2 ∧ l2 ≤ 3 ∧ ¬ mG M 5 l1 = l2
theorem pl_size {n : Nat} {l1 l2 : Int} {M : Mem} (iM : I n M) : pw (mX8_size 1 l1 l2 M) (fun q => (q.1 = 0 ∧ ¬ C_size l1 l2 M ∧ q.2 = M) ∨ (q.1 = 1 ∧ C_size l1 l2 M ∧ LO 4 q.2 ∧ mG q.2 5 l1 = l2 ∧ ∀ b j : Int, ¬ (b = 5 ∧ j = l1) → ¬ (b = 4 ∧ j = 7) → ¬ (8 ≤ b ∧ b ≤ 10) → ¬ (b = 3 ∧ j = 1) → ¬ b = 12 → ¬ b = 2 → ¬ b = 24 → mG q.2 b j = mG M b j)) := by
  have i1 : mG M 1 1 = 3 := rd_VS_1 iM (a := 1) rfl
  have i0 : mG M 1 0 = 2 := rd_VS_0 iM (a := 1) rfl
  have s4 : mG M 3 0 = 4 := rd_Told_0 iM (a := 3) rfl
  have s5 : mG M 4 0 = 5 := rd_Shape_0 iM (a := 4) rfl
  unfold mX8_size
  refine p_gFc (ji := 1) rfl i1 (p_gFc (ji := 0) rfl s4 (p_gK ?_))
  refine p_call (P := fun q => (q.1 = 0 ∧ ¬ C_size l1 l2 M ∧ q.2 = M) ∨ (q.1 = 1 ∧ C_size l1 l2 M ∧ LO 4 q.2 ∧ ∃ M1, M1 = mS M 5 l1 l2 ∧ FrL 4 M1 q.2)) ?_ ?_
  · unfold mX3_resize
    refine p_call pl_isKind ?_
    rintro r m ⟨e, h⟩
    have e : m = M := e
    have h : (r = 1 ∧ 0 ≤ l1 ∧ l1 ≤ 2) ∨ (r = 0 ∧ ¬ (0 ≤ l1 ∧ l1 ≤ 2)) := h
    subst e
    dsimp only
    refine p_if (fun c => p_ret (Or.inl ⟨rfl, fun z => by have := z.1; have := z.2.1; omega, rfl⟩)) (fun c => ?_)
    refine p_if (fun c2 => p_ret (Or.inl ⟨rfl, fun z => by have := z.2.2.1; omega, rfl⟩)) (fun c2 => ?_)
    refine p_if (fun c3 => p_ret (Or.inl ⟨rfl, fun z => by have := z.2.2.2.1; omega, rfl⟩)) (fun c3 => ?_)
    refine p_gFc (ji := 0) rfl s5 (p_aG (fun v hv => ?_))
    refine p_if (fun c4 => p_ret (Or.inl ⟨rfl, fun z => z.2.2.2.2 (hv.trans c4), rfl⟩)) (fun c4 => ?_)
    refine p_gFc (ji := 0) rfl s5 (p_aS (fun M1 h1 => p_gK ?_))
    have iM1 : I n M1 := wr_Ssizes iM (a := 5) rfl ⟨by omega, by omega⟩ h1
    refine p_call (pl_layOut (iM1.sg (Or.inl rfl))) ?_
    rintro r2 m2 ⟨lo, fr⟩
    exact p_ret (Or.inr ⟨rfl, ⟨by omega, by omega, by omega, by omega, fun z => c4 (hv.symm.trans z)⟩, lo, M1, h1, fr⟩)
  · rintro r m h
    dsimp only
    rcases h with ⟨e0, e1, e2⟩ | ⟨e0, e1, lo, M1, h1, fr⟩
    · have e0 : r = 0 := e0
      have e2 : m = M := e2
      subst e2
      refine p_if (fun c => p_ret (Or.inl ⟨rfl, e1, rfl⟩)) (fun c => absurd e0 c)
    · have e0 : r = 1 := e0
      have lo : LO 4 m := lo
      have fr : FrL 4 M1 m := fr
      refine p_if (fun c => by omega) (fun c => ?_)
      have g : ∀ b j : Int, ¬ (b = 5 ∧ j = l1) → ¬ (b = 4 ∧ j = 7) → ¬ (8 ≤ b ∧ b ≤ 10) → mG m b j = mG M b j := fun b j x y z => (fr b j y z).trans (st_ne h1 x)
      refine p_gFc (ji := 1) rfl ((g 1 1 (by omega) (by omega) (by decide)).trans i1) (p_gK ?_)
      refine p_call (pl_clearWorlds' ((g 3 3 (by omega) (by omega) (by decide)).trans (rd_Told_3 iM (a := 3) rfl))) ?_
      intro r2 m2 g2
      have g2 : ∀ b j : Int, ¬ (b = 3 ∧ j = 1) → ¬ b = 12 → mG m2 b j = mG m b j := g2
      refine p_gFc (ji := 0) rfl ((g2 1 0 (by omega) (by decide)).trans ((g 1 0 (by omega) (by omega) (by decide)).trans i0)) (p_gK ?_)
      refine p_call (pl_forget' ((g2 2 2 (by omega) (by decide)).trans ((g 2 2 (by omega) (by omega) (by decide)).trans (rd_Solver_2 iM (a := 2) rfl)))) ?_
      intro r3 m3 g3
      have g3 : ∀ b j : Int, ¬ b = 2 → ¬ b = 24 → mG m3 b j = mG m2 b j := g3
      refine p_ret (Or.inr ⟨rfl, e1, ?_, ?_, fun b j x1 x2 x3 x4 x5 x6 x7 => ?_⟩)
      · exact lo.of (fun b j b0 b1 => by rw [g3 b j (by omega) (by omega), g2 b j (by omega) (by omega)])
      · show mG m3 5 l1 = l2
        rw [g3 5 l1 (by decide) (by decide), g2 5 l1 (by omega) (by decide), fr 5 l1 (by omega) (by omega)]
        exact st_eq h1
      · show mG m3 b j = _
        rw [g3 b j x6 x7, g2 b j x4 x5]
        exact g b j x1 x2 x3
/-- the class's relation -/
def C_rel (l1 l2 : Int) (M : Mem) : Prop := mG M 4 6 < 4 ∧ 0 ≤ l1 ∧ l1 ≤ 2 ∧ -1 ≤ l2 ∧ l2 ≤ 2
theorem pl_relation {n : Nat} {l1 l2 : Int} {M : Mem} (iM : I n M) : pw (mX8_relation 1 l1 l2 M) (fun q => (q.1 = -1 ∧ ¬ C_rel l1 l2 M ∧ q.2 = M) ∨ (q.1 = mG M 4 6 ∧ C_rel l1 l2 M ∧ LO 4 q.2 ∧ mG q.2 4 6 = mG M 4 6 + 1 ∧ mG q.2 6 (mG M 4 6) = l1 ∧ mG q.2 7 (mG M 4 6) = l2 ∧ ∀ b j : Int, ¬ (b = 6 ∧ j = mG M 4 6) → ¬ (b = 7 ∧ j = mG M 4 6) → ¬ (b = 4 ∧ j = 6) → ¬ (b = 4 ∧ j = 7) → ¬ (8 ≤ b ∧ b ≤ 10) → ¬ (b = 3 ∧ j = 1) → ¬ b = 12 → ¬ b = 2 → ¬ b = 24 → mG q.2 b j = mG M b j)) := by
  have i1 : mG M 1 1 = 3 := rd_VS_1 iM (a := 1) rfl
  have i0 : mG M 1 0 = 2 := rd_VS_0 iM (a := 1) rfl
  have s4 : mG M 3 0 = 4 := rd_Told_0 iM (a := 3) rfl
  have s6 : mG M 4 1 = 6 := rd_Shape_1 iM (a := 4) rfl
  have s7 : mG M 4 2 = 7 := rd_Shape_2 iM (a := 4) rfl
  have r6 := rd_Shape_6 iM (a := 4) rfl
  obtain ⟨R, hR⟩ : ∃ R, mG M 4 6 = R := ⟨_, rfl⟩
  unfold C_rel
  rw [hR] at r6 ⊢
  unfold mX8_relation
  refine p_gFc (ji := 1) rfl i1 (p_gFc (ji := 0) rfl s4 (p_gK ?_))
  refine p_call (P := fun q => (q.1 = -1 ∧ ¬ (R < 4 ∧ 0 ≤ l1 ∧ l1 ≤ 2 ∧ -1 ≤ l2 ∧ l2 ≤ 2) ∧ q.2 = M) ∨ (q.1 = R ∧ (R < 4 ∧ 0 ≤ l1 ∧ l1 ≤ 2 ∧ -1 ≤ l2 ∧ l2 ≤ 2) ∧ LO 4 q.2 ∧ ∃ M1 M2 M3, M1 = mS M 6 R l1 ∧ M2 = mS M1 7 R l2 ∧ M3 = mS M2 4 6 (R + 1) ∧ FrL 4 M3 q.2)) ?_ ?_
  · unfold mX3_addRelation
    refine p_gFc (ji := 6) rfl hR (p_if (fun c => p_ret (Or.inl ⟨rfl, fun z => by omega, rfl⟩)) (fun c => ?_))
    refine p_call pl_isKind ?_
    rintro r m ⟨e, h⟩
    have e : m = M := e
    have h : (r = 1 ∧ 0 ≤ l1 ∧ l1 ≤ 2) ∨ (r = 0 ∧ ¬ (0 ≤ l1 ∧ l1 ≤ 2)) := h
    subst e
    dsimp only
    refine p_if (fun c1 => p_ret (Or.inl ⟨rfl, fun z => by omega, rfl⟩)) (fun c1 => ?_)
    have t29 : -1 ≤ l2 → l2 ≤ 2 → pw (mX3_addRelation_29 4 l1 l2 m) (fun q => (q.1 = -1 ∧ ¬ (R < 4 ∧ 0 ≤ l1 ∧ l1 ≤ 2 ∧ -1 ≤ l2 ∧ l2 ≤ 2) ∧ q.2 = m) ∨ (q.1 = R ∧ (R < 4 ∧ 0 ≤ l1 ∧ l1 ≤ 2 ∧ -1 ≤ l2 ∧ l2 ≤ 2) ∧ LO 4 q.2 ∧ ∃ M1 M2 M3, M1 = mS m 6 R l1 ∧ M2 = mS M1 7 R l2 ∧ M3 = mS M2 4 6 (R + 1) ∧ FrL 4 M3 q.2)) := by
      intro b0 b1
      have w1 := wI_id (x := R + 1) (by omega) (by omega)
      have w2 := wI_id (x := R + 1 - 1) (by omega) (by omega)
      unfold mX3_addRelation_29
      refine p_gFc (ji := 1) rfl s6 (p_gFc (ji := 6) rfl hR (p_aS (fun M1 h1 => ?_)))
      have j1 : I n M1 := wr_Sfirst iM (a := 6) rfl ⟨by omega, by omega⟩ h1
      refine p_gFc (ji := 2) rfl ((st_ne h1 (fun z => absurd z.1 (by decide))).trans s7) (p_gFc (ji := 6) rfl ((st_ne h1 (fun z => absurd z.1 (by decide))).trans hR) (p_aS (fun M2 h2 => ?_)))
      have j2 : I n M2 := wr_Ssecond j1 (a := 7) rfl ⟨b0, b1⟩ h2
      refine p_gFc (ji := 6) rfl ((st_ne h2 (fun z => absurd z.1 (by decide))).trans ((st_ne h1 (fun z => absurd z.1 (by decide))).trans hR)) ?_
      rw [w1]
      refine p_pF (ji := 6) rfl (fun M3 h3 => p_gK ?_)
      have j3 : I n M3 := wr_Shape_6 j2 (a := 4) rfl ⟨by omega, by omega⟩ h3
      refine p_call (pl_layOut (j3.sg (Or.inl rfl))) ?_
      rintro r2 m2 ⟨lo, fr⟩
      have fr : FrL 4 M3 m2 := fr
      refine p_gFc (ji := 6) rfl ((fr 4 6 (by omega) (by omega)).trans (st_eq h3)) ?_
      rw [w2]
      exact p_ret (Or.inr ⟨by show R + 1 - 1 = R; omega, by omega, lo, M1, M2, M3, h1, h2, h3, fr⟩)
    refine p_if (fun c2 => t29 (by omega) (by omega)) (fun c2 => ?_)
    refine p_call pl_isKind ?_
    rintro r2 m2 ⟨e, h2⟩
    have e : m2 = m := e
    have h2 : (r2 = 1 ∧ 0 ≤ l2 ∧ l2 ≤ 2) ∨ (r2 = 0 ∧ ¬ (0 ≤ l2 ∧ l2 ≤ 2)) := h2
    subst e
    dsimp only
    exact p_if (fun c1 => p_ret (Or.inl ⟨rfl, fun z => by omega, rfl⟩)) (fun c1 => t29 (by omega) (by omega))
  · rintro r m h
    dsimp only
    rcases h with ⟨e0, e1, e2⟩ | ⟨e0, e1, lo, M1, M2, M3, h1, h2, h3, fr⟩
    · have e0 : r = -1 := e0
      have e2 : m = M := e2
      subst e2
      unfold mX8_relation_32
      refine p_if (fun c => p_ret (Or.inl ⟨e0, e1, rfl⟩)) (fun c => absurd e0 c)
    · have e0 : r = R := e0
      have lo : LO 4 m := lo
      have fr : FrL 4 M3 m := fr
      refine p_if (fun c => by omega) (fun c => ?_)
      have g : ∀ b j : Int, ¬ (b = 6 ∧ j = R) → ¬ (b = 7 ∧ j = R) → ¬ (b = 4 ∧ j = 6) → ¬ (b = 4 ∧ j = 7) → ¬ (8 ≤ b ∧ b ≤ 10) → mG m b j = mG M b j := fun b j x y z u v => (fr b j u v).trans ((st_ne h3 z).trans ((st_ne h2 y).trans (st_ne h1 x)))
      have g0 : ∀ b j : Int, b ≤ 3 → mG m b j = mG M b j := fun b j hb => g b j (by omega) (by omega) (by omega) (by omega) (by omega)
      refine p_gFc (ji := 1) rfl ((g0 1 1 (by decide)).trans i1) (p_gK ?_)
      refine p_call (pl_clearWorlds' ((g0 3 3 (by decide)).trans (rd_Told_3 iM (a := 3) rfl))) ?_
      intro r2 m2 g2
      have g2 : ∀ b j : Int, ¬ (b = 3 ∧ j = 1) → ¬ b = 12 → mG m2 b j = mG m b j := g2
      refine p_gFc (ji := 0) rfl ((g2 1 0 (by omega) (by decide)).trans ((g0 1 0 (by decide)).trans i0)) (p_gK ?_)
      refine p_call (pl_forget' ((g2 2 2 (by omega) (by decide)).trans ((g0 2 2 (by decide)).trans (rd_Solver_2 iM (a := 2) rfl)))) ?_
      intro r3 m3 g3
      have g3 : ∀ b j : Int, ¬ b = 2 → ¬ b = 24 → mG m3 b j = mG m2 b j := g3
      have gg : ∀ b j : Int, 4 ≤ b → b ≤ 10 → mG m3 b j = mG m b j := fun b j b0 b1 => by rw [g3 b j (by omega) (by omega), g2 b j (by omega) (by omega)]
      unfold mX8_relation_32
      refine p_ret (Or.inr ⟨e0, e1, ?_, ?_, ?_, ?_, fun b j x1 x2 x3 x4 x5 x6 x7 x8 x9 => ?_⟩)
      · exact lo.of (fun b j b0 b1 => gg b j b0 (by omega))
      · show mG m3 4 6 = R + 1
        rw [gg 4 6 (by decide) (by decide), fr 4 6 (by omega) (by omega)]
        exact st_eq h3
      · show mG m3 6 R = l1
        rw [gg 6 R (by decide) (by decide), fr 6 R (by omega) (by omega), st_ne h3 (fun z => absurd z.1 (by decide)), st_ne h2 (fun z => absurd z.1 (by decide))]
        exact st_eq h1
      · show mG m3 7 R = l2
        rw [gg 7 R (by decide) (by decide), fr 7 R (by omega) (by omega), st_ne h3 (fun z => absurd z.1 (by decide))]
        exact st_eq h2
      · show mG m3 b j = _
        rw [g3 b j x8 x9, g2 b j x6 x7]
        exact g b j x1 x2 x3 x4 x5
/-- the class's known -/
def C_kn (l1 l2 l3 : Int) (M : Mem) : Prop := mG M 3 18 < 40 ∧ (0 ≤ l1 ∧ l1 < mG M 4 6) ∧ (0 ≤ l2 ∧ l2 ≤ 2) ∧ (mG M 7 l1 = -1 ∨ (0 ≤ l3 ∧ l3 ≤ 2))
theorem pl_known {n : Nat} {l1 l2 l3 l4 : Int} {M : Mem} (iM : I n M) : pw (mX8_known 1 l1 l2 l3 l4 M) (fun q => (q.1 = 0 ∧ ¬ C_kn l1 l2 l3 M ∧ q.2 = M) ∨ (q.1 = 1 ∧ C_kn l1 l2 l3 M ∧ mG q.2 3 18 = mG M 3 18 + 1 ∧ mG q.2 17 (mG M 3 18) = 9 * l1 + 3 * l2 + (if mG M 7 l1 = -1 then 0 else l3) ∧ mG q.2 18 (mG M 3 18) = l4 ∧ mG q.2 19 (mG M 3 18) = mG M 3 13 ∧ ∀ b j : Int, ¬ (17 ≤ b ∧ b ≤ 19 ∧ j = mG M 3 18) → ¬ (b = 3 ∧ j = 18) → mG q.2 b j = mG M b j)) := by
  have i1 : mG M 1 1 = 3 := rd_VS_1 iM (a := 1) rfl
  have s4 : mG M 3 0 = 4 := rd_Told_0 iM (a := 3) rfl
  have r6 := rd_Shape_6 iM (a := 4) rfl
  have r18 := rd_Told_18 iM (a := 3) rfl
  obtain ⟨K, hK⟩ : ∃ K, mG M 3 18 = K := ⟨_, rfl⟩
  unfold C_kn
  rw [hK] at r18 ⊢
  have t16 : ∀ s0 : Int, (s0 = if mG M 7 l1 = -1 then 0 else l3) ∨ ¬ (0 ≤ l1 ∧ l1 < mG M 4 6) → pw (mX6_addKnown_16 3 l1 l2 l4 s0 M) (fun q => (q.1 = 0 ∧ ¬ (K < 40 ∧ (0 ≤ l1 ∧ l1 < mG M 4 6) ∧ (0 ≤ l2 ∧ l2 ≤ 2) ∧ (mG M 7 l1 = -1 ∨ (0 ≤ l3 ∧ l3 ≤ 2))) ∧ q.2 = M) ∨ (q.1 = 1 ∧ (K < 40 ∧ (0 ≤ l1 ∧ l1 < mG M 4 6) ∧ (0 ≤ l2 ∧ l2 ≤ 2) ∧ (mG M 7 l1 = -1 ∨ (0 ≤ l3 ∧ l3 ≤ 2))) ∧ mG q.2 3 18 = K + 1 ∧ mG q.2 17 K = 9 * l1 + 3 * l2 + (if mG M 7 l1 = -1 then 0 else l3) ∧ mG q.2 18 K = l4 ∧ mG q.2 19 K = mG M 3 13 ∧ ∀ b j : Int, ¬ (17 ≤ b ∧ b ≤ 19 ∧ j = K) → ¬ (b = 3 ∧ j = 18) → mG q.2 b j = mG M b j)) := by
    intro s0 hs
    unfold mX6_addKnown_16
    refine p_gFc (ji := 18) rfl hK (p_if (fun c => p_ret (Or.inl ⟨rfl, fun z => by omega, rfl⟩)) (fun c => ?_))
    refine p_gFc (ji := 0) rfl s4 (p_gK (p_call pu_hasRelation ?_))
    rintro r m ⟨e, h⟩
    have e : m = M := e
    have h : (r = 0 ∧ ¬ (0 ≤ l1 ∧ l1 < mG M 4 6)) ∨ (r = 1 ∧ 0 ≤ l1 ∧ l1 < mG M 4 6) := h
    subst e
    dsimp only
    refine p_if (fun c1 => p_ret (Or.inl ⟨rfl, fun z => by have := z.2.1; omega, rfl⟩)) (fun c1 => ?_)
    have hs := hs.resolve_right (fun z => z (by omega))
    refine p_if (fun c2 => p_ret (Or.inl ⟨rfl, fun z => by have := z.2.2.1; omega, rfl⟩)) (fun c2 => ?_)
    refine p_if (fun c3 => p_ret (Or.inl ⟨rfl, fun z => by have := z.2.2.1; omega, rfl⟩)) (fun c3 => ?_)
    refine p_if (fun c4 => p_ret (Or.inl ⟨rfl, fun z => by have := z.2.2.2; split at hs <;> omega, rfl⟩)) (fun c4 => ?_)
    refine p_if (fun c5 => ?_) (fun c5 => p_ret (Or.inl ⟨rfl, fun z => by have := z.2.2.2; split at hs <;> omega, rfl⟩))
    have w1 := wI_id (x := l1 * 3) (by omega) (by omega)
    have w2 := wI_id (x := l1 * 3 + l2) (by omega) (by omega)
    have w3 := wI_id (x := (l1 * 3 + l2) * 3) (by omega) (by omega)
    have w4 := wI_id (x := (l1 * 3 + l2) * 3 + s0) (by omega) (by omega)
    have w5 := wI_id (x := K + 1) (by omega) (by omega)
    refine p_gFc (ji := 15) (r := 17) rfl (rd_Told_15 iM (a := 3) rfl) (p_gFc (ji := 18) rfl hK ?_)
    rw [w1, w2, w3, w4]
    refine p_aS (fun M1 h1 => ?_)
    have g1 : ∀ j, mG M1 3 j = mG m 3 j := fun j => st_ne h1 (fun z => absurd z.1 (by decide))
    refine p_gFc (ji := 16) (r := 18) rfl ((g1 _).trans (rd_Told_16 iM (a := 3) rfl)) (p_gFc (ji := 18) rfl ((g1 _).trans hK) (p_aSZ (fun M2 h2 => ?_)))
    have g2 : ∀ j, mG M2 3 j = mG m 3 j := fun j => (st_ne h2 (fun z => absurd z.1 (by decide))).trans (g1 j)
    refine p_gFc (ji := 17) (r := 19) rfl ((g2 _).trans (rd_Told_17 iM (a := 3) rfl)) (p_gFc (ji := 18) rfl ((g2 _).trans hK) (p_gFc (ji := 13) rfl (g2 13) (p_aS (fun M3 h3 => ?_))))
    have g3 : ∀ j, mG M3 3 j = mG m 3 j := fun j => (st_ne h3 (fun z => absurd z.1 (by decide))).trans (g2 j)
    refine p_gFc (ji := 18) rfl ((g3 _).trans hK) ?_
    rw [w5]
    refine p_pF (ji := 18) rfl (fun M4 h4 => ?_)
    refine p_ret (Or.inr ⟨rfl, ⟨by omega, by omega, by omega, ?_⟩, st_eq h4, ?_, ?_, ?_, fun b j x y => ?_⟩)
    · by_cases e : mG m 7 l1 = -1
      · exact Or.inl e
      · rw [if_neg e] at hs; exact Or.inr (by omega)
    · rw [st_ne h4 (fun z => absurd z.1 (by decide)), st_ne h3 (fun z => absurd z.1 (by decide)), st_ne h2 (fun z => absurd z.1 (by decide)), st_eq h1, ← hs]; omega
    · rw [st_ne h4 (fun z => absurd z.1 (by decide)), st_ne h3 (fun z => absurd z.1 (by decide)), st_eq h2]
    · rw [st_ne h4 (fun z => absurd z.1 (by decide)), st_eq h3]
    · rw [st_ne h4 y, st_ne h3 (fun z => x (by omega)), st_ne h2 (fun z => x (by omega)), st_ne h1 (fun z => x (by omega))]
  unfold mX8_known
  refine p_gFc (ji := 1) rfl i1 (p_gK ?_)
  unfold mX6_addKnown
  refine p_call (P := fun q => (q.1 = 0 ∧ ¬ (K < 40 ∧ (0 ≤ l1 ∧ l1 < mG M 4 6) ∧ (0 ≤ l2 ∧ l2 ≤ 2) ∧ (mG M 7 l1 = -1 ∨ (0 ≤ l3 ∧ l3 ≤ 2))) ∧ q.2 = M) ∨ (q.1 = 1 ∧ (K < 40 ∧ (0 ≤ l1 ∧ l1 < mG M 4 6) ∧ (0 ≤ l2 ∧ l2 ≤ 2) ∧ (mG M 7 l1 = -1 ∨ (0 ≤ l3 ∧ l3 ≤ 2))) ∧ mG q.2 3 18 = K + 1 ∧ mG q.2 17 K = 9 * l1 + 3 * l2 + (if mG M 7 l1 = -1 then 0 else l3) ∧ mG q.2 18 K = l4 ∧ mG q.2 19 K = mG M 3 13 ∧ ∀ b j : Int, ¬ (17 ≤ b ∧ b ≤ 19 ∧ j = K) → ¬ (b = 3 ∧ j = 18) → mG q.2 b j = mG M b j)) ?_ (fun r m h => p_zR (fun _ => p_ret h))
  refine p_gFc (ji := 0) rfl s4 (p_gK ?_)
  refine p_call (P := fun q => q.2 = M ∧ ((q.1 = 0 ∧ (¬ (0 ≤ l1 ∧ l1 < mG M 4 6) ∨ mG M 7 l1 = -1)) ∨ (q.1 = 1 ∧ ¬ mG M 7 l1 = -1))) ?_ ?_
  · unfold mX3_isOfTwo
    refine p_if (fun c => p_ret ⟨rfl, Or.inl ⟨rfl, Or.inl (by omega)⟩⟩) (fun c => ?_)
    refine p_gF (ji := 6) rfl (fun v hv => p_if (fun c2 => p_ret ⟨rfl, Or.inl ⟨rfl, Or.inl (by omega)⟩⟩) (fun c2 => ?_))
    refine p_gFc (ji := 2) rfl (rd_Shape_2 iM (a := 4) rfl) (p_aG (fun w hw => p_if (fun c3 => p_ret ⟨rfl, Or.inl ⟨rfl, Or.inr (hw.trans c3)⟩⟩) (fun c3 => p_ret ⟨rfl, Or.inr ⟨rfl, fun z => c3 (hw.symm.trans z)⟩⟩)))
  · rintro r m ⟨e, h⟩
    have e : m = M := e
    have h : (r = 0 ∧ (¬ (0 ≤ l1 ∧ l1 < mG M 4 6) ∨ mG M 7 l1 = -1)) ∨ (r = 1 ∧ ¬ mG M 7 l1 = -1) := h
    subst e
    dsimp only
    refine p_if (fun c => t16 0 ?_) (fun c => t16 l3 (Or.inl ?_))
    · rcases h with ⟨_, h | h⟩ | ⟨h, _⟩
      · exact Or.inr h
      · exact Or.inl (by rw [if_pos h])
      · exact absurd (h.symm.trans c) (by decide)
    · rcases h with ⟨h, _⟩ | ⟨_, h⟩
      · exact absurd h c
      · rw [if_neg h]
end
section
theorem p_aC {β : Type} {Q : β → Prop} {M : Mem} {t : Nat} {a0 sp a dp n : Int} {f : Mem → Option β} (k : ∀ M', M' = mC M a0 sp a dp n → pw (f M') Q) : pw ((aC t M a0 sp a dp n).bind f) Q := by
  unfold aC; split
  · exact k _ rfl
  · exact p_none
theorem p_aCZ {β : Type} {Q : β → Prop} {M : Mem} {t : Nat} {a0 sp a dp n : Int} {f : Mem → Option β} (k : ∀ M', M' = mC M a0 sp a dp n → pw (f M') Q) : pw ((aCZ t M a0 sp a dp n).bind f) Q := by
  unfold aCZ; split
  · exact k _ rfl
  · exact p_none
theorem p_aSR {β : Type} {Q : β → Prop} {M : Mem} {t : Nat} {a i x : Int} {f : Mem → Option β} (k : ∀ M', M' = mS M a i x → pw (f M') Q) : pw ((aSR t M a i x).bind f) Q := by
  unfold aSR; split
  · exact k _ rfl
  · exact p_none
/-! ===== the class: copies, the tape, days ===== -/
theorem pl_scopy {a b : Int} {M : Mem} (ga : SG a M) (gb : SG b M) (hab : a + 6 < b ∨ b + 6 < a) : pw (mX3_copy a b M) (fun q => LO a q.2 ∧ (∀ j : Int, 0 ≤ j → j < 3 → mG q.2 (a + 1) j = mG M (b + 1) j) ∧ (∀ j : Int, 0 ≤ j → j < 4 → mG q.2 (a + 2) j = mG M (b + 2) j ∧ mG q.2 (a + 3) j = mG M (b + 3) j) ∧ mG q.2 a 6 = mG M b 6 ∧ ∀ c j : Int, ¬ (a ≤ c ∧ c ≤ a + 6) → mG q.2 c j = mG M c j) := by
  have c0 := (ga.1 0 (by decide) (by decide)).trans (show a + 1 + 0 = a + 1 by omega)
  have c1 := (ga.1 1 (by decide) (by decide)).trans (show a + 1 + 1 = a + 2 by omega)
  have c2 := (ga.1 2 (by decide) (by decide)).trans (show a + 1 + 2 = a + 3 by omega)
  have b0 := (gb.1 0 (by decide) (by decide)).trans (show b + 1 + 0 = b + 1 by omega)
  have b1 := (gb.1 1 (by decide) (by decide)).trans (show b + 1 + 1 = b + 2 by omega)
  have b2 := (gb.1 2 (by decide) (by decide)).trans (show b + 1 + 2 = b + 3 by omega)
  have d (k : Int) (h : ¬ k = 0) : ¬ a = a + k := by omega
  have e0 (k l : Int) (h : ¬ k = l) : ¬ a + k = a + l := by omega
  have n0 (k : Int) (h0 : 0 ≤ k) (h1 : k ≤ 6) : ¬ b = a + k := by omega
  have n1 (k l : Int) (h0 : 0 ≤ k ∧ k ≤ 6) (h1 : 0 ≤ l ∧ l ≤ 6) : ¬ b + l = a + k := by omega
  unfold mX3_copy
  refine p_gFc (ji := 0) rfl b0 (p_gFc (ji := 0) rfl c0 (p_aC (fun M1 h1 => ?_)))
  have ga1 : ∀ j, mG M1 a j = mG M a j := fun j => cp_ne h1 (d 1 (by decide))
  have gb1 : ∀ j, mG M1 b j = mG M b j := fun j => cp_ne h1 (n0 1 (by decide) (by decide))
  refine p_gFc (ji := 1) rfl ((gb1 _).trans b1) (p_gFc (ji := 1) rfl ((ga1 _).trans c1) (p_aC (fun M2 h2 => ?_)))
  have ga2 : ∀ j, mG M2 a j = mG M a j := fun j => (cp_ne h2 (d 2 (by decide))).trans (ga1 j)
  have gb2 : ∀ j, mG M2 b j = mG M b j := fun j => (cp_ne h2 (n0 2 (by decide) (by decide))).trans (gb1 j)
  refine p_gFc (ji := 2) rfl ((gb2 _).trans b2) (p_gFc (ji := 2) rfl ((ga2 _).trans c2) (p_aC (fun M3 h3 => ?_)))
  have ga3 : ∀ j, mG M3 a j = mG M a j := fun j => (cp_ne h3 (d 3 (by decide))).trans (ga2 j)
  have gb3 : ∀ j, mG M3 b j = mG M b j := fun j => (cp_ne h3 (n0 3 (by decide) (by decide))).trans (gb2 j)
  refine p_gFc (ji := 6) rfl (gb3 6) (p_pF (ji := 6) rfl (fun M4 h4 => p_gK ?_))
  have v1 : ∀ j, mG M4 (a + 1) j = if 0 ≤ j ∧ j < 3 then mG M (b + 1) j else mG M (a + 1) j := fun j => by
    rw [st_ne h4 (fun z => d 1 (by decide) z.1.symm), cp_ne h3 (e0 1 3 (by decide)), cp_ne h2 (e0 1 2 (by decide)), cp_g h1]
    by_cases e : 0 ≤ j ∧ j < 3
    · rw [if_pos ⟨rfl, e.1, by omega⟩, if_pos e]; congr 1; omega
    · rw [if_neg (fun z => e ⟨z.2.1, by omega⟩), if_neg e]
  have v2 : ∀ j, mG M4 (a + 2) j = if 0 ≤ j ∧ j < 4 then mG M (b + 2) j else mG M (a + 2) j := fun j => by
    rw [st_ne h4 (fun z => d 2 (by decide) z.1.symm), cp_ne h3 (e0 2 3 (by decide)), cp_g h2]
    by_cases e : 0 ≤ j ∧ j < 4
    · rw [if_pos ⟨rfl, e.1, by omega⟩, if_pos e, cp_ne h1 (n1 1 2 (by decide) (by decide))]; congr 1; omega
    · rw [if_neg (fun z => e ⟨z.2.1, by omega⟩), if_neg e, cp_ne h1 (e0 2 1 (by decide))]
  have v3 : ∀ j, mG M4 (a + 3) j = if 0 ≤ j ∧ j < 4 then mG M (b + 3) j else mG M (a + 3) j := fun j => by
    rw [st_ne h4 (fun z => d 3 (by decide) z.1.symm), cp_g h3]
    by_cases e : 0 ≤ j ∧ j < 4
    · rw [if_pos ⟨rfl, e.1, by omega⟩, if_pos e, cp_ne h2 (n1 2 3 (by decide) (by decide)), cp_ne h1 (n1 1 3 (by decide) (by decide))]; congr 1; omega
    · rw [if_neg (fun z => e ⟨z.2.1, by omega⟩), if_neg e, cp_ne h2 (e0 3 2 (by decide)), cp_ne h1 (e0 3 1 (by decide))]
  have g4 : ∀ j, ¬ j = 6 → mG M4 a j = mG M a j := fun j hj => (st_ne h4 (fun z => hj z.2)).trans (ga3 j)
  have sg : SG a M4 := by
    refine ⟨fun k k0 k1 => (g4 k (by omega)).trans (ga.1 k k0 k1), by rw [st_eq h4]; exact gb.2.1, fun k k0 k1 => ?_, fun r => ?_, fun r => ?_⟩
    · rw [v1, if_pos ⟨k0, k1⟩]; exact gb.2.2.1 k k0 k1
    · rw [v2]; split
      · exact gb.2.2.2.1 r
      · exact ga.2.2.2.1 r
    · rw [v3]; split
      · exact gb.2.2.2.2 r
      · exact ga.2.2.2.2 r
  refine p_call (pl_layOut sg) ?_
  rintro r m ⟨lo, fr⟩
  have fr : FrL a M4 m := fr
  refine p_ret ⟨lo, fun j j0 j1 => ?_, fun j j0 j1 => ⟨?_, ?_⟩, ?_, fun c j hc => ?_⟩
  · show mG m (a + 1) j = _
    rw [fr _ _ (fun z => by omega) (fun z => by omega), v1, if_pos ⟨j0, j1⟩]
  · show mG m (a + 2) j = _
    rw [fr _ _ (fun z => by omega) (fun z => by omega), v2, if_pos ⟨j0, j1⟩]
  · show mG m (a + 3) j = _
    rw [fr _ _ (fun z => by omega) (fun z => by omega), v3, if_pos ⟨j0, j1⟩]
  · show mG m a 6 = _
    rw [fr _ _ (fun z => by omega) (fun z => by omega), st_eq h4]
  · show mG m c j = _
    rw [fr _ _ (fun z => hc ⟨by omega, by omega⟩) (fun z => hc ⟨by omega, by omega⟩), st_ne h4 (fun z => hc ⟨by omega, by omega⟩), cp_ne h3 (fun z => hc ⟨by omega, by omega⟩), cp_ne h2 (fun z => hc ⟨by omega, by omega⟩), cp_ne h1 (fun z => hc ⟨by omega, by omega⟩)]
/-- what a copy of all that is told is -/
def tlen (d : Int) : Int := match d with | 2 => 3 | 3 => 4 | 4 => 4 | 8 => 4 | 9 => 4 | 10 => 400 | 11 => 8 | 12 => 8 | 13 => 8 | 14 => 40 | 15 => 40 | 16 => 40 | _ => 0
def tfld (j : Int) : Bool := match j with | 1 => true | 5 => true | 6 => true | 7 => true | 11 => true | 12 => true | 13 => true | 14 => true | 18 => true | _ => false
def CPT (t f : Int) (M M' : Mem) : Prop := LO (t + 1) M' ∧ mG M' (t + 1) 6 = mG M (f + 1) 6 ∧ (∀ j : Int, tfld j = true → mG M' t j = mG M f j) ∧ (∀ d j : Int, 0 ≤ j → j < tlen d → mG M' (t + d) j = mG M (f + d) j) ∧ ∀ b j : Int, ¬ (t ≤ b ∧ b ≤ t + 16) → mG M' b j = mG M b j
/-- how far the copy is: fields done, rows done -/
def CPD (t f : Int) (F : List Int) (D : List Int) (M M' : Mem) : Prop := LO (t + 1) M' ∧ mG M' (t + 1) 6 = mG M (f + 1) 6 ∧ (∀ j : Int, j ∈ F → mG M' t j = mG M f j) ∧ (∀ j : Int, j ∉ F → mG M' t j = mG M t j) ∧ (∀ d j : Int, d ∈ D → 0 ≤ j → j < tlen d → mG M' (t + d) j = mG M (f + d) j) ∧ (∀ d j : Int, 8 ≤ d → d ≤ 16 → d ∉ D → mG M' (t + d) j = mG M (t + d) j) ∧ ∀ b j : Int, ¬ (t ≤ b ∧ b ≤ t + 16) → mG M' b j = mG M b j
theorem CPD.fld {t f i x : Int} {F D : List Int} {M M1 M2 : Mem} (h : CPD t f F D M M1) (hx : x = mG M f i) (hM : M2 = mS M1 t i x) : CPD t f (i :: F) D M M2 := by
  obtain ⟨a1, a2, a3, a4, a5, a6, a7⟩ := h
  have g : ∀ b j : Int, ¬ b = t → mG M2 b j = mG M1 b j := fun b j hb => st_ne hM (fun z => hb z.1)
  refine ⟨a1.of (fun b j b0 b1 => g b j (by omega)), by rw [g _ _ (by omega)]; exact a2, fun j hj => ?_, fun j hj => ?_, fun d j hd j0 j1 => ?_, fun d j d0 d1 hd => by rw [g _ _ (by omega)]; exact a6 d j d0 d1 hd, fun b j hb => by rw [g _ _ (fun z => hb ⟨by omega, by omega⟩)]; exact a7 b j hb⟩
  · by_cases e : j = i
    · subst e; rw [st_eq hM, hx]
    · rw [st_ne hM (fun z => e z.2)]; exact a3 j ((List.mem_cons.mp hj).resolve_left e)
  · have e : ¬ j = i := fun e => hj (by rw [e]; exact List.mem_cons_self)
    rw [st_ne hM (fun z => e z.2)]; exact a4 j (fun z => hj (List.mem_cons_of_mem _ z))
  · by_cases e : d = 0
    · subst e; exact absurd j1 (by show ¬ j < 0; omega)
    · rw [g _ _ (by omega)]; exact a5 d j hd j0 j1
theorem CPD.row {t f d N a0 a : Int} {F D : List Int} {M M1 M2 : Mem} (h : CPD t f F D M M1) (hd : 8 ≤ d ∧ d ≤ 16) (hft : f + 16 < t ∨ t + 16 < f) (hl : tlen d = N) (e0 : a0 = f + d) (e1 : a = t + d) (hM : M2 = mC M1 a0 0 a 0 N) : CPD t f F (d :: D) M M2 := by
  subst e0; subst e1; subst hl
  obtain ⟨a1, a2, a3, a4, a5, a6, a7⟩ := h
  have g : ∀ b j : Int, ¬ b = t + d → mG M2 b j = mG M1 b j := fun b j hb => cp_ne hM hb
  refine ⟨a1.of (fun b j b0 b1 => g b j (by omega)), by rw [g _ _ (by omega)]; exact a2, fun j hj => by rw [g _ _ (by omega)]; exact a3 j hj, fun j hj => by rw [g _ _ (by omega)]; exact a4 j hj, fun c j hc j0 j1 => ?_, fun c j c0 c1 hc => ?_, fun b j hb => by rw [g _ _ (fun z => hb ⟨by omega, by omega⟩)]; exact a7 b j hb⟩
  · by_cases e : c = d
    · subst e
      rw [cp_g hM, if_pos ⟨rfl, j0, by omega⟩, a7 _ _ (by omega)]
      congr 1; omega
    · rw [g _ _ (by omega)]; exact a5 c j ((List.mem_cons.mp hc).resolve_left e) j0 j1
  · have e : ¬ c = d := fun e => hc (by rw [e]; exact List.mem_cons_self)
    rw [g _ _ (by omega)]; exact a6 c j c0 c1 (fun z => hc (List.mem_cons_of_mem _ z))
theorem isTold_in {t : Int} (h : isTold t) : 3 ≤ t ∧ t ≤ 109 := by unfold isTold at h; omega
theorem isTold_ne {t f : Int} (h : isTold t) (h2 : isTold f) (hn : ¬ t = f) : f + 16 < t ∨ t + 16 < f := by
  rcases h with rfl | rfl | rfl | rfl <;> rcases h2 with rfl | rfl | rfl | rfl <;> first | exact absurd rfl hn | (left; decide) | (right; decide)
theorem pl_tcopy {n : Nat} {t f : Int} {M : Mem} (iM : I n M) (ht : isTold t) (hf : isTold f) (hn : ¬ t = f) : pw (mX6_copy t f M) (fun q => CPT t f M q.2) := by
  have hft := isTold_ne ht hf hn
  have hnf : ¬ (t ≤ f ∧ f ≤ t + 16) := by omega
  have K (k : Int) (h : tfld k = false) : ∀ F : List Int, (∀ x, x ∈ F → tfld x = true) → k ∉ F := fun F hF z => by rw [hF k z] at h; cases h
  have t2 : ∀ _ : Unit, mG M t 2 = t + 8 := fun _ => rd_Told_2 iM (f_Told ht)
  have t3 : ∀ _ : Unit, mG M t 3 = t + 9 := fun _ => rd_Told_3 iM (f_Told ht)
  have t4 : ∀ _ : Unit, mG M t 4 = t + 10 := fun _ => rd_Told_4 iM (f_Told ht)
  have t8 : ∀ _ : Unit, mG M t 8 = t + 11 := fun _ => rd_Told_8 iM (f_Told ht)
  have t9 : ∀ _ : Unit, mG M t 9 = t + 12 := fun _ => rd_Told_9 iM (f_Told ht)
  have t10 : ∀ _ : Unit, mG M t 10 = t + 13 := fun _ => rd_Told_10 iM (f_Told ht)
  have t15 : ∀ _ : Unit, mG M t 15 = t + 14 := fun _ => rd_Told_15 iM (f_Told ht)
  have t16 : ∀ _ : Unit, mG M t 16 = t + 15 := fun _ => rd_Told_16 iM (f_Told ht)
  have t17 : ∀ _ : Unit, mG M t 17 = t + 16 := fun _ => rd_Told_17 iM (f_Told ht)
  have f2 : ∀ _ : Unit, mG M f 2 = f + 8 := fun _ => rd_Told_2 iM (f_Told hf)
  have f3 : ∀ _ : Unit, mG M f 3 = f + 9 := fun _ => rd_Told_3 iM (f_Told hf)
  have f4 : ∀ _ : Unit, mG M f 4 = f + 10 := fun _ => rd_Told_4 iM (f_Told hf)
  have f8 : ∀ _ : Unit, mG M f 8 = f + 11 := fun _ => rd_Told_8 iM (f_Told hf)
  have f9 : ∀ _ : Unit, mG M f 9 = f + 12 := fun _ => rd_Told_9 iM (f_Told hf)
  have f10 : ∀ _ : Unit, mG M f 10 = f + 13 := fun _ => rd_Told_10 iM (f_Told hf)
  have f15 : ∀ _ : Unit, mG M f 15 = f + 14 := fun _ => rd_Told_15 iM (f_Told hf)
  have f16 : ∀ _ : Unit, mG M f 16 = f + 15 := fun _ => rd_Told_16 iM (f_Told hf)
  have f17 : ∀ _ : Unit, mG M f 17 = f + 16 := fun _ => rd_Told_17 iM (f_Told hf)
  unfold mX6_copy
  refine p_gFc (ji := 0) (r := t + 1) rfl (rd_Told_0 iM (f_Told ht)) (p_gFc (ji := 0) (r := f + 1) rfl (rd_Told_0 iM (f_Told hf)) (p_gK ?_))
  refine p_call (pl_scopy (iM.sg (shape_told ht)) (iM.sg (shape_told hf)) (by omega)) ?_
  rintro r0 m0 ⟨lo, z1, z2, z6, zf⟩
  have c0 : CPD t f [] [4, 3, 2] M m0 := by
    refine ⟨lo, z6, fun j hj => (by cases hj), fun j _ => zf t j (by omega), fun d j hd j0 j1 => ?_, fun d j d0 d1 _ => zf _ j (by omega), fun b j hb => zf b j (fun z => hb ⟨by omega, by omega⟩)⟩
    rcases List.mem_cons.mp hd with rfl | hd
    · have z := (z2 j j0 j1).2
      rw [show t + 1 + 3 = t + 4 by omega, show f + 1 + 3 = f + 4 by omega] at z; exact z
    · rcases List.mem_cons.mp hd with rfl | hd
      · have z := (z2 j j0 j1).1
        rw [show t + 1 + 2 = t + 3 by omega, show f + 1 + 2 = f + 3 by omega] at z; exact z
      · rcases List.mem_cons.mp hd with rfl | hd
        · have z := z1 j j0 j1
          rw [show t + 1 + 1 = t + 2 by omega, show f + 1 + 1 = f + 2 by omega] at z; exact z
        · cases hd
  refine p_gK ?_
  unfold mX6_copyWorlds
  dsimp only
  refine p_call (P := fun q => CPD t f [1] [9, 8, 4, 3, 2] M q.2) ?_ ?_
  · skip
    refine p_gFc (ji := 1) rfl (c0.2.2.2.2.2.2 f 1 hnf) (p_pF (ji := 1) rfl (fun M1 h1 => ?_))
    have c1 : CPD t f [1] [4, 3, 2] M M1 := c0.fld rfl h1
    refine p_gFc (ji := 2) (r := f + 8) rfl ((c1.2.2.2.2.2.2 f 2 hnf).trans (f2 ())) (p_gFc (ji := 2) (r := t + 8) rfl ((c1.2.2.2.1 2 (by decide)).trans (t2 ())) (p_aC (fun M2 h2 => ?_)))
    have c2 : CPD t f [1] [8, 4, 3, 2] M M2 := c1.row (by decide) hft rfl rfl rfl h2
    refine p_gFc (ji := 3) (r := f + 9) rfl ((c2.2.2.2.2.2.2 f 3 hnf).trans (f3 ())) (p_gFc (ji := 3) (r := t + 9) rfl ((c2.2.2.2.1 3 (by decide)).trans (t3 ())) (p_aCZ (fun M3 h3 => ?_)))
    have c3 : CPD t f [1] [9, 8, 4, 3, 2] M M3 := c2.row (by decide) hft rfl rfl rfl h3
    exact p_ret c3
  intro r1 m1 c3
  have c3 : CPD t f [1] [9, 8, 4, 3, 2] M m1 := c3
  dsimp only
  refine p_gFc (ji := 4) (r := f + 10) rfl ((c3.2.2.2.2.2.2 f 4 hnf).trans (f4 ())) (p_gFc (ji := 4) (r := t + 10) rfl ((c3.2.2.2.1 4 (by decide)).trans (t4 ())) (p_aC (fun M4 h4 => ?_)))
  have c4 : CPD t f [1] [10, 9, 8, 4, 3, 2] M M4 := c3.row (by decide) hft rfl rfl rfl h4
  refine p_gFc (ji := 5) rfl (c4.2.2.2.2.2.2 f 5 hnf) (p_pF (ji := 5) rfl (fun M5 h5 => ?_))
  have c5 : CPD t f [5, 1] [10, 9, 8, 4, 3, 2] M M5 := c4.fld rfl h5
  refine p_gFc (ji := 6) rfl (c5.2.2.2.2.2.2 f 6 hnf) (p_pF (ji := 6) rfl (fun M6 h6 => ?_))
  have c6 : CPD t f [6, 5, 1] [10, 9, 8, 4, 3, 2] M M6 := c5.fld rfl h6
  refine p_gFc (ji := 7) rfl (c6.2.2.2.2.2.2 f 7 hnf) (p_pF (ji := 7) rfl (fun M7 h7 => ?_))
  have c7 : CPD t f [7, 6, 5, 1] [10, 9, 8, 4, 3, 2] M M7 := c6.fld rfl h7
  refine p_gK ?_
  refine p_call (P := fun q => CPD t f [11, 7, 6, 5, 1] [13, 12, 11, 10, 9, 8, 4, 3, 2] M q.2) ?_ ?_
  · unfold mX6_copyStories
    have key : ∀ (fu : Nat) (l : Int) (M' : Mem), 0 ≤ l → l ≤ 8 → (∀ j : Int, 0 ≤ j → j < l → mG M' (t + 11) j = mG M (f + 11) j ∧ mG M' (t + 12) j = mG M (f + 12) j ∧ mG M' (t + 13) j = mG M (f + 13) j) → (∀ b j : Int, ¬ (t + 11 ≤ b ∧ b ≤ t + 13) → mG M' b j = mG M7 b j) → pw (mX6_copyStories_2 fu t f l M') (fun q => CPD t f [11, 7, 6, 5, 1] [13, 12, 11, 10, 9, 8, 4, 3, 2] M q.2) := by
      intro fu
      induction fu with
      | zero => intro l M' _ _ _ _; exact p_none
      | succ fu ih =>
        intro l M' b0 b1 hr hg
        have gf : ∀ b j : Int, ¬ (t ≤ b ∧ b ≤ t + 16) → mG M' b j = mG M b j := fun b j hb => (hg b j (fun z => hb ⟨by omega, by omega⟩)).trans (c7.2.2.2.2.2.2 b j hb)
        have gt : ∀ j : Int, j ∉ [7, 6, 5, 1] → mG M' t j = mG M t j := fun j hj => (hg t j (fun z => by omega)).trans (c7.2.2.2.1 j hj)
        show pw (bX6_copyStories_2 (mX6_copyStories_2 fu) t f l M') _
        unfold bX6_copyStories_2
        refine p_if (fun c => ?_) (fun c => ?_)
        · have el : l = 8 := by omega
          subst el
          refine p_gFc (ji := 11) rfl (gf f 11 (by omega)) (p_pF (ji := 11) rfl (fun M2 h2 => ?_))
          have c1 : CPD t f [7, 6, 5, 1] [13, 12, 11, 10, 9, 8, 4, 3, 2] M M' := by
            obtain ⟨a1, a2, a3, a4, a5, a6, a7⟩ := c7
            refine ⟨a1.of (fun b j b0 b1 => hg b j (fun z => by omega)), by rw [hg _ _ (fun z => by omega)]; exact a2, fun j hj => by rw [hg _ _ (fun z => by omega)]; exact a3 j hj, gt, fun d j hd j0 j1 => ?_, fun d j d0 d1 hd => ?_, gf⟩
            · by_cases e : d = 11 ∨ d = 12 ∨ d = 13
              · rcases e with e | e | e
                · subst e; exact (hr j j0 j1).1
                · subst e; exact (hr j j0 j1).2.1
                · subst e; exact (hr j j0 j1).2.2
              · rw [hg _ _ (fun z => by omega)]
                refine a5 d j ?_ j0 j1
                rcases List.mem_cons.mp hd with z | hd
                · omega
                · rcases List.mem_cons.mp hd with z | hd
                  · omega
                  · rcases List.mem_cons.mp hd with z | hd
                    · omega
                    · exact hd
            · have d11 : ¬ d = 11 := fun e => hd (by rw [e]; decide)
              have d12 : ¬ d = 12 := fun e => hd (by rw [e]; decide)
              have d13 : ¬ d = 13 := fun e => hd (by rw [e]; decide)
              rw [hg _ _ (fun z => by omega)]
              exact a6 d j d0 d1 (fun z => hd (List.mem_cons_of_mem _ (List.mem_cons_of_mem _ (List.mem_cons_of_mem _ z))))
          exact p_ret (c1.fld rfl h2)
        · have w1 := wI_id (x := l + 1) (by omega) (by omega)
          rw [w1]
          refine p_gFc (ji := 8) rfl ((gt 8 (by decide)).trans (t8 ())) (p_gFc (ji := 8) rfl ((gf f 8 (by omega)).trans (f8 ())) (p_aGc (gf (f + 11) l (by omega)) (p_aSR (fun M1 h1 => ?_))))
          have x1 : ∀ b j : Int, ¬ b = t + 11 → mG M1 b j = mG M' b j := fun b j hb => st_ne h1 (fun z => hb z.1)
          refine p_gFc (ji := 9) rfl ((x1 t 9 (by omega)).trans ((gt 9 (by decide)).trans (t9 ()))) (p_gFc (ji := 9) rfl ((x1 f 9 (by omega)).trans ((gf f 9 (by omega)).trans (f9 ()))) (p_aGc ((x1 (f + 12) l (by omega)).trans (gf (f + 12) l (by omega))) (p_aS (fun M2 h2 => ?_))))
          have x2 : ∀ b j : Int, ¬ b = t + 12 → mG M2 b j = mG M1 b j := fun b j hb => st_ne h2 (fun z => hb z.1)
          refine p_gFc (ji := 10) rfl ((x2 t 10 (by omega)).trans ((x1 t 10 (by omega)).trans ((gt 10 (by decide)).trans (t10 ())))) (p_gFc (ji := 10) rfl ((x2 f 10 (by omega)).trans ((x1 f 10 (by omega)).trans ((gf f 10 (by omega)).trans (f10 ())))) (p_aGc ((x2 (f + 13) l (by omega)).trans ((x1 (f + 13) l (by omega)).trans (gf (f + 13) l (by omega)))) (p_aS (fun M3 h3 => ?_))))
          have x3 : ∀ b j : Int, ¬ b = t + 13 → mG M3 b j = mG M2 b j := fun b j hb => st_ne h3 (fun z => hb z.1)
          refine ih (l + 1) M3 (by omega) (by omega) (fun j j0 j1 => ?_) (fun b j hb => ?_)
          · by_cases e : j = l
            · subst e
              exact ⟨by rw [x3 _ _ (by omega), x2 _ _ (by omega)]; exact st_eq h1, by rw [x3 _ _ (by omega)]; exact st_eq h2, st_eq h3⟩
            · obtain ⟨y1, y2, y3⟩ := hr j j0 (by omega)
              refine ⟨?_, ?_, ?_⟩
              · rw [x3 _ _ (by omega), x2 _ _ (by omega), st_ne h1 (fun z => e z.2)]; exact y1
              · rw [x3 _ _ (by omega), st_ne h2 (fun z => e z.2), x1 _ _ (by omega)]; exact y2
              · rw [st_ne h3 (fun z => e z.2), x2 _ _ (by omega), x1 _ _ (by omega)]; exact y3
          · rw [x3 _ _ (fun z => hb ⟨by omega, by omega⟩), x2 _ _ (fun z => hb ⟨by omega, by omega⟩), x1 _ _ (fun z => hb ⟨by omega, by omega⟩)]; exact hg b j hb
    exact key FU 0 M7 (by decide) (by decide) (fun j j0 j1 => by omega) (fun _ _ _ => rfl)
  intro r2 m2 c8
  have c8 : CPD t f [11, 7, 6, 5, 1] [13, 12, 11, 10, 9, 8, 4, 3, 2] M m2 := c8
  dsimp only
  refine p_gFc (ji := 12) rfl (c8.2.2.2.2.2.2 f 12 hnf) (p_pF (ji := 12) rfl (fun M9 h9 => ?_))
  have c9 : CPD t f [12, 11, 7, 6, 5, 1] [13, 12, 11, 10, 9, 8, 4, 3, 2] M M9 := c8.fld rfl h9
  refine p_gFc (ji := 13) rfl (c9.2.2.2.2.2.2 f 13 hnf) (p_pF (ji := 13) rfl (fun M10 h10 => ?_))
  have c10 : CPD t f [13, 12, 11, 7, 6, 5, 1] [13, 12, 11, 10, 9, 8, 4, 3, 2] M M10 := c9.fld rfl h10
  refine p_gFc (ji := 14) rfl (c10.2.2.2.2.2.2 f 14 hnf) (p_pF (ji := 14) rfl (fun M11 h11 => ?_))
  have c11 : CPD t f [14, 13, 12, 11, 7, 6, 5, 1] [13, 12, 11, 10, 9, 8, 4, 3, 2] M M11 := c10.fld rfl h11
  refine p_gFc (ji := 15) (r := f + 14) rfl ((c11.2.2.2.2.2.2 f 15 hnf).trans (f15 ())) (p_gFc (ji := 15) (r := t + 14) rfl ((c11.2.2.2.1 15 (by decide)).trans (t15 ())) (p_aC (fun M12 h12 => ?_)))
  have c12 : CPD t f [14, 13, 12, 11, 7, 6, 5, 1] [14, 13, 12, 11, 10, 9, 8, 4, 3, 2] M M12 := c11.row (by decide) hft rfl rfl rfl h12
  refine p_gFc (ji := 16) (r := f + 15) rfl ((c12.2.2.2.2.2.2 f 16 hnf).trans (f16 ())) (p_gFc (ji := 16) (r := t + 15) rfl ((c12.2.2.2.1 16 (by decide)).trans (t16 ())) (p_aCZ (fun M13 h13 => ?_)))
  have c13 : CPD t f [14, 13, 12, 11, 7, 6, 5, 1] [15, 14, 13, 12, 11, 10, 9, 8, 4, 3, 2] M M13 := c12.row (by decide) hft rfl rfl rfl h13
  refine p_gFc (ji := 17) (r := f + 16) rfl ((c13.2.2.2.2.2.2 f 17 hnf).trans (f17 ())) (p_gFc (ji := 17) (r := t + 16) rfl ((c13.2.2.2.1 17 (by decide)).trans (t17 ())) (p_aC (fun M14 h14 => ?_)))
  have c14 : CPD t f [14, 13, 12, 11, 7, 6, 5, 1] [16, 15, 14, 13, 12, 11, 10, 9, 8, 4, 3, 2] M M14 := c13.row (by decide) hft rfl rfl rfl h14
  refine p_gFc (ji := 18) rfl (c14.2.2.2.2.2.2 f 18 hnf) (p_pF (ji := 18) rfl (fun M15 h15 => ?_))
  have c15 : CPD t f [18, 14, 13, 12, 11, 7, 6, 5, 1] [16, 15, 14, 13, 12, 11, 10, 9, 8, 4, 3, 2] M M15 := c14.fld rfl h15
  obtain ⟨a1, a2, a3, a4, a5, a6, a7⟩ := c15
  have mf : ∀ j : Int, tfld j = true → j ∈ [18, 14, 13, 12, 11, 7, 6, 5, 1] := by
    intro j hj
    unfold tfld at hj
    split at hj <;> first | decide | cases hj
  have md : ∀ d j : Int, 0 ≤ j → j < tlen d → d ∈ [16, 15, 14, 13, 12, 11, 10, 9, 8, 4, 3, 2] := by
    intro d j j0 j1
    unfold tlen at j1
    split at j1 <;> first | decide | omega
  exact p_ret ⟨a1, a2, fun j hj => a3 j (mf j hj), fun d j j0 j1 => a5 d j (md d j j0 j1) j0 j1, a7⟩
end
