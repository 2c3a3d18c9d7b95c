/-! ===== the reference's long loops on the fresh memory ===== -/
theorem pu_inOrder {a b : Int} {M : Mem} : pw (mX9_inOrder a b M) (fun q => q.2 = M) := by
  unfold mX9_inOrder
  refine p_dQ (fun _ _ => ?_)
  refine p_dM (fun _ _ => ?_)
  refine p_if (fun _ => p_if (fun _ => ?_) (fun _ => ?_)) (fun _ => p_if (fun _ => ?_) (fun _ => ?_)) <;> (unfold mX9_inOrder_32; exact p_if (fun _ => p_ret rfl) (fun _ => p_if (fun _ => p_ret rfl) (fun _ => p_ret rfl)))
theorem pu_isOrder {a b : Int} {M : Mem} : pw (mX9_isOrder a b M) (fun q => q.2 = M) := by
  have t : ∀ (fu : Nat) (i : Int), pw (mX9_isOrder_2 fu a b i M) (fun q => q.2 = M) := by
    intro fu
    induction fu with
    | zero => intro i; exact p_none
    | succ fu ih =>
      intro i
      show pw (bX9_isOrder_2 (mX9_isOrder_2 fu) a b i M) _
      unfold bX9_isOrder_2
      refine p_if (fun _ => p_ret rfl) (fun _ => p_if (fun _ => ?_) (fun _ => ?_))
      · refine p_same pu_inOrder (fun r => ?_)
        refine p_if (fun _ => ?_) (fun _ => p_ret rfl)
        unfold mX9_isOrder_35; exact ih _
      · refine p_same pu_inOrder (fun r => ?_)
        refine p_if (fun _ => ?_) (fun _ => p_ret rfl)
        unfold mX9_isOrder_35; exact ih _
  exact t _ _
theorem pu_takeOrders {T : List ((Int × Int) × Int)} {a : Int} {M : Mem} (t : TR 162 126 169 T M) (hT : ∀ e, e ∈ T → ¬ e.1.1 = 162) (h : tvo 162 T 126 51 = some 162) : pw (mX9_takeOrders 126 a M) (fun q => TR 162 126 169 T q.2) := by
  unfold mX9_takeOrders
  refine p_gFc (ji := 51) (r := 162) rfl (t.v h (by decide)) ?_
  refine p_dQ (fun _ _ => ?_)
  refine p_aS (fun M1 h1 => ?_)
  have t1 := t.wX hT h1
  refine p_gFc (ji := 51) (r := 162) rfl (t1.v h (by decide)) ?_
  refine p_dQ (fun _ _ => ?_)
  refine p_dM (fun _ _ => ?_)
  refine p_aS (fun M2 h2 => ?_)
  have t2 := t1.wX hT h2
  refine p_gFc (ji := 51) (r := 162) rfl (t2.v h (by decide)) ?_
  refine p_dM (fun _ _ => ?_)
  refine p_aS (fun M3 h3 => ?_)
  have t3 := t2.wX hT h3
  refine p_gF rfl (fun _ _ => p_aG (fun _ _ => p_gF rfl (fun _ _ => p_aG (fun _ _ => ?_))))
  refine p_same pu_isOrder (fun _ => p_if (fun _ => p_ret t3) (fun _ => ?_))
  refine p_gF rfl (fun _ _ => p_aG (fun _ _ => p_gF rfl (fun _ _ => p_aG (fun _ _ => ?_))))
  refine p_same pu_isOrder (fun _ => p_if (fun _ => p_ret t3) (fun _ => ?_))
  refine p_gF rfl (fun _ _ => p_aG (fun _ _ => p_gF rfl (fun _ _ => p_aG (fun _ _ => ?_))))
  exact p_same pu_isOrder (fun _ => p_if (fun _ => p_ret t3) (fun _ => p_ret t3))
theorem pu_imageOf {T : List ((Int × Int) × Int)} {M : Mem} (t : TR 162 126 169 T M) (h8 : tvo 162 T 126 8 = some 134) (h80 : tvo 162 T 134 0 = some 0) : pw (mX9_imageOf 126 M) (fun q => q.1 = 0 ∧ q.2 = M) := by
  unfold mX9_imageOf mX9_manyFacts
  refine p_gK ?_
  refine p_bindg (fun Q1 hQ1 => ?_)
  refine p_gF rfl (fun _ _ => p_gF rfl (fun _ _ => p_aG (fun _ _ => p_aG (fun _ _ => p_ret (hQ1 _ ?_)))))
  show pw (bX9_imageOf_9 (mX9_imageOf_9 69999) 126 _ 0 0 M) _
  unfold bX9_imageOf_9
  refine p_gFc (ji := 8) (r := 134) rfl (t.v h8 (by decide)) ?_
  refine p_aGc (r := 0) (t.v h80 (by decide)) ?_
  exact p_it1 (by decide) (p_ret ⟨rfl, rfl⟩)
theorem li_loop {T : List ((Int × Int) × Int)} (hT : ∀ e, e ∈ T → ¬ e.1.1 = 162) (h : tvo 162 T 126 51 = some 162) (h8 : tvo 162 T 126 8 = some 134) (h80 : tvo 162 T 134 0 = some 0) : ∀ (fu : Nat) (i : Int) (M : Mem), TR 162 126 169 T M → pw (mX9_leastImage_4 fu 126 0 i M) (fun q => q.1 = 0 ∧ TR 162 126 169 T q.2) := by
  intro fu
  induction fu with
  | zero => intro i M t; exact p_none
  | succ fu ih =>
    intro i M t
    show pw (bX9_leastImage_4 (mX9_leastImage_4 fu) 126 0 i M) _
    unfold bX9_leastImage_4
    refine p_if (fun _ => p_ret ⟨rfl, t⟩) (fun _ => p_gK ?_)
    refine p_call (pu_takeOrders t hT h) (fun r M1 t1 => ?_)
    refine p_if (fun _ => ?_) (fun _ => p_gK ?_)
    · unfold mX9_leastImage_40; exact ih _ _ t1
    · refine p_call (pu_imageOf t1 h8 h80) (fun r2 M2 e => ?_)
      obtain ⟨e1, e2⟩ := e
      have e1 : r2 = 0 := e1
      have e2 : M2 = M1 := e2
      subst e1; subst e2
      refine p_it0 (by decide) (p_it1 (Int.le_refl 0) ?_)
      unfold mX9_leastImage_39 mX9_leastImage_40; exact ih _ _ t1
theorem ft_clear {T : List ((Int × Int) × Int)} {l1 l2 l3 X : Int} {Q : Int × Mem → Prop} (hT : ∀ e, e ∈ T → ¬ e.1.1 = 163) (h : tvo X T 126 55 = some 163) : ∀ (fu : Nat) (i : Int) (M : Mem), TR X 126 169 T M → 0 ≤ i → (∀ (M' : Mem), TR X 126 169 T M' → pw ((gK 9 M' 126).bind fun _ => (mX9_findKnown 126 M').bind fun q31 => mX9_findTogether_37 FU 126 l1 l2 l3 0 q31.2) Q) → pw (mX9_findTogether_8 fu 126 l1 l2 l3 i M) Q := by
  intro fu
  induction fu with
  | zero => intro i M t i0 k; exact p_none
  | succ fu ih =>
    intro i M t i0 k
    show pw (bX9_findTogether_8 (mX9_findTogether_8 fu) 126 l1 l2 l3 i M) _
    unfold bX9_findTogether_8
    refine p_if (fun _ => k M t) (fun c => ?_)
    refine p_gFc (ji := 55) (r := 163) rfl (t.v h (by decide)) ?_
    refine p_aSZ (fun M1 h1 => ?_)
    have w := wI_id (x := i + 1) (by omega) (by omega)
    rw [w]
    refine ih _ _ ⟨fun a j r a1 a2 e => ?_, fun b hb => (st_k h1 _).trans (t.2 b hb)⟩ (by omega) k
    by_cases z : a = 163 ∧ j = i
    · obtain ⟨z1, z2⟩ := z
      subst z1; subst z2
      rw [st_eq h1]
      have z : lkL 197 163 j = 0 := lkL_out (fun e he w => by
        have : ∀ e, e ∈ LF.take 197 → ¬ e.1.1 = 163 := by decide +kernel
        exact this e he w.1)
      unfold tvo at e
      rw [List.find?_eq_none.mpr (fun x hx y => by
        exact hT x hx (of_decide_eq_true y).1)] at e
      have e : (if (163 : Int) = X then none else some (lkL 197 163 j)) = some r := e
      rw [z] at e
      by_cases y : (163 : Int) = X
      · rw [if_pos y] at e; cases e
      · rw [if_neg y] at e; exact Option.some.inj e
    · rw [st_ne h1 z]; exact t.1 a j r a1 a2 e
theorem pu_isTogether {T : List ((Int × Int) × Int)} {X a : Int} {M : Mem} (t : TR X 126 169 T M) (h : tvo X T 126 55 = some 163) (h1 : tvo X T 163 0 = some 1) (ha : a = 0) : pw (mX9_isTogether 126 a M) (fun q => q.1 = 1 ∧ q.2 = M) := by
  subst ha
  unfold mX9_isTogether
  show pw (bX9_isTogether_2 (mX9_isTogether_2 69999) 126 0 0 M) _
  unfold bX9_isTogether_2
  refine p_it0 (by decide) ?_
  refine p_gFc (ji := 55) (r := 163) rfl (t.v h (by decide)) ?_
  refine p_aGc (r := 1) (t.v h1 (by decide)) ?_
  refine p_it0 (by decide) ?_
  exact p_it1 (by decide +kernel) (p_ret ⟨rfl, rfl⟩)
theorem fa_loop {T : List ((Int × Int) × Int)} {X : Int} {M : Mem} (t : TR X 126 169 T M) (h : tvo X T 126 55 = some 163) (h1 : tvo X T 163 0 = some 1) : ∀ (fu : Nat) (i : Int), 0 ≤ i → pw (mX9_fewestApart_13 fu 126 0 (-1) 9 i M) (fun q => q.1 = (-1) ∧ q.2 = M) := by
  have z : ∀ m : Nat, m < 256 → iand (m : Int) (ixor 0 (-1)) = 0 → m = 0 := by decide +kernel
  intro fu
  induction fu with
  | zero => intro i i0; exact p_none
  | succ fu ih =>
    intro i i0
    show pw (bX9_fewestApart_13 (mX9_fewestApart_13 fu) 126 0 (-1) 9 i M) _
    unfold bX9_fewestApart_13
    refine p_if (fun _ => p_ret ⟨rfl, rfl⟩) (fun c => ?_)
    have w := wI_id (x := i + 1) (by omega) (by omega)
    have n : pw (mX9_fewestApart_97 (mX9_fewestApart_13 fu) 126 0 (-1) 9 i M) (fun q => q.1 = (-1) ∧ q.2 = M) := by
      unfold mX9_fewestApart_97; rw [w]; exact ih _ (by omega)
    have t27 : ∀ (fu2 : Nat) (l5 l6 : Int), pw (mX9_fewestApart_27 (mX9_fewestApart_13 fu) fu2 126 0 (-1) 9 i l5 l6 M) (fun q => q.1 = (-1) ∧ q.2 = M) := by
      intro fu2
      induction fu2 with
      | zero => intro l5 l6; exact p_none
      | succ fu2 ih2 =>
        intro l5 l6
        show pw (bX9_fewestApart_27 (mX9_fewestApart_13 fu) (mX9_fewestApart_27 (mX9_fewestApart_13 fu) fu2) 126 0 (-1) 9 i l5 l6 M) _
        unfold bX9_fewestApart_27
        refine p_if (fun _ => ?_) (fun _ => p_some (fun v _ => ih2 _ _))
        refine p_if (fun y => ?_) (fun _ => n)
        refine p_if (fun _ => n) (fun _ => p_gK ?_)
        have e0 : i = 0 := by
          have := z i.toNat (by omega)
          rw [show ((i.toNat : Nat) : Int) = i by omega] at this
          have := this y
          omega
        refine p_call (pu_isTogether t h h1 e0) (fun r M1 e => ?_)
        obtain ⟨e1, e2⟩ := e
        have e1 : r = 1 := e1
        have e2 : M1 = M := e2
        subst e1; subst e2
        exact p_it0 (show ¬ (1 : Int) = 0 from by decide) n
    exact t27 _ _ _
