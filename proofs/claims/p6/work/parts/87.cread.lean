/-! ===== the class reads facts, binders, a part ===== -/
def RE.rBind2 (E : RE) (a cnt sc bo : Int) (ws : List (Int × Int)) (ps : List Row) (b : Int) : Option RS :=
  let v := varW (E.wd b)
  if v = -1 then none else
  let b3 := E.sk (E.we b)
  let k := kindW (E.wd b3)
  if k = -1 then none else
  some ⟨E.sk (E.we b3), (bindC sc (cv v) k (ishr sc 16), bindR bo v k) :: ws, ps ++ [⟨a, cnt, ishr sc 16, k, a, v, k, cnt⟩]⟩
section
variable {E : RE} {M : Mem} {ps : List Row} {ws : List (Int × Int)} {b sc bo : Int}
theorem q_isOfTwo {r : Int} (ce : CE E M) (h : 0 ≤ r ∧ r < E.nr) : pw (mX3_isOfTwo 4 r M) (fun q => ((E.k2 r = -1 ∧ q.1 = 0) ∨ (¬ E.k2 r = -1 ∧ q.1 = 1)) ∧ q.2 = M) := by
  obtain ⟨_, _, _, _, e4, _, ⟨e6, e7⟩, e8, _⟩ := ce
  obtain ⟨k1, k2⟩ := e8 r h.1 h.2
  unfold mX3_isOfTwo
  refine p_it0 (by omega) (p_gFc (ji := 6) rfl e4 (p_it0 (by omega) ?_))
  refine p_gFc (ji := 2) rfl e7 (p_aGc k2 ?_)
  exact p_if (fun c => p_ret ⟨Or.inl ⟨c, rfl⟩, rfl⟩) (fun c => p_ret ⟨Or.inr ⟨c, rfl⟩, rfl⟩)
theorem q_readFact (h : C2 E b M) (d : D8 ps M) (w : W8 ws M) (hl : ps.length < 40) (hs : ScR sc bo) : pw (mX2_readFact 65 sc M) (G8 E (E.rFact sc bo ws ps b)) := by
  have z61 : ∀ r x y M3, Z2 M3 → E.rFact sc bo ws ps b = none → pw (mX2_readFact_61 65 r x y M3) (G8 E (E.rFact sc bo ws ps b)) := fun r x y M3 z ee => by
    unfold mX2_readFact_61
    exact p_gFc (ji := 5) rfl z.1.2.2.2.1 (p_same pu_slotOf (fun _ => p_same pu_slotOf (fun _ => p_gK (p_call (z_write z) (fun _ M6 z6 => p_ret (Or.inl ⟨z6, ee⟩))))))
  have ztwo : ∀ r x M3, Z2 M3 → E.rFact sc bo ws ps b = none → pw ((gF 2 3 M3 65).bind fun a33 => (gK 3 M3 a33).bind fun _ => (mX3_isOfTwo a33 r M3).bind fun q37 => if q37.1 = 0 then mX2_readFact_61 65 r x 0 q37.2 else (gF 2 3 q37.2 65).bind fun a46 => (gF 3 2 q37.2 a46).bind fun a49 => (aG 10 q37.2 a49 r).bind fun a53 => (gK 2 q37.2 65).bind fun _ => (mX2_takeBound 65 sc a53 q37.2).bind fun q54 => mX2_readFact_61 65 r x q54.1 q54.2) (G8 E (E.rFact sc bo ws ps b)) := fun r x M3 z ee => by
    refine p_gF rfl (fun s _ => p_gK (p_same pu_isOfTwo (fun _ => p_if (fun _ => z61 _ _ _ _ z ee) (fun _ => ?_))))
    exact p_gF rfl (fun _ _ => p_gF rfl (fun _ _ => p_aG (fun _ _ => p_gK (p_call (z_takeBound z) (fun _ M4 z4 => z61 _ _ _ _ z4 ee)))))
  unfold mX2_readFact
  refine p_gK (p_call (q_takeRelation h) (fun r M1 g => ?_))
  rcases g with g | ⟨g1, g2, g3, g4, g5⟩
  · have ee : E.rFact sc bo ws ps b = none := by
      unfold RE.rFact
      show (if relW E.nr (E.wd b) = -1 then _ else _) = _
      rw [if_pos g.2]
    have g : Z2 M1 := g.1
    refine p_gF rfl (fun s _ => p_gK (p_call pu_hasRelation (fun t M2 e => ?_)))
    have e : M2 = M1 := e.1
    subst e
    refine p_if (fun _ => p_ret (Or.inl ⟨g, ee⟩)) (fun _ => ?_)
    exact p_gF rfl (fun _ _ => p_gF rfl (fun _ _ => p_aG (fun _ _ => p_gK (p_call (z_takeBound g) (fun _ M3 z => ztwo _ _ _ z ee)))))
  · have g2 : r = relW E.nr (E.wd b) := g2
    have g3 : 0 ≤ r ∧ r < E.nr := g3
    have g5 : C2 E (E.sk (E.we b)) M1 := g5
    refine p_gFc (ji := 3) rfl g5.ac.2.2.1 (p_gK (p_call pu_hasRelation (fun t M2 e => ?_)))
    obtain ⟨e, e2⟩ := e
    have e : M2 = M1 := e
    subst e
    rw [g5.1.2.2.2.2.1] at e2
    rcases e2 with ⟨_, e2⟩ | ⟨ht, _⟩
    · exact absurd g3 e2
    have ht : t = 1 := ht
    subst ht
    obtain ⟨k1, k2⟩ := g5.1.2.2.2.2.2.2.2.1 r g3.1 g3.2
    obtain ⟨n1, n2⟩ := g5.1.2.2.2.2.2.2.1
    refine p_it0 (show ¬ (1 : Int) = 0 by decide) (p_gFc (ji := 3) rfl g5.ac.2.2.1 (p_gFc (ji := 1) rfl n1 (p_aGc k1 (p_gK (p_call (q_takeBound g5 hs) (fun x M3 g => ?_))))))
    rcases g with g | ⟨v, b1, f1, f2, f3, f4, f5, f6⟩
    · refine ztwo _ _ _ g.1 ?_
      have f1 := g.2
      unfold RE.rFact
      show (if relW E.nr (E.wd b) = -1 then _ else _) = _
      rw [if_neg g1, ← g2, f1]; rfl
    · have f3 : x = cbd sc v := f3
      subst f3
      have f6 : C2 E b1 M3 := f6
      have a3 := g4.tr f5
      refine p_gFc (ji := 3) rfl f6.ac.2.2.1 (p_gK (p_call (q_isOfTwo f6.1 g3) (fun t M4 g => ?_)))
      obtain ⟨g, e⟩ := g
      have e : M4 = M3 := e
      subst e
      rcases g with ⟨y, ht⟩ | ⟨y, ht⟩
      · have ht : t = 0 := ht
        subst ht
        refine p_it1 (show (0 : Int) = 0 from rfl) ?_
        unfold mX2_readFact_61
        refine p_gFc (ji := 5) rfl f6.ac.2.2.2.1 (p_slot f4 (p_slot0 (p_gK ?_)))
        refine p_call (q_write f6 (a3.d8 d) (a3.w8 w) hl ⟨11, r, slt sc v, 0, 11, r, v, 0⟩ ⟨rfl, rfl, rfl, rfl⟩) (fun _ M6 g => p_ret (G8.mk g ?_))
        unfold RE.rFact
        show (if relW E.nr (E.wd b) = -1 then _ else _) = _
        rw [if_neg g1, ← g2, f1]
        show (if E.k2 r = -1 then _ else _) = _
        rw [if_pos y]
      · have ht : t = 1 := ht
        subst ht
        obtain ⟨k1, k2⟩ := f6.1.2.2.2.2.2.2.2.1 r g3.1 g3.2
        obtain ⟨n1, n2⟩ := f6.1.2.2.2.2.2.2.1
        refine p_it0 (show ¬ (1 : Int) = 0 by decide) (p_gFc (ji := 3) rfl f6.ac.2.2.1 (p_gFc (ji := 2) rfl n2 (p_aGc k2 (p_gK (p_call (q_takeBound f6 hs) (fun x M5 g => ?_))))))
        rcases g with g | ⟨v2, b2, i1, i2, i3, i4, i5, i6⟩
        · refine z61 _ _ _ _ g.1 ?_
          have i1 := g.2
          unfold RE.rFact
          show (if relW E.nr (E.wd b) = -1 then _ else _) = _
          rw [if_neg g1, ← g2, f1]
          show (if E.k2 r = -1 then _ else _) = _
          rw [if_neg y]
          show ((E.rv bo (E.k2 r) b1).bind _) = _
          rw [i1]; rfl
        · have i3 : x = cbd sc v2 := i3
          subst i3
          have i6 : C2 E b2 M5 := i6
          have a5 := a3.tr i5
          unfold mX2_readFact_61
          refine p_gFc (ji := 5) rfl i6.ac.2.2.2.1 (p_slot f4 (p_slot i4 (p_gK ?_)))
          refine p_call (q_write i6 (a5.d8 d) (a5.w8 w) hl ⟨11, r, slt sc v, slt sc v2, 12, r, v, v2⟩ ⟨rfl, rfl, rfl, rfl⟩) (fun _ M6 g => p_ret (G8.mk g ?_))
          unfold RE.rFact
          show (if relW E.nr (E.wd b) = -1 then _ else _) = _
          rw [if_neg g1, ← g2, f1]
          show (if E.k2 r = -1 then _ else _) = _
          rw [if_neg y]
          show ((E.rv bo (E.k2 r) b1).bind _) = _
          rw [i1]; rfl
theorem z_rb39 {a cnt : Int} {S : Option RS} (ee : S = none) (z : Z2 M) : pw (mX2_readBinder_39 65 a sc cnt M) (G8 E S) := by
  unfold mX2_readBinder_39
  refine p_gK (p_call (z_var z) (fun v M1 z1 => p_gK (p_call (z_kind z1) (fun k M2 z2 => ?_))))
  have z2 : Z2 M2 := z2
  refine p_gF rfl (fun br _ => p_if (fun _ => ?_) (fun _ => p_ret (Or.inl ⟨z2, ee⟩)))
  refine p_same pu_depth (fun _ => p_some (fun s _ => p_gFc (ji := 5) rfl z2.1.2.2.2.1 (p_gK (p_call (z_write z2) (fun _ M3 z3 => ?_)))))
  exact p_same pu_bind (fun _ => p_gK (p_call (z_expect z3) (fun _ M4 z4 => p_ret (Or.inl ⟨z4, ee⟩))))
theorem q_rb39 {a cnt : Int} (h : C2 E b M) (d : D8 ps M) (w : W8 ws M) (hl : ps.length < 40) (hwl : ws.length < 402) (hs : ScR sc bo) (hd : ishr sc 16 < 4) : pw (mX2_readBinder_39 65 a sc cnt M) (G8 E (E.rBind2 a cnt sc bo ws ps b)) := by
  have fz : ∀ k v M2, Z2 M2 → E.rBind2 a cnt sc bo ws ps b = none → pw ((gF 2 4 M2 65).bind fun a53 => if a53 = 0 then (mX2_depth sc M2).bind fun q61 => (some (if 3 < q61.1 then 3 else q61.1)).bind fun b68 => (gF 2 5 q61.2 65).bind fun a71 => (gK 5 q61.2 a71).bind fun _ => (mX5_write a71 a cnt b68 k q61.2).bind fun q80 => (mX2_bind sc v k b68 q80.2).bind fun q91 => (gK 2 q91.2 65).bind fun _ => (mX2_expectPart 65 q91.1 q91.2).bind fun q94 => some ((0 : Int), q94.2) else some (0, M2)) (G8 E (E.rBind2 a cnt sc bo ws ps b)) := fun k v M2 z2 ee => by
    refine p_gF rfl (fun br _ => p_if (fun _ => ?_) (fun _ => p_ret (Or.inl ⟨z2, ee⟩)))
    refine p_same pu_depth (fun _ => p_some (fun s _ => p_gFc (ji := 5) rfl z2.1.2.2.2.1 (p_gK (p_call (z_write z2) (fun _ M3 z3 => ?_)))))
    exact p_same pu_bind (fun _ => p_gK (p_call (z_expect z3) (fun _ M4 z4 => p_ret (Or.inl ⟨z4, ee⟩))))
  unfold mX2_readBinder_39
  refine p_gK (p_call (q_takeVariable h) (fun v M1 g => ?_))
  rcases g with g | ⟨g1, g2, g3, g4, g5⟩
  · refine p_gK (p_call (z_kind g.1) (fun k M2 z2 => fz _ _ _ z2 ?_))
    unfold RE.rBind2
    show (if varW (E.wd b) = -1 then _ else _) = _
    rw [if_pos g.2]
  · have g2 : v = cv (varW (E.wd b)) := g2
    subst g2
    refine p_gK (p_call (q_takeKind g5) (fun k M2 g => ?_))
    rcases g with g | ⟨f1, f2, f3, f4, f5⟩
    · refine fz _ _ _ g.1 ?_
      unfold RE.rBind2
      show (if varW (E.wd b) = -1 then _ else if kindW (E.wd (E.sk (E.we b))) = -1 then _ else _) = _
      rw [if_neg g1, if_pos g.2]
    · have f2 : k = kindW (E.wd (E.sk (E.we b))) := f2
      have f3 : 0 ≤ k ∧ k ≤ 2 := f3
      have f5 : C2 E (E.sk (E.we (E.sk (E.we b)))) M2 := f5
      refine p_gFc (ji := 4) rfl f5.br (p_it1 rfl ?_)
      unfold mX2_depth
      have hs0 := hs.2.2.2.2.1
      refine p_bindg (fun Q1 hQ1 => p_ret (hQ1 _ (p_some (fun s hsd => ?_))))
      have hsd : s = ishr sc 16 := hsd.trans (if_neg (by omega))
      subst hsd
      have a2 := g4.tr f4
      refine p_gFc (ji := 5) rfl f5.ac.2.2.2.1 (p_gK (p_call (q_write f5 (a2.d8 d) (a2.w8 w) hl ⟨a, cnt, ishr sc 16, k, a, varW (E.wd b), k, cnt⟩ ⟨rfl, rfl, rfl, rfl⟩) (fun _ M3 g => ?_)))
      obtain ⟨c3, d3, w3⟩ := g
      unfold mX2_bind mX2_depth
      refine p_bindg (fun Q2 hQ2 => p_bindg (fun Q3 hQ3 => p_ret (hQ3 _ (p_some (fun x hx => p_some (fun y hy => p_ret (hQ2 _ ?_)))))))
      have hx : x = wI (ishr sc 16 + 1) := hx.trans (if_neg (by
        show ¬ 4 < wI (ishr sc 16 + 1)
        rw [wI_id (x := ishr sc 16 + 1) (by omega) (by omega)]; omega))
      subst hx; subst hy
      refine p_gK (p_call (q_expect (bo := bindR bo (varW (E.wd b)) k) c3 d3 w3 hwl) (fun _ M4 g => p_ret (G8.mk g ?_)))
      rw [f2]
      unfold RE.rBind2
      show (if varW (E.wd b) = -1 then _ else if kindW (E.wd (E.sk (E.we b))) = -1 then _ else _) = _
      rw [if_neg g1, if_neg f1]; try rfl
end
