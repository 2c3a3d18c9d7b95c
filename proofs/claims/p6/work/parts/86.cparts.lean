/-! ===== the class reads each sort of part ===== -/
theorem Z2.kp {M M' : Mem} (z : Z2 M) (h : ∀ c j : Int, (c = 65 ∧ j ≤ 6) ∨ (c = 66 ∧ j ≤ 3) ∨ (c = 3 ∧ j = 6) → mG M' c j = mG M c j) : Z2 M' := by
  obtain ⟨⟨a0, a1, a2, a3, a4, a5, a6, a7, a8⟩, b, f⟩ := z
  refine ⟨⟨(h _ _ (by omega)).trans a0, (h _ _ (by omega)).trans a1, (h _ _ (by omega)).trans a2, (h _ _ (by omega)).trans a3, (h _ _ (by omega)).trans a4, (h _ _ (by omega)).trans a5, (h _ _ (by omega)).trans a6, (h _ _ (by omega)).trans a7, (h _ _ (by omega)).trans a8⟩, fun y => ?_, ?_⟩
  · rw [h 3 6 (by omega)]; exact f
  · rw [h 3 6 (by omega)]; exact f
theorem z_write {M : Mem} {c0 c1 c2 c3 : Int} (z : Z2 M) : pw (mX5_write 66 c0 c1 c2 c3 M) (fun q => Z2 q.2) := by
  obtain ⟨_, _, _, _, _, a0, a1, a2, a3⟩ := z.1
  have fin : ∀ M1, Z2 M1 → pw (mX5_write_53 66 M1) (fun q => Z2 q.2) := fun M1 z1 => by
    unfold mX5_write_53
    exact p_gF rfl (fun _ _ => p_pF (ji := 5) rfl (fun M2 h2 => p_ret (z1.kp (fun c j y => st_ne h2 (by omega)))))
  unfold mX5_write
  refine p_gF rfl (fun v _ => p_gFc (ji := 0) rfl a0 (p_aL (fun v2 _ => p_if (fun _ => fin M z) (fun _ => ?_))))
  refine p_gFc (ji := 0) rfl a0 (p_gF rfl (fun x1 _ => p_aS (fun M1 h1 => ?_)))
  refine p_gFc (ji := 1) rfl ((st_ne h1 (by omega)).trans a1) (p_gF rfl (fun x2 _ => p_aS (fun M2 h2 => ?_)))
  refine p_gFc (ji := 2) rfl ((st_ne h2 (by omega)).trans ((st_ne h1 (by omega)).trans a2)) (p_gF rfl (fun x3 _ => p_aS (fun M3 h3 => ?_)))
  refine p_gFc (ji := 3) rfl ((st_ne h3 (by omega)).trans ((st_ne h2 (by omega)).trans ((st_ne h1 (by omega)).trans a3))) (p_gF rfl (fun x4 _ => p_aS (fun M4 h4 => ?_)))
  exact fin M4 (z.kp (fun c j y => (st_ne h4 (by omega)).trans ((st_ne h3 (by omega)).trans ((st_ne h2 (by omega)).trans (st_ne h1 (by omega))))))
theorem z_expect {M : Mem} {x : Int} (z : Z2 M) : pw (mX2_expectPart 65 x M) (fun q => Z2 q.2) := p_mono (pu_expectPart z.1) (fun q t => z.t t)
theorem z_adv {M : Mem} (z : Z2 M) : pw (mX2_advance 65 M) (fun q => Z2 q.2) := p_mono pu_advance (fun q t => z.t t)
theorem z_num {M : Mem} (z : Z2 M) : pw (mX2_takeNumber 65 M) (fun q => Z2 q.2) := p_mono (pu_takeNumber z.1) (fun q t => z.t t)
theorem z_var {M : Mem} (z : Z2 M) : pw (mX2_takeVariable 65 M) (fun q => Z2 q.2) := p_mono (pu_takeVariable z.1) (fun q t => z.t t)
theorem z_kind {M : Mem} (z : Z2 M) : pw (mX2_takeKind 65 M) (fun q => Z2 q.2) := p_mono (pu_takeKind z.1) (fun q t => z.t t)
theorem z_road {M : Mem} (z : Z2 M) : pw (mX2_takeRoad 65 M) (fun q => Z2 q.2) := p_mono (pu_takeRoad z.1) (fun q t => z.t t)
theorem z_rel {M : Mem} (z : Z2 M) : pw (mX2_takeRelation 65 M) (fun q => Z2 q.2) := p_mono (pu_takeRelation z.1) (fun q t => z.t t.1)
/-- what a reader of a part leaves: a fault, or all as the specification says -/
def G8 (E : RE) (S : Option RS) (q : Int × Mem) : Prop := (Z2 q.2 ∧ S = none) ∨ ∃ S', S = some S' ∧ C2 E S'.b q.2 ∧ D8 S'.ps q.2 ∧ W8 S'.ws q.2
theorem G8.mk {E : RE} {S : Option RS} {b : Int} {ws : List (Int × Int)} {ps : List Row} {r : Int} {M : Mem} (h : C2 E b M ∧ D8 ps M ∧ W8 ws M) (e : S = some ((b, ws, ps) : RS)) : G8 E S (r, M) := Or.inr ⟨(b, ws, ps), e, h⟩
section
variable {E : RE} {M : Mem} {ps : List Row} {ws : List (Int × Int)} {b sc bo : Int}
theorem p_slot {β : Type} {Q : β → Prop} {x : Int} {f : Int × Mem → Option β} (hx : ¬ x = 0) (k : pw (f (ishr (wI (x - 1)) 2, M)) Q) : pw ((mX2_slotOf x M).bind f) Q := by
  unfold mX2_slotOf
  rw [if_neg hx]; exact k
theorem p_slot0 {β : Type} {Q : β → Prop} {f : Int × Mem → Option β} (k : pw (f (0, M)) Q) : pw ((mX2_slotOf 0 M).bind f) Q := by
  unfold mX2_slotOf
  rw [if_pos rfl]; exact k
theorem p_kindOf {β : Type} {Q : β → Prop} {x : Int} {f : Int × Mem → Option β} (hx : ¬ x = 0) (k : pw (f (iand (wI (x - 1)) 3, M)) Q) : pw ((mX2_kindOf x M).bind f) Q := by
  unfold mX2_kindOf
  rw [if_neg hx]; exact k
theorem AF.all {M' : Mem} (a : AF M M') (d : D8 ps M) (w : W8 ws M) : D8 ps M' ∧ W8 ws M' := ⟨a.d8 d, a.w8 w⟩
theorem q_readSame (h : C2 E b M) (d : D8 ps M) (w : W8 ws M) (hl : ps.length < 40) (hs : ScR sc bo) (hw : ¬ E.wd b = []) : pw (mX2_readSame 65 sc M) (G8 E (E.rSame sc bo ws ps b)) := by
  obtain ⟨w1, w2⟩ := h.2.2.2.we h.1 hw
  unfold mX2_readSame
  refine p_gK (p_call (q_adv h w1 w2) (fun _ M1 g => ?_))
  obtain ⟨a1, c1⟩ := g
  refine p_gK (p_call (q_takeBound c1 hs) (fun x M2 g => ?_))
  have rest : ∀ y1 y2 M3, Z2 M3 → E.rSame sc bo ws ps b = none → pw ((gF 2 5 M3 65).bind fun a22 => (mX2_slotOf y1 M3).bind fun q29 => (mX2_slotOf y2 q29.2).bind fun q33 => (gK 5 q33.2 a22).bind fun _ => (mX5_write a22 8 0 q29.1 q33.1 q33.2).bind fun q36 => some ((0 : Int), q36.2)) (G8 E (E.rSame sc bo ws ps b)) := fun y1 y2 M3 z ee => by
    refine p_gFc (ji := 5) rfl z.1.2.2.2.1 (p_same pu_slotOf (fun _ => p_same pu_slotOf (fun _ => p_gK (p_call (z_write z) (fun _ M4 z4 => p_ret (Or.inl ⟨z4, ee⟩))))))
  rcases g with g | ⟨v, b', e1, e2, e3, e4, e5, e6⟩
  · exact p_same pu_kindOf (fun k => p_gK (p_call (z_takeBound g.1) (fun y M3 z => rest _ _ M3 z (by unfold RE.rSame; rw [g.2]; rfl))))
  · have e3 : x = cbd sc v := e3
    subst e3
    refine p_kindOf e4 (p_gK (p_call (q_takeBound e6 hs) (fun y M3 g => ?_)))
    rcases g with g | ⟨v2, b2, f1, f2, f3, f4, f5, f6⟩
    · refine rest _ _ M3 g.1 ?_
      have f1 := g.2
      unfold RE.rSame
      rw [e1]
      rcases hs.at e2 with ⟨k1, k2⟩ | ⟨k1, k2, k3, k4⟩
      · exact absurd k2 e4
      · rw [k4] at f1
        show (E.rv bo (bnd bo v) b').bind _ = _
        rw [f1]; rfl
    · have f3 : y = cbd sc v2 := f3
      subst f3
      refine p_gFc (ji := 5) rfl f6.ac.2.2.2.1 (p_slot e4 (p_slot f4 (p_gK ?_)))
      have a3 := (a1.tr e5).tr f5
      refine p_call (q_write f6 (a3.d8 d) (a3.w8 w) hl ⟨8, 0, slt sc v, slt sc v2, 8, v, v2, 0⟩ ⟨rfl, rfl, rfl, rfl⟩) (fun _ M4 g => p_ret (G8.mk g ?_))
      unfold RE.rSame
      rw [e1]
      rcases hs.at e2 with ⟨k1, k2⟩ | ⟨k1, k2, k3, k4⟩
      · exact absurd k2 e4
      · rw [k4] at f1
        show (E.rv bo (bnd bo v) b').bind _ = _
        rw [f1]; rfl
theorem q_twice {r : Int} (ce : CE E M) (h : 0 ≤ r ∧ r < E.nr) : pw (mX3_isOfOneKindTwice 4 r M) (fun q => ((E.k2 r = E.k1 r ∧ q.1 = 1) ∨ (¬ E.k2 r = E.k1 r ∧ q.1 = 0)) ∧ q.2 = M) := by
  obtain ⟨_, _, _, _, e4, _, ⟨e6, e7⟩, e8, _⟩ := ce
  obtain ⟨k1, k2⟩ := e8 r h.1 h.2
  unfold mX3_isOfOneKindTwice
  refine p_it0 (by omega) (p_gFc (ji := 6) rfl e4 (p_it0 (by omega) ?_))
  refine p_gFc (ji := 1) rfl e6 (p_aGc k1 (p_gFc (ji := 2) rfl e7 (p_aGc k2 ?_)))
  exact p_if (fun c => p_ret ⟨Or.inl ⟨c.symm, rfl⟩, rfl⟩) (fun c => p_ret ⟨Or.inr ⟨fun y => c y.symm, rfl⟩, rfl⟩)
theorem q_takeRoad (h : C2 E b M) : pw (mX2_takeRoad 65 M) (fun q => (Z2 q.2 ∧ E.rRoad b = none) ∨ ∃ r b', E.rRoad b = some (r, b') ∧ (0 ≤ r ∧ r < E.nr) ∧ E.k2 r = E.k1 r ∧ q.1 = r ∧ AF M q.2 ∧ C2 E b' q.2) := by
  unfold mX2_takeRoad
  refine p_gF rfl (fun pl _ => p_gK (p_call (q_takeRelation h) (fun r M1 g => ?_)))
  rcases g with g | ⟨g1, g2, g3, g4, g5⟩
  · have e0 : E.rRoad b = none := by
      unfold RE.rRoad
      show (if relW E.nr (E.wd b) = -1 then _ else _) = _
      rw [if_pos g.2]
    have g : Z2 M1 := g.1
    refine p_gF rfl (fun s _ => p_gK (p_same pu_twice (fun _ => p_if (fun _ => p_gK (p_call (q_note g.1 g.2.1 (by decide)) (fun _ M2 z => ?_))) (fun _ => ?_))))
    · unfold mX2_takeRoad_27; exact p_ret (Or.inl ⟨z, e0⟩)
    · unfold mX2_takeRoad_27; exact p_ret (Or.inl ⟨g, e0⟩)
  · have g2 : r = relW E.nr (E.wd b) := g2
    have g3 : 0 ≤ r ∧ r < E.nr := g3
    have g5 : C2 E (E.sk (E.we b)) M1 := g5
    refine p_gFc (ji := 3) rfl g5.ac.2.2.1 (p_gK (p_call (q_twice g5.1 g3) (fun t M2 g => ?_)))
    obtain ⟨g, e⟩ := g
    have e : M2 = M1 := e
    subst e
    rcases g with ⟨g, ht⟩ | ⟨g, ht⟩
    · have ht : t = 1 := ht
      subst ht
      refine p_it0 (show ¬ (1 : Int) = 0 by decide) ?_
      unfold mX2_takeRoad_27
      refine p_ret (Or.inr ⟨r, _, ?_, g3, g, rfl, g4, g5⟩)
      unfold RE.rRoad
      show (if relW E.nr (E.wd b) = -1 then _ else _) = _
      rw [if_neg g1, ← g2, if_neg (fun y => y g)]
    · have ht : t = 0 := ht
      subst ht
      refine p_it1 (show (0 : Int) = 0 from rfl) (p_gK (p_call (q_note g5.ac g5.2.1 (by decide)) (fun _ M3 z => ?_)))
      unfold mX2_takeRoad_27
      refine p_ret (Or.inl ⟨z, ?_⟩)
      unfold RE.rRoad
      show (if relW E.nr (E.wd b) = -1 then _ else _) = _
      rw [if_neg g1, ← g2, if_pos g]
theorem q_readTree (h : C2 E b M) (d : D8 ps M) (w : W8 ws M) (hl : ps.length < 40) (hw : ¬ E.wd b = []) : pw (mX2_readTree 65 M) (G8 E (E.rTree ws ps b)) := by
  obtain ⟨w1, w2⟩ := h.2.2.2.we h.1 hw
  unfold mX2_readTree
  refine p_gK (p_call (q_adv h w1 w2) (fun _ M1 g => ?_))
  obtain ⟨a1, c1⟩ := g
  have c1 : C2 E (E.sk (E.we b)) M1 := c1
  refine p_gFc (ji := 5) rfl c1.ac.2.2.2.1 (p_gK (p_call (q_takeRoad c1) (fun r M2 g => ?_)))
  rcases g with g | ⟨r', b', e1, e2, e3, e4, e5, e6⟩
  · exact p_gK (p_call (z_write g.1) (fun _ M3 z => p_ret (Or.inl ⟨z, by unfold RE.rTree; rw [g.2]; rfl⟩)))
  · have e4 : r = r' := e4
    subst e4
    have a3 := a1.tr e5
    refine p_gK (p_call (q_write e6 (a3.d8 d) (a3.w8 w) hl ⟨10, r, 0, 0, 10, r, 0, 0⟩ ⟨rfl, rfl, rfl, rfl⟩) (fun _ M4 g => p_ret (G8.mk g ?_)))
    unfold RE.rTree
    rw [e1]; rfl
theorem q_readJoint {a : Int} (h : C2 E b M) (d : D8 ps M) (w : W8 ws M) (hl : ps.length < 40) (hwl : ws.length < 402) (hw : ¬ E.wd b = []) : pw (mX2_readJoint 65 a sc M) (fun q => C2 E (E.sk (E.we b)) q.2 ∧ D8 (ps ++ [⟨a, 0, 0, 0, a, 0, 0, 0⟩]) q.2 ∧ W8 ((sc, bo) :: ws) q.2) := by
  obtain ⟨w1, w2⟩ := h.2.2.2.we h.1 hw
  unfold mX2_readJoint
  refine p_gK (p_call (q_adv h w1 w2) (fun _ M1 g => ?_))
  obtain ⟨a1, c1⟩ := g
  have c1 : C2 E (E.sk (E.we b)) M1 := c1
  refine p_gFc (ji := 5) rfl c1.ac.2.2.2.1 (p_gK (p_call (q_write c1 (a1.d8 d) (a1.w8 w) hl ⟨a, 0, 0, 0, a, 0, 0, 0⟩ ⟨rfl, rfl, rfl, rfl⟩) (fun _ M2 g => ?_)))
  obtain ⟨g1, g2, g3⟩ := g
  exact p_gK (p_call (q_expect (bo := bo) g1 g2 g3 hwl) (fun _ M3 g => p_ret g))
theorem q_readReach (h : C2 E b M) (d : D8 ps M) (w : W8 ws M) (hl : ps.length < 40) (hs : ScR sc bo) (hw : ¬ E.wd b = []) : pw (mX2_readReach 65 sc M) (G8 E (E.rReach sc bo ws ps b)) := by
  obtain ⟨w1, w2⟩ := h.2.2.2.we h.1 hw
  have zrest : ∀ r s M3, Z2 M3 → E.rReach sc bo ws ps b = none → pw (mX2_readReach_33 65 sc r s M3) (G8 E (E.rReach sc bo ws ps b)) := fun r s M3 z ee => by
    unfold mX2_readReach_33
    refine p_gK (p_call (z_takeBound z) (fun y M4 z => p_gK (p_call (z_takeBound z) (fun y2 M5 z => ?_))))
    have z : Z2 M5 := z
    exact p_gFc (ji := 5) rfl z.1.2.2.2.1 (p_same pu_slotOf (fun _ => p_same pu_slotOf (fun _ => p_gK (p_call (z_write z) (fun _ M6 z6 => p_ret (Or.inl ⟨z6, ee⟩))))))
  unfold mX2_readReach
  refine p_gK (p_call (q_adv h w1 w2) (fun _ M1 g => ?_))
  obtain ⟨a1, c1⟩ := g
  refine p_gK (p_call (q_takeRoad c1) (fun r M2 g => ?_))
  rcases g with g | ⟨r', b', e1, e2, e3, e4, e5, e6⟩
  · have ee : E.rReach sc bo ws ps b = none := by unfold RE.rReach; rw [g.2]; rfl
    have g : Z2 M2 := g.1
    refine p_gF rfl (fun s _ => p_gK (p_same pu_twice (fun _ => p_if (fun _ => zrest _ _ _ g ee) (fun _ => ?_))))
    exact p_gF rfl (fun s2 _ => p_gF rfl (fun s3 _ => p_aG (fun s4 _ => zrest _ _ _ g ee)))
  · have e4 : r = r' := e4
    subst e4
    have e6 : C2 E b' M2 := e6
    refine p_gFc (ji := 3) rfl e6.ac.2.2.1 (p_gK (p_call (q_twice e6.1 e2) (fun t M3 g => ?_)))
    obtain ⟨g, e⟩ := g
    have e : M3 = M2 := e
    subst e
    rcases g with ⟨_, ht⟩ | ⟨g, _⟩
    · have ht : t = 1 := ht
      subst ht
      obtain ⟨k1, k2⟩ := e6.1.2.2.2.2.2.2.2.1 r e2.1 e2.2
      refine p_it0 (show ¬ (1 : Int) = 0 by decide) (p_gFc (ji := 3) rfl e6.ac.2.2.1 (p_gFc (ji := 1) rfl e6.1.2.2.2.2.2.2.1.1 (p_aGc k1 ?_)))
      unfold mX2_readReach_33
      refine p_gK (p_call (q_takeBound e6 hs) (fun x M4 g => ?_))
      rcases g with g | ⟨v, b1, f1, f2, f3, f4, f5, f6⟩
      · have ee : E.rReach sc bo ws ps b = none := by
          unfold RE.rReach
          rw [e1]
          show ((E.rv bo (E.k1 r) b').bind _) = _
          rw [g.2]; rfl
        refine p_gK (p_call (z_takeBound g.1) (fun y2 M5 z => ?_))
        have z : Z2 M5 := z
        exact p_gFc (ji := 5) rfl z.1.2.2.2.1 (p_same pu_slotOf (fun _ => p_same pu_slotOf (fun _ => p_gK (p_call (z_write z) (fun _ M6 z6 => p_ret (Or.inl ⟨z6, ee⟩))))))
      · have f3 : x = cbd sc v := f3
        subst f3
        refine p_gK (p_call (q_takeBound f6 hs) (fun y M5 g => ?_))
        rcases g with g | ⟨v2, b2, i1, i2, i3, i4, i5, i6⟩
        · have ee : E.rReach sc bo ws ps b = none := by
            unfold RE.rReach
            rw [e1]
            show ((E.rv bo (E.k1 r) b').bind fun x => (E.rv bo (E.k2 r) x.2).bind _) = _
            rw [f1]
            show ((E.rv bo (E.k2 r) b1).bind _) = _
            rw [e3, g.2]; rfl
          have g : Z2 M5 := g.1
          exact p_gFc (ji := 5) rfl g.1.2.2.2.1 (p_same pu_slotOf (fun _ => p_same pu_slotOf (fun _ => p_gK (p_call (z_write g) (fun _ M6 z6 => p_ret (Or.inl ⟨z6, ee⟩))))))
        · have i3 : y = cbd sc v2 := i3
          subst i3
          have i6 : C2 E b2 M5 := i6
          have a3 := ((a1.tr e5).tr f5).tr i5
          refine p_gFc (ji := 5) rfl i6.ac.2.2.2.1 (p_slot f4 (p_slot i4 (p_gK ?_)))
          refine p_call (q_write i6 (a3.d8 d) (a3.w8 w) hl ⟨9, r, slt sc v, slt sc v2, 9, r, v, v2⟩ ⟨rfl, rfl, rfl, rfl⟩) (fun _ M6 g => p_ret (G8.mk g ?_))
          unfold RE.rReach
          rw [e1]
          show ((E.rv bo (E.k1 r) b').bind fun x => (E.rv bo (E.k2 r) x.2).bind _) = _
          rw [f1]
          show ((E.rv bo (E.k2 r) b1).bind _) = _
          rw [e3, i1]; rfl
    · exact absurd e3 g
end
