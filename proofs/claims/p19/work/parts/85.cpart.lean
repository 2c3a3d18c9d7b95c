section
/-! ===== the class reads a part ===== -/
section
variable {E : RE} {M : Mem}
theorem cv_in {v : Int} (h : 0 ≤ v ∧ v ≤ 3) : 0 ≤ cv v ∧ cv v ≤ 3 := by unfold cv; split <;> omega
theorem ScR.at {sc bo v : Int} (h : ScR sc bo) (hv : 0 ≤ v ∧ v ≤ 3) : (bnd bo v = -1 ∧ cbd sc v = 0) ∨ (¬ cbd sc v = 0 ∧ 0 ≤ bnd bo v ∧ bnd bo v ≤ 2 ∧ iand (wI (cbd sc v - 1)) 3 = bnd bo v) := by
  obtain ⟨m, rfl⟩ := Int.eq_ofNat_of_zero_le hv.1
  exact h.2.2.1 m (by omega)
theorem q_takeBound {b sc bo kind : Int} (h : C2 E b M) (hs : ScR sc bo) : pw (mX2_takeBound 65 sc kind M) (fun q => (Z2 q.2 ∧ E.rv bo kind b = none) ∨ ∃ v b', E.rv bo kind b = some (v, b') ∧ (0 ≤ v ∧ v ≤ 3) ∧ q.1 = cbd sc v ∧ ¬ cbd sc v = 0 ∧ AF M q.2 ∧ C2 E b' q.2) := by
  unfold mX2_takeBound
  refine p_gF (ji := 9) rfl (fun pl _ => p_gK (p_call (q_takeVariable h) (fun r M1 g => ?_)))
  rcases g with g | ⟨g1, g2, g3, g4, g5⟩
  · have e0 : E.rv bo kind b = none := by
      unfold RE.rv
      show (if varW (E.wd b) = -1 then _ else _) = _
      rw [if_pos g.2]
    have g : Z2 M1 := g.1
    have fin : ∀ x M2, Z2 M2 → pw (mX2_takeBound_64 x M2) (fun q => (Z2 q.2 ∧ E.rv bo kind b = none) ∨ ∃ v b', E.rv bo kind b = some (v, b') ∧ (0 ≤ v ∧ v ≤ 3) ∧ q.1 = cbd sc v ∧ ¬ cbd sc v = 0 ∧ AF M q.2 ∧ C2 E b' q.2) := fun x M2 z => by
      unfold mX2_takeBound_64; exact p_ret (Or.inl ⟨z, e0⟩)
    refine p_if (fun _ => p_ret (Or.inl ⟨g, e0⟩)) (fun _ => p_some (fun x _ => p_if (fun _ => ?_) (fun _ => p_if (fun _ => fin _ _ g) (fun _ => ?_))))
    · exact p_gK (p_call (q_note g.1 g.2.1 (by decide)) (fun _ M2 z => fin _ _ z))
    · refine p_same pu_kindOf (fun _ => p_if (fun _ => fin _ _ g) (fun _ => ?_))
      exact p_gK (p_call (q_note g.1 g.2.1 (by decide)) (fun _ M2 z => fin _ _ z))
  · have g2 : r = cv (varW (E.wd b)) := g2
    have g5 : C2 E (E.sk (E.we b)) M1 := g5
    have cvi := cv_in g3
    subst g2
    refine p_it0 (show ¬ cv (varW (E.wd b)) = -1 by omega) (p_some (fun x hx => ?_))
    have hx : x = cbd sc (varW (E.wd b)) := hx
    subst hx
    rcases hs.at g3 with ⟨k1, k2⟩ | ⟨k1, k2, k3, k4⟩
    · refine p_it1 k2 (p_gK (p_call (q_note g5.ac g5.2.1 (by decide)) (fun _ M2 z => ?_)))
      unfold mX2_takeBound_64
      refine p_ret (Or.inl ⟨z, ?_⟩)
      unfold RE.rv
      show (if varW (E.wd b) = -1 then _ else _) = _
      rw [if_neg g1, if_pos k1]
    · have ok : (kind = -1 ∨ bnd bo (varW (E.wd b)) = kind) → pw (mX2_takeBound_64 (cbd sc (varW (E.wd b))) M1) (fun q => (Z2 q.2 ∧ E.rv bo kind b = none) ∨ ∃ v b', E.rv bo kind b = some (v, b') ∧ (0 ≤ v ∧ v ≤ 3) ∧ q.1 = cbd sc v ∧ ¬ cbd sc v = 0 ∧ AF M q.2 ∧ C2 E b' q.2) := fun z => by
        unfold mX2_takeBound_64
        refine p_ret (Or.inr ⟨_, _, ?_, g3, rfl, k1, g4, g5⟩)
        unfold RE.rv
        show (if varW (E.wd b) = -1 then _ else _) = _
        rw [if_neg g1, if_neg (by omega), if_neg (by omega)]
      refine p_it0 k1 (p_if (fun c => ok (Or.inl c)) (fun c => ?_))
      unfold mX2_kindOf
      refine p_bindg (fun Q1 hQ1 => p_it0 k1 (p_ret (hQ1 _ ?_)))
      refine p_if (fun c2 => ok (Or.inr (k4.symm.trans c2))) (fun c2 => ?_)
      refine p_gK (p_call (q_note g5.ac g5.2.1 (by decide)) (fun _ M2 z => ?_))
      unfold mX2_takeBound_64
      refine p_ret (Or.inl ⟨z, ?_⟩)
      unfold RE.rv
      show (if varW (E.wd b) = -1 then _ else _) = _
      have c2 : ¬ iand (wI (cbd sc (varW (E.wd b)) - 1)) 3 = kind := c2
      rw [if_neg g1, if_neg (by omega), if_pos ⟨c, fun y => c2 (k4.trans y)⟩]
theorem z_takeBound {sc kind : Int} (z : Z2 M) : pw (mX2_takeBound 65 sc kind M) (fun q => Z2 q.2) := p_mono (pu_takeBound z.1) (fun q t => z.t t)
/-- the rows that the class has written -/
def D8 (ps : List Row) (M : Mem) : Prop := mG M 66 5 = (ps.length : Int) ∧ ∀ (k : Nat) (r : Row), ps[k]? = some r → mG M 67 (k : Int) = r.c0 ∧ mG M 68 (k : Int) = r.c1 ∧ mG M 69 (k : Int) = r.c2 ∧ mG M 70 (k : Int) = r.c3
/-- the scopes that wait, the last one first -/
def W8 (ws : List (Int × Int)) (M : Mem) : Prop := mG M 65 7 = (ws.length : Int) ∧ ∀ (k : Nat) (x : Int × Int), ws[k]? = some x → mG M 72 ((ws.length : Int) - 1 - (k : Int)) = x.1
theorem D8.kp {ps : List Row} {M' : Mem} (d : D8 ps M) (h : ∀ c j : Int, (66 ≤ c ∧ c ≤ 70) → mG M' c j = mG M c j) : D8 ps M' :=
  ⟨(h 66 5 (by omega)).trans d.1, fun k r hr => by
    obtain ⟨a, b, c, e⟩ := d.2 k r hr
    exact ⟨(h _ _ (by omega)).trans a, (h _ _ (by omega)).trans b, (h _ _ (by omega)).trans c, (h _ _ (by omega)).trans e⟩⟩
theorem W8.kp {ws : List (Int × Int)} {M' : Mem} (d : W8 ws M) (h : ∀ c j : Int, (c = 65 ∧ j = 7) ∨ c = 72 → mG M' c j = mG M c j) : W8 ws M' :=
  ⟨(h 65 7 (by omega)).trans d.1, fun k x hx => (h _ _ (by omega)).trans (d.2 k x hx)⟩
theorem AF.d8 {ps : List Row} {M' : Mem} (a : AF M M') (d : D8 ps M) : D8 ps M' := d.kp (fun c j _ => a.1 c j (by omega))
theorem AF.w8 {ws : List (Int × Int)} {M' : Mem} (a : AF M M') (d : W8 ws M) : W8 ws M' := d.kp (fun c j _ => a.1 c j (by omega))
/-- only the draft's rows are others -/
theorem q_write {b c0 c1 c2 c3 : Int} {ps : List Row} {ws : List (Int × Int)} (h : C2 E b M) (d : D8 ps M) (w : W8 ws M) (hl : ps.length < 40) (r : Row) (hr : c0 = r.c0 ∧ c1 = r.c1 ∧ c2 = r.c2 ∧ c3 = r.c3) : pw (mX5_write 66 c0 c1 c2 c3 M) (fun q => C2 E b q.2 ∧ D8 (ps ++ [r]) q.2 ∧ W8 ws q.2) := by
  obtain ⟨rfl, rfl, rfl, rfl⟩ := hr
  obtain ⟨_, _, _, _, _, a0, a1, a2, a3⟩ := h.ac
  have hk := h.1.2.2.2.2.2.2.2.2.1
  unfold mX5_write
  refine p_gFc (ji := 5) rfl d.1 (p_gFc (ji := 0) rfl a0 (p_aL (fun v hv => ?_)))
  rw [hk] at hv
  refine p_it0 (by omega) ?_
  refine p_gFc (ji := 0) rfl a0 (p_gFc (ji := 5) rfl d.1 (p_aS (fun M1 h1 => ?_)))
  refine p_gFc (ji := 1) rfl ((st_ne h1 (by omega)).trans a1) (p_gFc (ji := 5) rfl ((st_ne h1 (by omega)).trans d.1) (p_aS (fun M2 h2 => ?_)))
  refine p_gFc (ji := 2) rfl ((st_ne h2 (by omega)).trans ((st_ne h1 (by omega)).trans a2)) (p_gFc (ji := 5) rfl ((st_ne h2 (by omega)).trans ((st_ne h1 (by omega)).trans d.1)) (p_aS (fun M3 h3 => ?_)))
  refine p_gFc (ji := 3) rfl ((st_ne h3 (by omega)).trans ((st_ne h2 (by omega)).trans ((st_ne h1 (by omega)).trans a3))) (p_gFc (ji := 5) rfl ((st_ne h3 (by omega)).trans ((st_ne h2 (by omega)).trans ((st_ne h1 (by omega)).trans d.1))) (p_aS (fun M4 h4 => ?_)))
  unfold mX5_write_53
  refine p_gFc (ji := 5) rfl ((st_ne h4 (by omega)).trans ((st_ne h3 (by omega)).trans ((st_ne h2 (by omega)).trans ((st_ne h1 (by omega)).trans d.1)))) (p_pF (ji := 5) rfl (fun M5 h5 => p_ret ?_))
  rw [wI_id (x := (ps.length : Int) + 1) (by omega) (by omega)] at h5
  have kp : ∀ c j : Int, ¬ (c = 66 ∧ j = 5) → ¬ (67 ≤ c ∧ c ≤ 70 ∧ j = (ps.length : Int)) → mG M5 c j = mG M c j := fun c j z1 z2 =>
    (st_ne h5 (fun z => z1 z)).trans ((st_ne h4 (fun z => z2 (by omega))).trans ((st_ne h3 (fun z => z2 (by omega))).trans ((st_ne h2 (fun z => z2 (by omega))).trans (st_ne h1 (fun z => z2 (by omega))))))
  have kk : ∀ c : Int, mK M5 c = mK M c := fun c => (st_k h5 c).trans ((st_k h4 c).trans ((st_k h3 c).trans ((st_k h2 c).trans (st_k h1 c))))
  refine ⟨⟨h.1.kp (fun c j z => kp c j (by omega) (by omega)) kk, fun z => ?_, (kp 3 6 (by omega) (by omega)).trans h.2.2.1, ?_⟩, ⟨?_, fun k r' hr' => ?_⟩, w.kp (fun c j z => kp c j (by omega) (by omega))⟩
  · rw [kp 3 6 (by omega) (by omega)]; exact h.2.1 (by rw [← kp 65 4 (by omega) (by omega)]; exact z)
  · obtain ⟨t1, t2, t3⟩ := h.2.2.2
    have f : ∀ j, mG M5 65 j = mG M 65 j := fun j => kp 65 j (by omega) (by omega)
    unfold CTok
    show mG M5 65 9 = b ∧ (0 ≤ b ∧ b ≤ E.n) ∧ _
    rw [f 8, f 9, f 10, f 11]
    exact ⟨t1, t2, t3⟩
  · rw [List.length_append]; exact (st_eq h5).trans (by simp)
  · by_cases e : k < ps.length
    · rw [List.getElem?_append_left e] at hr'
      obtain ⟨x0, x1, x2, x3⟩ := d.2 k r' hr'
      exact ⟨(kp _ _ (by omega) (by omega)).trans x0, (kp _ _ (by omega) (by omega)).trans x1, (kp _ _ (by omega) (by omega)).trans x2, (kp _ _ (by omega) (by omega)).trans x3⟩
    · rw [List.getElem?_append_right (by omega)] at hr'
      have e0 : k - ps.length = 0 := by
        by_cases y : k - ps.length = 0
        · exact y
        · rw [List.getElem?_eq_none (by simp; omega)] at hr'; cases hr'
      rw [e0] at hr'
      have hr' : r = r' := Option.some.inj hr'
      subst hr'
      have ek : k = ps.length := by omega
      subst ek
      exact ⟨(st_ne h5 (by omega)).trans ((st_ne h4 (by omega)).trans ((st_ne h3 (by omega)).trans ((st_ne h2 (by omega)).trans (st_eq h1)))), (st_ne h5 (by omega)).trans ((st_ne h4 (by omega)).trans ((st_ne h3 (by omega)).trans (st_eq h2))), (st_ne h5 (by omega)).trans ((st_ne h4 (by omega)).trans (st_eq h3)), (st_ne h5 (by omega)).trans (st_eq h4)⟩
theorem q_expect {b sc bo : Int} {ps : List Row} {ws : List (Int × Int)} (h : C2 E b M) (d : D8 ps M) (w : W8 ws M) (hl : ws.length < 402) : pw (mX2_expectPart 65 sc M) (fun q => C2 E b q.2 ∧ D8 ps q.2 ∧ W8 ((sc, bo) :: ws) q.2) := by
  obtain ⟨_, _, _, _, a4, _⟩ := h.ac
  have hk := h.1.2.2.2.2.2.2.2.2.2
  unfold mX2_expectPart
  refine p_gFc (ji := 7) rfl w.1 (p_gFc (ji := 6) rfl a4 (p_aL (fun v hv => ?_)))
  rw [hk] at hv
  refine p_it0 (by omega) ?_
  refine p_gFc (ji := 6) rfl a4 (p_gFc (ji := 7) rfl w.1 (p_aS (fun M1 h1 => ?_)))
  refine p_gFc (ji := 7) rfl ((st_ne h1 (by omega)).trans w.1) (p_pF (ji := 7) rfl (fun M2 h2 => p_ret ?_))
  rw [wI_id (x := (ws.length : Int) + 1) (by omega) (by omega)] at h2
  have kp : ∀ c j : Int, ¬ (c = 65 ∧ j = 7) → ¬ (c = 72 ∧ j = (ws.length : Int)) → mG M2 c j = mG M c j := fun c j z1 z2 => (st_ne h2 z1).trans (st_ne h1 z2)
  refine ⟨⟨h.1.kp (fun c j z => kp c j (by omega) (by omega)) (fun c => (st_k h2 c).trans (st_k h1 c)), fun z => ?_, (kp 3 6 (by omega) (by omega)).trans h.2.2.1, ?_⟩, d.kp (fun c j z => kp c j (by omega) (by omega)), ?_, fun k x hx => ?_⟩
  · rw [kp 3 6 (by omega) (by omega)]; exact h.2.1 (by rw [← kp 65 4 (by omega) (by omega)]; exact z)
  · obtain ⟨t1, t2, t3⟩ := h.2.2.2
    unfold CTok
    show mG M2 65 9 = b ∧ (0 ≤ b ∧ b ≤ E.n) ∧ _
    rw [kp 65 8 (by omega) (by omega), kp 65 9 (by omega) (by omega), kp 65 10 (by omega) (by omega), kp 65 11 (by omega) (by omega)]
    exact ⟨t1, t2, t3⟩
  · exact (st_eq h2).trans (by simp)
  · rw [List.length_cons]
    cases k with
    | zero =>
      have hx : (sc, bo) = x := Option.some.inj hx
      subst hx
      rw [show (((ws.length + 1 : Nat) : Int) - 1 - ((0 : Nat) : Int)) = (ws.length : Int) by omega]
      exact (st_ne h2 (by omega)).trans (st_eq h1)
    | succ k =>
      have hx : ws[k]? = some x := hx
      have lt : k < ws.length := by
        by_cases y : k < ws.length
        · exact y
        · rw [List.getElem?_eq_none (by omega)] at hx; cases hx
      rw [show (((ws.length + 1 : Nat) : Int) - 1 - ((k + 1 : Nat) : Int)) = (ws.length : Int) - 1 - (k : Int) by omega]
      exact (kp 72 _ (by omega) (by omega)).trans (w.2 k x hx)
end
end
section
/-! ===== the class reads each sort of part ===== -/
theorem Z2.kp {M M' : Mem} (z : Z2 M) (h : ∀ c j : Int, (c = 65 ∧ j ≤ 6) ∨ (c = 66 ∧ j ≤ 3) ∨ (c = 3 ∧ j = 6) → mG M' c j = mG M c j) : Z2 M' := by
  obtain ⟨⟨a0, a1, a2, a3, a4, a5, a6, a7, a8⟩, b, f⟩ := z
  refine ⟨⟨(h _ _ (by omega)).trans a0, (h _ _ (by omega)).trans a1, (h _ _ (by omega)).trans a2, (h _ _ (by omega)).trans a3, (h _ _ (by omega)).trans a4, (h _ _ (by omega)).trans a5, (h _ _ (by omega)).trans a6, (h _ _ (by omega)).trans a7, (h _ _ (by omega)).trans a8⟩, fun y => ?_, ?_⟩
  · rw [h 3 6 (by omega)]; exact f
  · rw [h 3 6 (by omega)]; exact f
theorem z_write {M : Mem} {c0 c1 c2 c3 : Int} (z : Z2 M) : pw (mX5_write 66 c0 c1 c2 c3 M) (fun q => Z2 q.2) := by
  obtain ⟨_, _, _, _, _, a0, a1, a2, a3⟩ := z.1
  have fin : ∀ M1, Z2 M1 → pw (mX5_write_53 66 M1) (fun q => Z2 q.2) := fun M1 z1 => by
    unfold mX5_write_53
    exact p_gF rfl (fun _ _ => p_pF (ji := 5) rfl (fun M2 h2 => p_ret (z1.kp (fun c j y => st_ne h2 (by omega)))))
  unfold mX5_write
  refine p_gF rfl (fun v _ => p_gFc (ji := 0) rfl a0 (p_aL (fun v2 _ => p_if (fun _ => fin M z) (fun _ => ?_))))
  refine p_gFc (ji := 0) rfl a0 (p_gF rfl (fun x1 _ => p_aS (fun M1 h1 => ?_)))
  refine p_gFc (ji := 1) rfl ((st_ne h1 (by omega)).trans a1) (p_gF rfl (fun x2 _ => p_aS (fun M2 h2 => ?_)))
  refine p_gFc (ji := 2) rfl ((st_ne h2 (by omega)).trans ((st_ne h1 (by omega)).trans a2)) (p_gF rfl (fun x3 _ => p_aS (fun M3 h3 => ?_)))
  refine p_gFc (ji := 3) rfl ((st_ne h3 (by omega)).trans ((st_ne h2 (by omega)).trans ((st_ne h1 (by omega)).trans a3))) (p_gF rfl (fun x4 _ => p_aS (fun M4 h4 => ?_)))
  exact fin M4 (z.kp (fun c j y => (st_ne h4 (by omega)).trans ((st_ne h3 (by omega)).trans ((st_ne h2 (by omega)).trans (st_ne h1 (by omega))))))
theorem z_expect {M : Mem} {x : Int} (z : Z2 M) : pw (mX2_expectPart 65 x M) (fun q => Z2 q.2) := p_mono (pu_expectPart z.1) (fun q t => z.t t)
theorem z_adv {M : Mem} (z : Z2 M) : pw (mX2_advance 65 M) (fun q => Z2 q.2) := p_mono pu_advance (fun q t => z.t t)
theorem z_num {M : Mem} (z : Z2 M) : pw (mX2_takeNumber 65 M) (fun q => Z2 q.2) := p_mono (pu_takeNumber z.1) (fun q t => z.t t)
theorem z_var {M : Mem} (z : Z2 M) : pw (mX2_takeVariable 65 M) (fun q => Z2 q.2) := p_mono (pu_takeVariable z.1) (fun q t => z.t t)
theorem z_kind {M : Mem} (z : Z2 M) : pw (mX2_takeKind 65 M) (fun q => Z2 q.2) := p_mono (pu_takeKind z.1) (fun q t => z.t t)
theorem z_road {M : Mem} (z : Z2 M) : pw (mX2_takeRoad 65 M) (fun q => Z2 q.2) := p_mono (pu_takeRoad z.1) (fun q t => z.t t)
theorem z_rel {M : Mem} (z : Z2 M) : pw (mX2_takeRelation 65 M) (fun q => Z2 q.2) := p_mono (pu_takeRelation z.1) (fun q t => z.t t.1)
/-- what a reader of a part leaves: a fault, or all as the specification says -/
def G8 (E : RE) (S : Option RS) (q : Int × Mem) : Prop := (Z2 q.2 ∧ S = none) ∨ ∃ S', S = some S' ∧ C2 E S'.b q.2 ∧ D8 S'.ps q.2 ∧ W8 S'.ws q.2
theorem G8.mk {E : RE} {S : Option RS} {b : Int} {ws : List (Int × Int)} {ps : List Row} {r : Int} {M : Mem} (h : C2 E b M ∧ D8 ps M ∧ W8 ws M) (e : S = some ((b, ws, ps) : RS)) : G8 E S (r, M) := Or.inr ⟨(b, ws, ps), e, h⟩
section
variable {E : RE} {M : Mem} {ps : List Row} {ws : List (Int × Int)} {b sc bo : Int}
theorem p_slot {β : Type} {Q : β → Prop} {x : Int} {f : Int × Mem → Option β} (hx : ¬ x = 0) (k : pw (f (ishr (wI (x - 1)) 2, M)) Q) : pw ((mX2_slotOf x M).bind f) Q := by
  unfold mX2_slotOf
  rw [if_neg hx]; exact k
theorem p_slot0 {β : Type} {Q : β → Prop} {f : Int × Mem → Option β} (k : pw (f (0, M)) Q) : pw ((mX2_slotOf 0 M).bind f) Q := by
  unfold mX2_slotOf
  rw [if_pos rfl]; exact k
theorem p_kindOf {β : Type} {Q : β → Prop} {x : Int} {f : Int × Mem → Option β} (hx : ¬ x = 0) (k : pw (f (iand (wI (x - 1)) 3, M)) Q) : pw ((mX2_kindOf x M).bind f) Q := by
  unfold mX2_kindOf
  rw [if_neg hx]; exact k
theorem AF.all {M' : Mem} (a : AF M M') (d : D8 ps M) (w : W8 ws M) : D8 ps M' ∧ W8 ws M' := ⟨a.d8 d, a.w8 w⟩
theorem q_readSame (h : C2 E b M) (d : D8 ps M) (w : W8 ws M) (hl : ps.length < 40) (hs : ScR sc bo) (hw : ¬ E.wd b = []) : pw (mX2_readSame 65 sc M) (G8 E (E.rSame sc bo ws ps b)) := by
  obtain ⟨w1, w2⟩ := h.2.2.2.we h.1 hw
  unfold mX2_readSame
  refine p_gK (p_call (q_adv h w1 w2) (fun _ M1 g => ?_))
  obtain ⟨a1, c1⟩ := g
  refine p_gK (p_call (q_takeBound c1 hs) (fun x M2 g => ?_))
  have rest : ∀ y1 y2 M3, Z2 M3 → E.rSame sc bo ws ps b = none → pw ((gF 2 5 M3 65).bind fun a22 => (mX2_slotOf y1 M3).bind fun q29 => (mX2_slotOf y2 q29.2).bind fun q33 => (gK 5 q33.2 a22).bind fun _ => (mX5_write a22 8 0 q29.1 q33.1 q33.2).bind fun q36 => some ((0 : Int), q36.2)) (G8 E (E.rSame sc bo ws ps b)) := fun y1 y2 M3 z ee => by
    refine p_gFc (ji := 5) rfl z.1.2.2.2.1 (p_same pu_slotOf (fun _ => p_same pu_slotOf (fun _ => p_gK (p_call (z_write z) (fun _ M4 z4 => p_ret (Or.inl ⟨z4, ee⟩))))))
  rcases g with g | ⟨v, b', e1, e2, e3, e4, e5, e6⟩
  · exact p_same pu_kindOf (fun k => p_gK (p_call (z_takeBound g.1) (fun y M3 z => rest _ _ M3 z (by unfold RE.rSame; rw [g.2]; rfl))))
  · have e3 : x = cbd sc v := e3
    subst e3
    refine p_kindOf e4 (p_gK (p_call (q_takeBound e6 hs) (fun y M3 g => ?_)))
    rcases g with g | ⟨v2, b2, f1, f2, f3, f4, f5, f6⟩
    · refine rest _ _ M3 g.1 ?_
      have f1 := g.2
      unfold RE.rSame
      rw [e1]
      rcases hs.at e2 with ⟨k1, k2⟩ | ⟨k1, k2, k3, k4⟩
      · exact absurd k2 e4
      · rw [k4] at f1
        show (E.rv bo (bnd bo v) b').bind _ = _
        rw [f1]; rfl
    · have f3 : y = cbd sc v2 := f3
      subst f3
      refine p_gFc (ji := 5) rfl f6.ac.2.2.2.1 (p_slot e4 (p_slot f4 (p_gK ?_)))
      have a3 := (a1.tr e5).tr f5
      refine p_call (q_write f6 (a3.d8 d) (a3.w8 w) hl ⟨8, 0, slt sc v, slt sc v2, 8, v, v2, 0⟩ ⟨rfl, rfl, rfl, rfl⟩) (fun _ M4 g => p_ret (G8.mk g ?_))
      unfold RE.rSame
      rw [e1]
      rcases hs.at e2 with ⟨k1, k2⟩ | ⟨k1, k2, k3, k4⟩
      · exact absurd k2 e4
      · rw [k4] at f1
        show (E.rv bo (bnd bo v) b').bind _ = _
        rw [f1]; rfl
theorem q_twice {r : Int} (ce : CE E M) (h : 0 ≤ r ∧ r < E.nr) : pw (mX3_isOfOneKindTwice 4 r M) (fun q => ((E.k2 r = E.k1 r ∧ q.1 = 1) ∨ (¬ E.k2 r = E.k1 r ∧ q.1 = 0)) ∧ q.2 = M) := by
  obtain ⟨_, _, _, _, e4, _, ⟨e6, e7⟩, e8, _⟩ := ce
  obtain ⟨k1, k2⟩ := e8 r h.1 h.2
  unfold mX3_isOfOneKindTwice
  refine p_it0 (by omega) (p_gFc (ji := 6) rfl e4 (p_it0 (by omega) ?_))
  refine p_gFc (ji := 1) rfl e6 (p_aGc k1 (p_gFc (ji := 2) rfl e7 (p_aGc k2 ?_)))
  exact p_if (fun c => p_ret ⟨Or.inl ⟨c.symm, rfl⟩, rfl⟩) (fun c => p_ret ⟨Or.inr ⟨fun y => c y.symm, rfl⟩, rfl⟩)
theorem q_takeRoad (h : C2 E b M) : pw (mX2_takeRoad 65 M) (fun q => (Z2 q.2 ∧ E.rRoad b = none) ∨ ∃ r b', E.rRoad b = some (r, b') ∧ (0 ≤ r ∧ r < E.nr) ∧ E.k2 r = E.k1 r ∧ q.1 = r ∧ AF M q.2 ∧ C2 E b' q.2) := by
  unfold mX2_takeRoad
  refine p_gF rfl (fun pl _ => p_gK (p_call (q_takeRelation h) (fun r M1 g => ?_)))
  rcases g with g | ⟨g1, g2, g3, g4, g5⟩
  · have e0 : E.rRoad b = none := by
      unfold RE.rRoad
      show (if relW E.nr (E.wd b) = -1 then _ else _) = _
      rw [if_pos g.2]
    have g : Z2 M1 := g.1
    refine p_gF rfl (fun s _ => p_gK (p_same pu_twice (fun _ => p_if (fun _ => p_gK (p_call (q_note g.1 g.2.1 (by decide)) (fun _ M2 z => ?_))) (fun _ => ?_))))
    · unfold mX2_takeRoad_27; exact p_ret (Or.inl ⟨z, e0⟩)
    · unfold mX2_takeRoad_27; exact p_ret (Or.inl ⟨g, e0⟩)
  · have g2 : r = relW E.nr (E.wd b) := g2
    have g3 : 0 ≤ r ∧ r < E.nr := g3
    have g5 : C2 E (E.sk (E.we b)) M1 := g5
    refine p_gFc (ji := 3) rfl g5.ac.2.2.1 (p_gK (p_call (q_twice g5.1 g3) (fun t M2 g => ?_)))
    obtain ⟨g, e⟩ := g
    have e : M2 = M1 := e
    subst e
    rcases g with ⟨g, ht⟩ | ⟨g, ht⟩
    · have ht : t = 1 := ht
      subst ht
      refine p_it0 (show ¬ (1 : Int) = 0 by decide) ?_
      unfold mX2_takeRoad_27
      refine p_ret (Or.inr ⟨r, _, ?_, g3, g, rfl, g4, g5⟩)
      unfold RE.rRoad
      show (if relW E.nr (E.wd b) = -1 then _ else _) = _
      rw [if_neg g1, ← g2, if_neg (fun y => y g)]
    · have ht : t = 0 := ht
      subst ht
      refine p_it1 (show (0 : Int) = 0 from rfl) (p_gK (p_call (q_note g5.ac g5.2.1 (by decide)) (fun _ M3 z => ?_)))
      unfold mX2_takeRoad_27
      refine p_ret (Or.inl ⟨z, ?_⟩)
      unfold RE.rRoad
      show (if relW E.nr (E.wd b) = -1 then _ else _) = _
      rw [if_neg g1, ← g2, if_pos g]
theorem q_readTree (h : C2 E b M) (d : D8 ps M) (w : W8 ws M) (hl : ps.length < 40) (hw : ¬ E.wd b = []) : pw (mX2_readTree 65 M) (G8 E (E.rTree ws ps b)) := by
  obtain ⟨w1, w2⟩ := h.2.2.2.we h.1 hw
  unfold mX2_readTree
  refine p_gK (p_call (q_adv h w1 w2) (fun _ M1 g => ?_))
  obtain ⟨a1, c1⟩ := g
  have c1 : C2 E (E.sk (E.we b)) M1 := c1
  refine p_gFc (ji := 5) rfl c1.ac.2.2.2.1 (p_gK (p_call (q_takeRoad c1) (fun r M2 g => ?_)))
  rcases g with g | ⟨r', b', e1, e2, e3, e4, e5, e6⟩
  · exact p_gK (p_call (z_write g.1) (fun _ M3 z => p_ret (Or.inl ⟨z, by unfold RE.rTree; rw [g.2]; rfl⟩)))
  · have e4 : r = r' := e4
    subst e4
    have a3 := a1.tr e5
    refine p_gK (p_call (q_write e6 (a3.d8 d) (a3.w8 w) hl ⟨10, r, 0, 0, 10, r, 0, 0⟩ ⟨rfl, rfl, rfl, rfl⟩) (fun _ M4 g => p_ret (G8.mk g ?_)))
    unfold RE.rTree
    rw [e1]; rfl
theorem q_readJoint {a : Int} (h : C2 E b M) (d : D8 ps M) (w : W8 ws M) (hl : ps.length < 40) (hwl : ws.length < 402) (hw : ¬ E.wd b = []) : pw (mX2_readJoint 65 a sc M) (fun q => C2 E (E.sk (E.we b)) q.2 ∧ D8 (ps ++ [⟨a, 0, 0, 0, a, 0, 0, 0⟩]) q.2 ∧ W8 ((sc, bo) :: ws) q.2) := by
  obtain ⟨w1, w2⟩ := h.2.2.2.we h.1 hw
  unfold mX2_readJoint
  refine p_gK (p_call (q_adv h w1 w2) (fun _ M1 g => ?_))
  obtain ⟨a1, c1⟩ := g
  have c1 : C2 E (E.sk (E.we b)) M1 := c1
  refine p_gFc (ji := 5) rfl c1.ac.2.2.2.1 (p_gK (p_call (q_write c1 (a1.d8 d) (a1.w8 w) hl ⟨a, 0, 0, 0, a, 0, 0, 0⟩ ⟨rfl, rfl, rfl, rfl⟩) (fun _ M2 g => ?_)))
  obtain ⟨g1, g2, g3⟩ := g
  exact p_gK (p_call (q_expect (bo := bo) g1 g2 g3 hwl) (fun _ M3 g => p_ret g))
theorem q_readReach (h : C2 E b M) (d : D8 ps M) (w : W8 ws M) (hl : ps.length < 40) (hs : ScR sc bo) (hw : ¬ E.wd b = []) : pw (mX2_readReach 65 sc M) (G8 E (E.rReach sc bo ws ps b)) := by
  obtain ⟨w1, w2⟩ := h.2.2.2.we h.1 hw
  have zrest : ∀ r s M3, Z2 M3 → E.rReach sc bo ws ps b = none → pw (mX2_readReach_33 65 sc r s M3) (G8 E (E.rReach sc bo ws ps b)) := fun r s M3 z ee => by
    unfold mX2_readReach_33
    refine p_gK (p_call (z_takeBound z) (fun y M4 z => p_gK (p_call (z_takeBound z) (fun y2 M5 z => ?_))))
    have z : Z2 M5 := z
    exact p_gFc (ji := 5) rfl z.1.2.2.2.1 (p_same pu_slotOf (fun _ => p_same pu_slotOf (fun _ => p_gK (p_call (z_write z) (fun _ M6 z6 => p_ret (Or.inl ⟨z6, ee⟩))))))
  unfold mX2_readReach
  refine p_gK (p_call (q_adv h w1 w2) (fun _ M1 g => ?_))
  obtain ⟨a1, c1⟩ := g
  refine p_gK (p_call (q_takeRoad c1) (fun r M2 g => ?_))
  rcases g with g | ⟨r', b', e1, e2, e3, e4, e5, e6⟩
  · have ee : E.rReach sc bo ws ps b = none := by unfold RE.rReach; rw [g.2]; rfl
    have g : Z2 M2 := g.1
    refine p_gF rfl (fun s _ => p_gK (p_same pu_twice (fun _ => p_if (fun _ => zrest _ _ _ g ee) (fun _ => ?_))))
    exact p_gF rfl (fun s2 _ => p_gF rfl (fun s3 _ => p_aG (fun s4 _ => zrest _ _ _ g ee)))
  · have e4 : r = r' := e4
    subst e4
    have e6 : C2 E b' M2 := e6
    refine p_gFc (ji := 3) rfl e6.ac.2.2.1 (p_gK (p_call (q_twice e6.1 e2) (fun t M3 g => ?_)))
    obtain ⟨g, e⟩ := g
    have e : M3 = M2 := e
    subst e
    rcases g with ⟨_, ht⟩ | ⟨g, _⟩
    · have ht : t = 1 := ht
      subst ht
      obtain ⟨k1, k2⟩ := e6.1.2.2.2.2.2.2.2.1 r e2.1 e2.2
      refine p_it0 (show ¬ (1 : Int) = 0 by decide) (p_gFc (ji := 3) rfl e6.ac.2.2.1 (p_gFc (ji := 1) rfl e6.1.2.2.2.2.2.2.1.1 (p_aGc k1 ?_)))
      unfold mX2_readReach_33
      refine p_gK (p_call (q_takeBound e6 hs) (fun x M4 g => ?_))
      rcases g with g | ⟨v, b1, f1, f2, f3, f4, f5, f6⟩
      · have ee : E.rReach sc bo ws ps b = none := by
          unfold RE.rReach
          rw [e1]
          show ((E.rv bo (E.k1 r) b').bind _) = _
          rw [g.2]; rfl
        refine p_gK (p_call (z_takeBound g.1) (fun y2 M5 z => ?_))
        have z : Z2 M5 := z
        exact p_gFc (ji := 5) rfl z.1.2.2.2.1 (p_same pu_slotOf (fun _ => p_same pu_slotOf (fun _ => p_gK (p_call (z_write z) (fun _ M6 z6 => p_ret (Or.inl ⟨z6, ee⟩))))))
      · have f3 : x = cbd sc v := f3
        subst f3
        refine p_gK (p_call (q_takeBound f6 hs) (fun y M5 g => ?_))
        rcases g with g | ⟨v2, b2, i1, i2, i3, i4, i5, i6⟩
        · have ee : E.rReach sc bo ws ps b = none := by
            unfold RE.rReach
            rw [e1]
            show ((E.rv bo (E.k1 r) b').bind fun x => (E.rv bo (E.k2 r) x.2).bind _) = _
            rw [f1]
            show ((E.rv bo (E.k2 r) b1).bind _) = _
            rw [e3, g.2]; rfl
          have g : Z2 M5 := g.1
          exact p_gFc (ji := 5) rfl g.1.2.2.2.1 (p_same pu_slotOf (fun _ => p_same pu_slotOf (fun _ => p_gK (p_call (z_write g) (fun _ M6 z6 => p_ret (Or.inl ⟨z6, ee⟩))))))
        · have i3 : y = cbd sc v2 := i3
          subst i3
          have i6 : C2 E b2 M5 := i6
          have a3 := ((a1.tr e5).tr f5).tr i5
          refine p_gFc (ji := 5) rfl i6.ac.2.2.2.1 (p_slot f4 (p_slot i4 (p_gK ?_)))
          refine p_call (q_write i6 (a3.d8 d) (a3.w8 w) hl ⟨9, r, slt sc v, slt sc v2, 9, r, v, v2⟩ ⟨rfl, rfl, rfl, rfl⟩) (fun _ M6 g => p_ret (G8.mk g ?_))
          unfold RE.rReach
          rw [e1]
          show ((E.rv bo (E.k1 r) b').bind fun x => (E.rv bo (E.k2 r) x.2).bind _) = _
          rw [f1]
          show ((E.rv bo (E.k2 r) b1).bind _) = _
          rw [e3, i1]; rfl
    · exact absurd e3 g
end
end
section
/-! ===== the class reads facts, binders, a part ===== -/
def RE.rBind2 (E : RE) (a cnt sc bo : Int) (ws : List (Int × Int)) (ps : List Row) (b : Int) : Option RS :=
  let v := varW (E.wd b)
  if v = -1 then none else
  let b3 := E.sk (E.we b)
  let k := kindW (E.wd b3)
  if k = -1 then none else
  some ⟨E.sk (E.we b3), (bindC sc (cv v) k (ishr sc 16), bindR bo v k) :: ws, ps ++ [⟨a, cnt, ishr sc 16, k, a, v, k, cnt⟩]⟩
section
variable {E : RE} {M : Mem} {ps : List Row} {ws : List (Int × Int)} {b sc bo : Int}
theorem q_isOfTwo {r : Int} (ce : CE E M) (h : 0 ≤ r ∧ r < E.nr) : pw (mX3_isOfTwo 4 r M) (fun q => ((E.k2 r = -1 ∧ q.1 = 0) ∨ (¬ E.k2 r = -1 ∧ q.1 = 1)) ∧ q.2 = M) := by
  obtain ⟨_, _, _, _, e4, _, ⟨e6, e7⟩, e8, _⟩ := ce
  obtain ⟨k1, k2⟩ := e8 r h.1 h.2
  unfold mX3_isOfTwo
  refine p_it0 (by omega) (p_gFc (ji := 6) rfl e4 (p_it0 (by omega) ?_))
  refine p_gFc (ji := 2) rfl e7 (p_aGc k2 ?_)
  exact p_if (fun c => p_ret ⟨Or.inl ⟨c, rfl⟩, rfl⟩) (fun c => p_ret ⟨Or.inr ⟨c, rfl⟩, rfl⟩)
theorem q_readFact (h : C2 E b M) (d : D8 ps M) (w : W8 ws M) (hl : ps.length < 40) (hs : ScR sc bo) : pw (mX2_readFact 65 sc M) (G8 E (E.rFact sc bo ws ps b)) := by
  have z61 : ∀ r x y M3, Z2 M3 → E.rFact sc bo ws ps b = none → pw (mX2_readFact_61 65 r x y M3) (G8 E (E.rFact sc bo ws ps b)) := fun r x y M3 z ee => by
    unfold mX2_readFact_61
    exact p_gFc (ji := 5) rfl z.1.2.2.2.1 (p_same pu_slotOf (fun _ => p_same pu_slotOf (fun _ => p_gK (p_call (z_write z) (fun _ M6 z6 => p_ret (Or.inl ⟨z6, ee⟩))))))
  have ztwo : ∀ r x M3, Z2 M3 → E.rFact sc bo ws ps b = none → pw ((gF 2 3 M3 65).bind fun a33 => (gK 3 M3 a33).bind fun _ => (mX3_isOfTwo a33 r M3).bind fun q37 => if q37.1 = 0 then mX2_readFact_61 65 r x 0 q37.2 else (gF 2 3 q37.2 65).bind fun a46 => (gF 3 2 q37.2 a46).bind fun a49 => (aG 10 q37.2 a49 r).bind fun a53 => (gK 2 q37.2 65).bind fun _ => (mX2_takeBound 65 sc a53 q37.2).bind fun q54 => mX2_readFact_61 65 r x q54.1 q54.2) (G8 E (E.rFact sc bo ws ps b)) := fun r x M3 z ee => by
    refine p_gF rfl (fun s _ => p_gK (p_same pu_isOfTwo (fun _ => p_if (fun _ => z61 _ _ _ _ z ee) (fun _ => ?_))))
    exact p_gF rfl (fun _ _ => p_gF rfl (fun _ _ => p_aG (fun _ _ => p_gK (p_call (z_takeBound z) (fun _ M4 z4 => z61 _ _ _ _ z4 ee)))))
  unfold mX2_readFact
  refine p_gK (p_call (q_takeRelation h) (fun r M1 g => ?_))
  rcases g with g | ⟨g1, g2, g3, g4, g5⟩
  · have ee : E.rFact sc bo ws ps b = none := by
      unfold RE.rFact
      show (if relW E.nr (E.wd b) = -1 then _ else _) = _
      rw [if_pos g.2]
    have g : Z2 M1 := g.1
    refine p_gF rfl (fun s _ => p_gK (p_call pu_hasRelation (fun t M2 e => ?_)))
    have e : M2 = M1 := e.1
    subst e
    refine p_if (fun _ => p_ret (Or.inl ⟨g, ee⟩)) (fun _ => ?_)
    exact p_gF rfl (fun _ _ => p_gF rfl (fun _ _ => p_aG (fun _ _ => p_gK (p_call (z_takeBound g) (fun _ M3 z => ztwo _ _ _ z ee)))))
  · have g2 : r = relW E.nr (E.wd b) := g2
    have g3 : 0 ≤ r ∧ r < E.nr := g3
    have g5 : C2 E (E.sk (E.we b)) M1 := g5
    refine p_gFc (ji := 3) rfl g5.ac.2.2.1 (p_gK (p_call pu_hasRelation (fun t M2 e => ?_)))
    obtain ⟨e, e2⟩ := e
    have e : M2 = M1 := e
    subst e
    rw [g5.1.2.2.2.2.1] at e2
    rcases e2 with ⟨_, e2⟩ | ⟨ht, _⟩
    · exact absurd g3 e2
    have ht : t = 1 := ht
    subst ht
    obtain ⟨k1, k2⟩ := g5.1.2.2.2.2.2.2.2.1 r g3.1 g3.2
    obtain ⟨n1, n2⟩ := g5.1.2.2.2.2.2.2.1
    refine p_it0 (show ¬ (1 : Int) = 0 by decide) (p_gFc (ji := 3) rfl g5.ac.2.2.1 (p_gFc (ji := 1) rfl n1 (p_aGc k1 (p_gK (p_call (q_takeBound g5 hs) (fun x M3 g => ?_))))))
    rcases g with g | ⟨v, b1, f1, f2, f3, f4, f5, f6⟩
    · refine ztwo _ _ _ g.1 ?_
      have f1 := g.2
      unfold RE.rFact
      show (if relW E.nr (E.wd b) = -1 then _ else _) = _
      rw [if_neg g1, ← g2, f1]; rfl
    · have f3 : x = cbd sc v := f3
      subst f3
      have f6 : C2 E b1 M3 := f6
      have a3 := g4.tr f5
      refine p_gFc (ji := 3) rfl f6.ac.2.2.1 (p_gK (p_call (q_isOfTwo f6.1 g3) (fun t M4 g => ?_)))
      obtain ⟨g, e⟩ := g
      have e : M4 = M3 := e
      subst e
      rcases g with ⟨y, ht⟩ | ⟨y, ht⟩
      · have ht : t = 0 := ht
        subst ht
        refine p_it1 (show (0 : Int) = 0 from rfl) ?_
        unfold mX2_readFact_61
        refine p_gFc (ji := 5) rfl f6.ac.2.2.2.1 (p_slot f4 (p_slot0 (p_gK ?_)))
        refine p_call (q_write f6 (a3.d8 d) (a3.w8 w) hl ⟨11, r, slt sc v, 0, 11, r, v, 0⟩ ⟨rfl, rfl, rfl, rfl⟩) (fun _ M6 g => p_ret (G8.mk g ?_))
        unfold RE.rFact
        show (if relW E.nr (E.wd b) = -1 then _ else _) = _
        rw [if_neg g1, ← g2, f1]
        show (if E.k2 r = -1 then _ else _) = _
        rw [if_pos y]
      · have ht : t = 1 := ht
        subst ht
        obtain ⟨k1, k2⟩ := f6.1.2.2.2.2.2.2.2.1 r g3.1 g3.2
        obtain ⟨n1, n2⟩ := f6.1.2.2.2.2.2.2.1
        refine p_it0 (show ¬ (1 : Int) = 0 by decide) (p_gFc (ji := 3) rfl f6.ac.2.2.1 (p_gFc (ji := 2) rfl n2 (p_aGc k2 (p_gK (p_call (q_takeBound f6 hs) (fun x M5 g => ?_))))))
        rcases g with g | ⟨v2, b2, i1, i2, i3, i4, i5, i6⟩
        · refine z61 _ _ _ _ g.1 ?_
          have i1 := g.2
          unfold RE.rFact
          show (if relW E.nr (E.wd b) = -1 then _ else _) = _
          rw [if_neg g1, ← g2, f1]
          show (if E.k2 r = -1 then _ else _) = _
          rw [if_neg y]
          show ((E.rv bo (E.k2 r) b1).bind _) = _
          rw [i1]; rfl
        · have i3 : x = cbd sc v2 := i3
          subst i3
          have i6 : C2 E b2 M5 := i6
          have a5 := a3.tr i5
          unfold mX2_readFact_61
          refine p_gFc (ji := 5) rfl i6.ac.2.2.2.1 (p_slot f4 (p_slot i4 (p_gK ?_)))
          refine p_call (q_write i6 (a5.d8 d) (a5.w8 w) hl ⟨11, r, slt sc v, slt sc v2, 12, r, v, v2⟩ ⟨rfl, rfl, rfl, rfl⟩) (fun _ M6 g => p_ret (G8.mk g ?_))
          unfold RE.rFact
          show (if relW E.nr (E.wd b) = -1 then _ else _) = _
          rw [if_neg g1, ← g2, f1]
          show (if E.k2 r = -1 then _ else _) = _
          rw [if_neg y]
          show ((E.rv bo (E.k2 r) b1).bind _) = _
          rw [i1]; rfl
theorem z_rb39 {a cnt : Int} {S : Option RS} (ee : S = none) (z : Z2 M) : pw (mX2_readBinder_39 65 a sc cnt M) (G8 E S) := by
  unfold mX2_readBinder_39
  refine p_gK (p_call (z_var z) (fun v M1 z1 => p_gK (p_call (z_kind z1) (fun k M2 z2 => ?_))))
  have z2 : Z2 M2 := z2
  refine p_gF rfl (fun br _ => p_if (fun _ => ?_) (fun _ => p_ret (Or.inl ⟨z2, ee⟩)))
  refine p_same pu_depth (fun _ => p_some (fun s _ => p_gFc (ji := 5) rfl z2.1.2.2.2.1 (p_gK (p_call (z_write z2) (fun _ M3 z3 => ?_)))))
  exact p_same pu_bind (fun _ => p_gK (p_call (z_expect z3) (fun _ M4 z4 => p_ret (Or.inl ⟨z4, ee⟩))))
theorem q_rb39 {a cnt : Int} (h : C2 E b M) (d : D8 ps M) (w : W8 ws M) (hl : ps.length < 40) (hwl : ws.length < 402) (hs : ScR sc bo) (hd : ishr sc 16 < 4) : pw (mX2_readBinder_39 65 a sc cnt M) (G8 E (E.rBind2 a cnt sc bo ws ps b)) := by
  have fz : ∀ k v M2, Z2 M2 → E.rBind2 a cnt sc bo ws ps b = none → pw ((gF 2 4 M2 65).bind fun a53 => if a53 = 0 then (mX2_depth sc M2).bind fun q61 => (some (if 3 < q61.1 then 3 else q61.1)).bind fun b68 => (gF 2 5 q61.2 65).bind fun a71 => (gK 5 q61.2 a71).bind fun _ => (mX5_write a71 a cnt b68 k q61.2).bind fun q80 => (mX2_bind sc v k b68 q80.2).bind fun q91 => (gK 2 q91.2 65).bind fun _ => (mX2_expectPart 65 q91.1 q91.2).bind fun q94 => some ((0 : Int), q94.2) else some (0, M2)) (G8 E (E.rBind2 a cnt sc bo ws ps b)) := fun k v M2 z2 ee => by
    refine p_gF rfl (fun br _ => p_if (fun _ => ?_) (fun _ => p_ret (Or.inl ⟨z2, ee⟩)))
    refine p_same pu_depth (fun _ => p_some (fun s _ => p_gFc (ji := 5) rfl z2.1.2.2.2.1 (p_gK (p_call (z_write z2) (fun _ M3 z3 => ?_)))))
    exact p_same pu_bind (fun _ => p_gK (p_call (z_expect z3) (fun _ M4 z4 => p_ret (Or.inl ⟨z4, ee⟩))))
  unfold mX2_readBinder_39
  refine p_gK (p_call (q_takeVariable h) (fun v M1 g => ?_))
  rcases g with g | ⟨g1, g2, g3, g4, g5⟩
  · refine p_gK (p_call (z_kind g.1) (fun k M2 z2 => fz _ _ _ z2 ?_))
    unfold RE.rBind2
    show (if varW (E.wd b) = -1 then _ else _) = _
    rw [if_pos g.2]
  · have g2 : v = cv (varW (E.wd b)) := g2
    subst g2
    refine p_gK (p_call (q_takeKind g5) (fun k M2 g => ?_))
    rcases g with g | ⟨f1, f2, f3, f4, f5⟩
    · refine fz _ _ _ g.1 ?_
      unfold RE.rBind2
      show (if varW (E.wd b) = -1 then _ else if kindW (E.wd (E.sk (E.we b))) = -1 then _ else _) = _
      rw [if_neg g1, if_pos g.2]
    · have f2 : k = kindW (E.wd (E.sk (E.we b))) := f2
      have f3 : 0 ≤ k ∧ k ≤ 2 := f3
      have f5 : C2 E (E.sk (E.we (E.sk (E.we b)))) M2 := f5
      refine p_gFc (ji := 4) rfl f5.br (p_it1 rfl ?_)
      unfold mX2_depth
      have hs0 := hs.2.2.2.2.1
      refine p_bindg (fun Q1 hQ1 => p_ret (hQ1 _ (p_some (fun s hsd => ?_))))
      have hsd : s = ishr sc 16 := hsd.trans (if_neg (by omega))
      subst hsd
      have a2 := g4.tr f4
      refine p_gFc (ji := 5) rfl f5.ac.2.2.2.1 (p_gK (p_call (q_write f5 (a2.d8 d) (a2.w8 w) hl ⟨a, cnt, ishr sc 16, k, a, varW (E.wd b), k, cnt⟩ ⟨rfl, rfl, rfl, rfl⟩) (fun _ M3 g => ?_)))
      obtain ⟨c3, d3, w3⟩ := g
      unfold mX2_bind mX2_depth
      refine p_bindg (fun Q2 hQ2 => p_bindg (fun Q3 hQ3 => p_ret (hQ3 _ (p_some (fun x hx => p_some (fun y hy => p_ret (hQ2 _ ?_)))))))
      have hx : x = wI (ishr sc 16 + 1) := hx.trans (if_neg (by
        show ¬ 4 < wI (ishr sc 16 + 1)
        rw [wI_id (x := ishr sc 16 + 1) (by omega) (by omega)]; omega))
      subst hx; subst hy
      refine p_gK (p_call (q_expect (bo := bindR bo (varW (E.wd b)) k) c3 d3 w3 hwl) (fun _ M4 g => p_ret (G8.mk g ?_)))
      rw [f2]
      unfold RE.rBind2
      show (if varW (E.wd b) = -1 then _ else if kindW (E.wd (E.sk (E.we b))) = -1 then _ else _) = _
      rw [if_neg g1, if_neg f1]; try rfl
end
end
section
/-! ===== the class reads a binder, a part ===== -/
section
variable {E : RE} {M : Mem} {ps : List Row} {ws : List (Int × Int)} {b sc bo : Int}
theorem G8.of {S S' : Option RS} {q : Int × Mem} (h : G8 E S q) (e : S = S') : G8 E S' q := e ▸ h
theorem z_rb17 {a : Int} {S : Option RS} (ee : S = none) (z : Z2 M) : pw (mX2_readBinder_17 65 a sc M) (G8 E S) := by
  have z31 : ∀ M1, Z2 M1 → pw (mX2_readBinder_31 65 a sc M1) (G8 E S) := fun M1 z1 => by
    unfold mX2_readBinder_31
    exact p_gK (p_call (z_num z1) (fun _ M2 z2 => z_rb39 ee z2))
  unfold mX2_readBinder_17
  exact p_gK (p_call (z_adv z) (fun _ M1 z1 => p_if (fun _ => z31 _ z1) (fun _ => p_if (fun _ => z31 _ z1) (fun _ => z_rb39 ee z1))))
theorem q_readBinder {a : Int} (h : C2 E b M) (d : D8 ps M) (w : W8 ws M) (hl : ps.length < 40) (hwl : ws.length < 402) (hs : ScR sc bo) (hw : ¬ E.wd b = []) (ha : 0 ≤ a ∧ a ≤ 3) : pw (mX2_readBinder 65 a sc M) (G8 E (E.rBind a sc bo ws ps b)) := by
  obtain ⟨w1, w2⟩ := h.2.2.2.we h.1 hw
  unfold mX2_readBinder mX2_depth
  refine p_bindg (fun Q1 hQ1 => p_ret (hQ1 _ ?_))
  refine p_if (fun c => ?_) (fun c => ?_)
  · have c : ishr sc 16 < 4 := c
    have un : E.rBind a sc bo ws ps b = (E.rn a (E.sk (E.we b))).bind fun c => E.rBind2 a c.1 sc bo ws ps c.2 := by
      unfold RE.rBind; rw [if_neg (by omega)]; rfl
    unfold mX2_readBinder_17
    refine p_gK (p_call (q_adv h w1 w2) (fun _ M1 g => ?_))
    obtain ⟨a1, c1⟩ := g
    have c1 : C2 E (E.sk (E.we b)) M1 := c1
    have num : 2 ≤ a → pw (mX2_readBinder_31 65 a sc M1) (G8 E (E.rBind a sc bo ws ps b)) := fun a2 => by
      unfold mX2_readBinder_31
      refine p_gK (p_call (q_takeNumber c1) (fun x M2 g => ?_))
      rcases g with g | ⟨g1, g2, ⟨g3, g4, g5⟩ | ⟨g3, g4, g5⟩⟩
      · refine z_rb39 ?_ g.1
        rw [un]
        unfold RE.rn
        rw [if_neg (by omega), if_neg (fun y => g.2 y.1)]; rfl
      · have g4 : x = E.val (E.sk (E.we b)) (E.de (E.sk (E.we b)) - E.sk (E.we b)).toNat := g4
        subst g4
        refine p_mono (q_rb39 g5 ((a1.tr g2).d8 d) ((a1.tr g2).w8 w) hl hwl hs c) (fun q z => z.of ?_)
        rw [un]
        unfold RE.rn
        rw [if_neg (by omega), if_pos ⟨g1, g3⟩]; rfl
      · refine p_mono (q_rb39 g4 ((a1.tr g2).d8 d) ((a1.tr g2).w8 w) hl hwl hs c) (fun q z => ?_)
        rcases z with z | ⟨S', z, _⟩
        · refine Or.inl ⟨z.1, ?_⟩
          rw [un]
          unfold RE.rn
          rw [if_neg (by omega), if_neg (fun y => g3 y.2)]; rfl
        · exfalso
          unfold RE.rBind2 at z
          rw [g5] at z
          have z : (none : Option RS) = some S' := z
          cases z
    refine p_if (fun y => num (by omega)) (fun y => p_if (fun y2 => num (by omega)) (fun y2 => ?_))
    refine p_mono (q_rb39 c1 (a1.d8 d) (a1.w8 w) hl hwl hs c) (fun q z => z.of ?_)
    rw [un]
    unfold RE.rn
    rw [if_pos (by omega)]; rfl
  · refine p_gF rfl (fun _ _ => p_gK (p_call (q_note h.ac h.2.1 (by decide)) (fun _ M1 z => z_rb17 (by unfold RE.rBind; exact if_pos (by have c : ¬ ishr sc 16 < 4 := c; omega)) z)))
theorem fst8_m {w : List Int} {nr : Int} (h : ¬ fst8 nr w = -1) : (fst8 nr w = 11 ∧ actW w = -1) ∨ (¬ actW w = -1 ∧ fst8 nr w = actW w ∧ ¬ w = []) := by
  unfold fst8 at h ⊢
  by_cases e : actW w = -1
  · rw [if_pos e] at h ⊢
    by_cases e2 : relW nr w = -1
    · rw [if_pos e2] at h; exact absurd rfl h
    · rw [if_neg e2]; exact Or.inl ⟨rfl, e⟩
  · rw [if_neg e]
    exact Or.inr ⟨e, rfl, fun z => e (by rw [z]; decide)⟩
theorem actW_in (w : List Int) : -1 ≤ actW w ∧ actW w ≤ 10 := by
  unfold actW
  repeat' split
  all_goals decide
theorem rPart_full {x : Int × Int} (h : ¬ ps.length < 40) : E.rPart ⟨b, x :: ws, ps⟩ = none := by
  unfold RE.rPart
  show (if 40 ≤ ps.length then none else _) = none
  exact if_pos (by omega)
theorem q_readPart (h : C2 E b M) (d : D8 ps M) (w : W8 ((sc, bo) :: ws) M) (hl : ps.length ≤ 40) (hwl : ws.length < 400) (hs : ScR sc bo) : pw (mX2_readPart 65 M) (G8 E (E.rPart ⟨b, (sc, bo) :: ws, ps⟩)) := by
  by_cases full : ps.length < 40
  case neg =>
    refine p_mono (pu_readPart h.ac (by rw [d.1]; omega)) (fun q z => Or.inl ⟨⟨?_, z.1.2.2 h.2.1, fun f => ?_⟩, rPart_full full⟩)
    · obtain ⟨a0, a1, a2, a3, a4, a5, a6, a7, a8⟩ := h.ac
      have k := z.1.1
      exact ⟨(k _ _ (by omega) (by omega) (by omega) (by omega) (by omega)).trans a0, (k _ _ (by omega) (by omega) (by omega) (by omega) (by omega)).trans a1, (k _ _ (by omega) (by omega) (by omega) (by omega) (by omega)).trans a2, (k _ _ (by omega) (by omega) (by omega) (by omega) (by omega)).trans a3, (k _ _ (by omega) (by omega) (by omega) (by omega) (by omega)).trans a4, (k _ _ (by omega) (by omega) (by omega) (by omega) (by omega)).trans a5, (k _ _ (by omega) (by omega) (by omega) (by omega) (by omega)).trans a6, (k _ _ (by omega) (by omega) (by omega) (by omega) (by omega)).trans a7, (k _ _ (by omega) (by omega) (by omega) (by omega) (by omega)).trans a8⟩
    · have := (z.2 h.2.1 f).2
      rw [d.1] at this
      omega
  obtain ⟨_, _, _, a3, a4, _⟩ := h.ac
  have wl : mG M 65 7 = (ws.length : Int) + 1 := w.1.trans (by simp)
  have w0 := w.2 0 (sc, bo) rfl
  rw [List.length_cons, show (((ws.length + 1 : Nat) : Int) - 1 - ((0 : Nat) : Int)) = (ws.length : Int) by omega] at w0
  unfold mX2_readPart
  refine p_gFc (ji := 7) rfl wl (p_pF (ji := 7) rfl (fun M1 h1 => ?_))
  rw [wI_id (x := (ws.length : Int) + 1 - 1) (by omega) (by omega)] at h1
  have kp : ∀ c j : Int, ¬ (c = 65 ∧ j = 7) → mG M1 c j = mG M c j := fun c j z => st_ne h1 z
  have h2 : C2 E b M1 := by
    refine ⟨h.1.kp (fun c j z => kp c j (by omega)) (fun c => st_k h1 c), fun z => ?_, (kp 3 6 (by omega)).trans h.2.2.1, ?_⟩
    · rw [kp 3 6 (by omega)]; exact h.2.1 (by rw [← kp 65 4 (by omega)]; exact z)
    · obtain ⟨t1, t2, t3⟩ := h.2.2.2
      unfold CTok
      show mG M1 65 9 = b ∧ (0 ≤ b ∧ b ≤ E.n) ∧ _
      rw [kp 65 8 (by omega), kp 65 9 (by omega), kp 65 10 (by omega), kp 65 11 (by omega)]
      exact ⟨t1, t2, t3⟩
  have d2 : D8 ps M1 := d.kp (fun c j z => kp c j (by omega))
  have w2 : W8 ws M1 := ⟨(st_eq h1).trans (by omega), fun k x hx => by
    have := w.2 (k + 1) x hx
    rw [List.length_cons, show (((ws.length + 1 : Nat) : Int) - 1 - ((k + 1 : Nat) : Int)) = (ws.length : Int) - 1 - (k : Int) by omega] at this
    exact (kp _ _ (by omega)).trans this⟩
  refine p_gFc (ji := 6) rfl ((kp 65 6 (by omega)).trans a4) (p_gFc (ji := 7) rfl w2.1 (p_aGc ((kp 72 _ (by omega)).trans w0) (p_gK (p_call (q_firstWord h2.1 h2.2.2.2) (fun x M2 g => ?_)))))
  obtain ⟨g, e⟩ := g
  have e : M2 = M1 := e
  subst e
  have g : x = fst8 E.nr (E.wd b) := g
  subst g
  refine p_if (fun c => ?_) (fun c => ?_)
  · have c : fst8 E.nr (E.wd b) = -1 := c
    refine p_gK (p_call (q_refuse h2.ac h2.2.1) (fun _ M3 z => p_ret (Or.inl ⟨z.1, ?_⟩)))
    unfold fst8 at c
    have ea : actW (E.wd b) = -1 := by
      by_cases e : actW (E.wd b) = -1
      · exact e
      · rw [if_neg e] at c; exact c
    rw [if_pos ea] at c
    have er : relW E.nr (E.wd b) = -1 := by
      by_cases e : relW E.nr (E.wd b) = -1
      · exact e
      · rw [if_neg e] at c; exact absurd c (by decide)
    unfold RE.rPart
    show (if 40 ≤ ps.length then none else if actW (E.wd b) = -1 then E.rFact sc bo ws ps b else _) = none
    rw [if_neg (by omega), if_pos ea]
    unfold RE.rFact
    show (if relW E.nr (E.wd b) = -1 then _ else _) = _
    rw [if_pos er]
  have c : ¬ fst8 E.nr (E.wd b) = -1 := c
  refine p_gFc (ji := 5) rfl h2.ac.2.2.2.1 (p_gFc (ji := 5) rfl d2.1 (p_it1 (by omega) ?_))
  have un : ∀ f, (f = if actW (E.wd b) = -1 then E.rFact sc bo ws ps b else if actW (E.wd b) ≤ 3 then E.rBind (actW (E.wd b)) sc bo ws ps b else if actW (E.wd b) = 8 then E.rSame sc bo ws ps b else if actW (E.wd b) = 9 then E.rReach sc bo ws ps b else if actW (E.wd b) = 10 then E.rTree ws ps b else some ⟨E.sk (E.we b), if actW (E.wd b) = 4 then (sc, bo) :: ws else (sc, bo) :: (sc, bo) :: ws, ps ++ [⟨actW (E.wd b), 0, 0, 0, actW (E.wd b), 0, 0, 0⟩]⟩) → f = E.rPart ⟨b, (sc, bo) :: ws, ps⟩ := fun f hf => by
    rw [hf]; unfold RE.rPart
    show _ = if 40 ≤ ps.length then none else _
    exact (if_neg (by omega)).symm
  have fin : ∀ {x : Option (Int × Mem)} {S : Option RS}, pw x (G8 E S) → S = E.rPart ⟨b, (sc, bo) :: ws, ps⟩ → pw (x.bind fun q => some ((0 : Int), q.2)) (G8 E (E.rPart ⟨b, (sc, bo) :: ws, ps⟩)) := fun hx e => p_call hx (fun r M3 z => p_ret (G8.of (q := (0, M3)) z e))
  have av := actW_in (E.wd b)
  unfold mX2_readPart_56
  rcases fst8_m c with ⟨e11, ea⟩ | ⟨na, ea, hw⟩
  · rw [e11]
    refine p_it0 (show ¬ (11 : Int) = 0 by decide) (p_it0 (show ¬ (11 : Int) = 1 by decide) (p_it0 (show ¬ (11 : Int) = 2 by decide) (p_it0 (show ¬ (11 : Int) = 3 by decide) (p_it0 (show ¬ (11 : Int) = 4 by decide) (p_it0 (show ¬ (11 : Int) = 5 by decide) (p_it0 (show ¬ (11 : Int) = 6 by decide) (p_it0 (show ¬ (11 : Int) = 7 by decide) (p_it0 (show ¬ (11 : Int) = 8 by decide) (p_it0 (show ¬ (11 : Int) = 9 by decide) (p_it0 (show ¬ (11 : Int) = 10 by decide) (p_gK ?_)))))))))))
    exact fin (q_readFact h2 d2 w2 full hs) (un _ (by rw [if_pos ea]))
  · rw [ea]
    have bind : actW (E.wd b) ≤ 3 → pw ((gK 2 M2 65).bind fun _ => (mX2_readBinder 65 (actW (E.wd b)) sc M2).bind fun q119 => some ((0 : Int), q119.2)) (G8 E (E.rPart ⟨b, (sc, bo) :: ws, ps⟩)) := fun a3 =>
      p_gK (fin (q_readBinder h2 d2 w2 full (by omega) hs hw ⟨by omega, a3⟩) (un _ (by rw [if_neg na, if_pos a3])))
    refine p_if (fun c => bind (by omega)) (fun c0 => p_if (fun c => bind (by omega)) (fun c1 => p_if (fun c => bind (by omega)) (fun c2 => p_if (fun c => bind (by omega)) (fun c3 => ?_))))
    refine p_if (fun c4 => ?_) (fun c4 => ?_)
    · refine p_gK (p_call (q_readJoint (sc := sc) (bo := bo) (a := actW (E.wd b)) h2 d2 w2 full (by omega) hw) (fun r M3 g => p_ret ?_))
      exact G8.mk g (un _ (by rw [if_neg na, if_neg (by omega), if_neg (by omega), if_neg (by omega), if_neg (by omega), if_pos c4]; try rfl)).symm
    have joint : ¬ actW (E.wd b) = 8 → ¬ actW (E.wd b) = 9 → ¬ actW (E.wd b) = 10 → pw ((gK 2 M2 65).bind fun _ => (mX2_readJoint 65 (actW (E.wd b)) sc M2).bind fun q137 => (gK 2 q137.2 65).bind fun _ => (mX2_expectPart 65 sc q137.2).bind fun q142 => some ((0 : Int), q142.2)) (G8 E (E.rPart ⟨b, (sc, bo) :: ws, ps⟩)) := fun n8 n9 n10 => by
      refine p_gK (p_call (q_readJoint (sc := sc) (bo := bo) (a := actW (E.wd b)) h2 d2 w2 full (by omega) hw) (fun r M3 g => p_gK ?_))
      obtain ⟨g1, g2, g3⟩ := g
      refine p_call (q_expect (bo := bo) g1 g2 g3 (by rw [List.length_cons]; omega)) (fun r M4 g => p_ret (G8.mk g (un _ (by rw [if_neg na, if_neg (by omega), if_neg n8, if_neg n9, if_neg n10, if_neg c4]; try rfl)).symm))
    refine p_if (fun c => joint (by omega) (by omega) (by omega)) (fun c5 => p_if (fun c => joint (by omega) (by omega) (by omega)) (fun c6 => p_if (fun c => joint (by omega) (by omega) (by omega)) (fun c7 => ?_)))
    refine p_if (fun c => p_gK (fin (q_readSame h2 d2 w2 full hs hw) (un _ (by rw [if_neg na, if_neg (by omega), if_pos c])))) (fun c8 => ?_)
    refine p_if (fun c => p_gK (fin (q_readReach h2 d2 w2 full hs hw) (un _ (by rw [if_neg na, if_neg (by omega), if_neg c8, if_pos c])))) (fun c9 => ?_)
    refine p_if (fun c => p_gK (fin (q_readTree h2 d2 w2 full hw) (un _ (by rw [if_neg na, if_neg (by omega), if_neg c8, if_neg c9, if_pos c])))) (fun c10 => ?_)
    exfalso; omega
end
end
section
/-! ===== what a part leaves: scopes that agree, one row more ===== -/
theorem varW_rg (w : List Int) : -1 ≤ varW w ∧ varW w ≤ 3 := by
  unfold varW
  repeat' split
  all_goals decide
theorem kindW_rg (w : List Int) : -1 ≤ kindW w ∧ kindW w ≤ 2 := by
  unfold kindW
  repeat' split
  all_goals decide
/-- the scopes agree, they are few, and there is one row more -/
def RS.ok (ws : List (Int × Int)) (ps : List Row) (S : RS) : Prop := (∀ x, x ∈ S.ws → ScR x.1 x.2) ∧ S.ws.length ≤ ws.length + 2 ∧ S.ps.length = ps.length + 1
theorem len1 (ps : List Row) (r : Row) : (ps ++ [r]).length = ps.length + 1 := by simp
theorem ok_same {ws : List (Int × Int)} {ps : List Row} {b : Int} {r : Row} (h : ∀ x, x ∈ ws → ScR x.1 x.2) : RS.ok ws ps ⟨b, ws, ps ++ [r]⟩ := ⟨h, by show ws.length ≤ _; omega, len1 ps r⟩
theorem ok_some {S : RS} {ws : List (Int × Int)} {ps : List Row} {b : Int} {r : Row} (h : ∀ x, x ∈ ws → ScR x.1 x.2) (e : some (⟨b, ws, ps ++ [r]⟩ : RS) = some S) : RS.ok ws ps S := by
  obtain rfl := Option.some.inj e
  exact ok_same h
theorem rPart_ok {E : RE} {S S' : RS} {sc bo : Int} {ws : List (Int × Int)} (hS : S.ws = (sc, bo) :: ws) (h : E.rPart S = some S') (hs : ScR sc bo) (hw : ∀ x, x ∈ ws → ScR x.1 x.2) : RS.ok ws S.ps S' := by
  obtain ⟨b, ws0, ps⟩ := S
  have hS : ws0 = (sc, bo) :: ws := hS
  subst hS
  have h : (if 40 ≤ ps.length then none else if actW (E.wd b) = -1 then E.rFact sc bo ws ps b else if actW (E.wd b) ≤ 3 then E.rBind (actW (E.wd b)) sc bo ws ps b else if actW (E.wd b) = 8 then E.rSame sc bo ws ps b else if actW (E.wd b) = 9 then E.rReach sc bo ws ps b else if actW (E.wd b) = 10 then E.rTree ws ps b else some ⟨E.sk (E.we b), if actW (E.wd b) = 4 then (sc, bo) :: ws else (sc, bo) :: (sc, bo) :: ws, ps ++ [⟨actW (E.wd b), 0, 0, 0, actW (E.wd b), 0, 0, 0⟩]⟩) = some S' := h
  show RS.ok ws ps S'
  split at h
  · cases h
  split at h
  · unfold RE.rFact at h
    dsimp only at h
    split at h
    · cases h
    · cases e : E.rv bo (E.k1 (relW E.nr (E.wd b))) (E.sk (E.we b)) with
      | none => rw [e] at h; cases h
      | some x =>
        rw [e] at h
        dsimp only [Option.bind] at h
        split at h
        · exact ok_some hw h
        · split at h
          · cases h
          · exact ok_some hw h
  split at h
  · unfold RE.rBind at h
    split at h
    · cases h
    · rename_i hd
      cases e : E.rn (actW (E.wd b)) (E.sk (E.we b)) with
      | none => rw [e] at h; cases h
      | some c =>
        rw [e] at h
        dsimp only [Option.bind] at h
        split at h
        · cases h
        · split at h
          · cases h
          · rename_i hv hk
            obtain rfl := Option.some.inj h
            have v1 := varW_rg (E.wd c.2)
            have k1 := kindW_rg (E.wd (E.sk (E.we c.2)))
            refine ⟨fun x hx => ?_, (show ws.length + 1 ≤ ws.length + 2 by omega), len1 ps _⟩
            rcases List.mem_cons.mp hx with hx | hx
            · subst hx
              exact hs.step (by omega) ⟨by omega, by omega⟩ ⟨by omega, by omega⟩
            · exact hw x hx
  split at h
  · unfold RE.rSame at h
    cases e : E.rv bo (-1) (E.sk (E.we b)) with
    | none => rw [e] at h; cases h
    | some x =>
      rw [e] at h
      dsimp only [Option.bind] at h
      split at h
      · cases h
      · exact ok_some hw h
  split at h
  · unfold RE.rReach at h
    cases e : E.rRoad (E.sk (E.we b)) with
    | none => rw [e] at h; cases h
    | some r =>
      rw [e] at h
      dsimp only [Option.bind] at h
      split at h
      · cases h
      · rename_i x hx
        dsimp only at h
        split at h
        · cases h
        · exact ok_some hw h
  split at h
  · unfold RE.rTree at h
    cases e : E.rRoad (E.sk (E.we b)) with
    | none => rw [e] at h; cases h
    | some r =>
      rw [e] at h
      exact ok_some hw h
  · obtain rfl := Option.some.inj h
    refine ⟨fun x hx => ?_, ?_, len1 ps _⟩
    · have hx : x ∈ (if actW (E.wd b) = 4 then (sc, bo) :: ws else (sc, bo) :: (sc, bo) :: ws) := hx
      have : x = (sc, bo) ∨ x ∈ ws := by
        split at hx
        · exact List.mem_cons.mp hx
        · rcases List.mem_cons.mp hx with z | z
          · exact Or.inl z
          · exact List.mem_cons.mp z
      rcases this with z | z
      · subst z; exact hs
      · exact hw x z
    · show (if actW (E.wd b) = 4 then (sc, bo) :: ws else (sc, bo) :: (sc, bo) :: ws).length ≤ _
      split
      · simp
      · simp
end
