/-! ===== the class reads a part ===== -/
section
variable {E : RE} {M : Mem}
theorem cv_in {v : Int} (h : 0 ≤ v ∧ v ≤ 3) : 0 ≤ cv v ∧ cv v ≤ 3 := by unfold cv; split <;> omega
theorem ScR.at {sc bo v : Int} (h : ScR sc bo) (hv : 0 ≤ v ∧ v ≤ 3) : (bnd bo v = -1 ∧ cbd sc v = 0) ∨ (¬ cbd sc v = 0 ∧ 0 ≤ bnd bo v ∧ bnd bo v ≤ 2 ∧ iand (wI (cbd sc v - 1)) 3 = bnd bo v) := by
  obtain ⟨m, rfl⟩ := Int.eq_ofNat_of_zero_le hv.1
  exact h.2.2.1 m (by omega)
theorem q_takeBound {b sc bo kind : Int} (h : C2 E b M) (hs : ScR sc bo) : pw (mX2_takeBound 65 sc kind M) (fun q => (Z2 q.2 ∧ E.rv bo kind b = none) ∨ ∃ v b', E.rv bo kind b = some (v, b') ∧ (0 ≤ v ∧ v ≤ 3) ∧ q.1 = cbd sc v ∧ ¬ cbd sc v = 0 ∧ AF M q.2 ∧ C2 E b' q.2) := by
  unfold mX2_takeBound
  refine p_gF (ji := 9) rfl (fun pl _ => p_gK (p_call (q_takeVariable h) (fun r M1 g => ?_)))
  rcases g with g | ⟨g1, g2, g3, g4, g5⟩
  · have e0 : E.rv bo kind b = none := by
      unfold RE.rv
      show (if varW (E.wd b) = -1 then _ else _) = _
      rw [if_pos g.2]
    have g : Z2 M1 := g.1
    have fin : ∀ x M2, Z2 M2 → pw (mX2_takeBound_64 x M2) (fun q => (Z2 q.2 ∧ E.rv bo kind b = none) ∨ ∃ v b', E.rv bo kind b = some (v, b') ∧ (0 ≤ v ∧ v ≤ 3) ∧ q.1 = cbd sc v ∧ ¬ cbd sc v = 0 ∧ AF M q.2 ∧ C2 E b' q.2) := fun x M2 z => by
      unfold mX2_takeBound_64; exact p_ret (Or.inl ⟨z, e0⟩)
    refine p_if (fun _ => p_ret (Or.inl ⟨g, e0⟩)) (fun _ => p_some (fun x _ => p_if (fun _ => ?_) (fun _ => p_if (fun _ => fin _ _ g) (fun _ => ?_))))
    · exact p_gK (p_call (q_note g.1 g.2.1 (by decide)) (fun _ M2 z => fin _ _ z))
    · refine p_same pu_kindOf (fun _ => p_if (fun _ => fin _ _ g) (fun _ => ?_))
      exact p_gK (p_call (q_note g.1 g.2.1 (by decide)) (fun _ M2 z => fin _ _ z))
  · have g2 : r = cv (varW (E.wd b)) := g2
    have g5 : C2 E (E.sk (E.we b)) M1 := g5
    have cvi := cv_in g3
    subst g2
    refine p_it0 (show ¬ cv (varW (E.wd b)) = -1 by omega) (p_some (fun x hx => ?_))
    have hx : x = cbd sc (varW (E.wd b)) := hx
    subst hx
    rcases hs.at g3 with ⟨k1, k2⟩ | ⟨k1, k2, k3, k4⟩
    · refine p_it1 k2 (p_gK (p_call (q_note g5.ac g5.2.1 (by decide)) (fun _ M2 z => ?_)))
      unfold mX2_takeBound_64
      refine p_ret (Or.inl ⟨z, ?_⟩)
      unfold RE.rv
      show (if varW (E.wd b) = -1 then _ else _) = _
      rw [if_neg g1, if_pos k1]
    · have ok : (kind = -1 ∨ bnd bo (varW (E.wd b)) = kind) → pw (mX2_takeBound_64 (cbd sc (varW (E.wd b))) M1) (fun q => (Z2 q.2 ∧ E.rv bo kind b = none) ∨ ∃ v b', E.rv bo kind b = some (v, b') ∧ (0 ≤ v ∧ v ≤ 3) ∧ q.1 = cbd sc v ∧ ¬ cbd sc v = 0 ∧ AF M q.2 ∧ C2 E b' q.2) := fun z => by
        unfold mX2_takeBound_64
        refine p_ret (Or.inr ⟨_, _, ?_, g3, rfl, k1, g4, g5⟩)
        unfold RE.rv
        show (if varW (E.wd b) = -1 then _ else _) = _
        rw [if_neg g1, if_neg (by omega), if_neg (by omega)]
      refine p_it0 k1 (p_if (fun c => ok (Or.inl c)) (fun c => ?_))
      unfold mX2_kindOf
      refine p_bindg (fun Q1 hQ1 => p_it0 k1 (p_ret (hQ1 _ ?_)))
      refine p_if (fun c2 => ok (Or.inr (k4.symm.trans c2))) (fun c2 => ?_)
      refine p_gK (p_call (q_note g5.ac g5.2.1 (by decide)) (fun _ M2 z => ?_))
      unfold mX2_takeBound_64
      refine p_ret (Or.inl ⟨z, ?_⟩)
      unfold RE.rv
      show (if varW (E.wd b) = -1 then _ else _) = _
      have c2 : ¬ iand (wI (cbd sc (varW (E.wd b)) - 1)) 3 = kind := c2
      rw [if_neg g1, if_neg (by omega), if_pos ⟨c, fun y => c2 (k4.trans y)⟩]
theorem z_takeBound {sc kind : Int} (z : Z2 M) : pw (mX2_takeBound 65 sc kind M) (fun q => Z2 q.2) := p_mono (pu_takeBound z.1) (fun q t => z.t t)
/-- the rows that the class has written -/
def D8 (ps : List Row) (M : Mem) : Prop := mG M 66 5 = (ps.length : Int) ∧ ∀ (k : Nat) (r : Row), ps[k]? = some r → mG M 67 (k : Int) = r.c0 ∧ mG M 68 (k : Int) = r.c1 ∧ mG M 69 (k : Int) = r.c2 ∧ mG M 70 (k : Int) = r.c3
/-- the scopes that wait, the last one first -/
def W8 (ws : List (Int × Int)) (M : Mem) : Prop := mG M 65 7 = (ws.length : Int) ∧ ∀ (k : Nat) (x : Int × Int), ws[k]? = some x → mG M 72 ((ws.length : Int) - 1 - (k : Int)) = x.1
theorem D8.kp {ps : List Row} {M' : Mem} (d : D8 ps M) (h : ∀ c j : Int, (66 ≤ c ∧ c ≤ 70) → mG M' c j = mG M c j) : D8 ps M' :=
  ⟨(h 66 5 (by omega)).trans d.1, fun k r hr => by
    obtain ⟨a, b, c, e⟩ := d.2 k r hr
    exact ⟨(h _ _ (by omega)).trans a, (h _ _ (by omega)).trans b, (h _ _ (by omega)).trans c, (h _ _ (by omega)).trans e⟩⟩
theorem W8.kp {ws : List (Int × Int)} {M' : Mem} (d : W8 ws M) (h : ∀ c j : Int, (c = 65 ∧ j = 7) ∨ c = 72 → mG M' c j = mG M c j) : W8 ws M' :=
  ⟨(h 65 7 (by omega)).trans d.1, fun k x hx => (h _ _ (by omega)).trans (d.2 k x hx)⟩
theorem AF.d8 {ps : List Row} {M' : Mem} (a : AF M M') (d : D8 ps M) : D8 ps M' := d.kp (fun c j _ => a.1 c j (by omega))
theorem AF.w8 {ws : List (Int × Int)} {M' : Mem} (a : AF M M') (d : W8 ws M) : W8 ws M' := d.kp (fun c j _ => a.1 c j (by omega))
/-- only the draft's rows are others -/
theorem q_write {b c0 c1 c2 c3 : Int} {ps : List Row} {ws : List (Int × Int)} (h : C2 E b M) (d : D8 ps M) (w : W8 ws M) (hl : ps.length < 40) (r : Row) (hr : c0 = r.c0 ∧ c1 = r.c1 ∧ c2 = r.c2 ∧ c3 = r.c3) : pw (mX5_write 66 c0 c1 c2 c3 M) (fun q => C2 E b q.2 ∧ D8 (ps ++ [r]) q.2 ∧ W8 ws q.2) := by
  obtain ⟨rfl, rfl, rfl, rfl⟩ := hr
  obtain ⟨_, _, _, _, _, a0, a1, a2, a3⟩ := h.ac
  have hk := h.1.2.2.2.2.2.2.2.2.1
  unfold mX5_write
  refine p_gFc (ji := 5) rfl d.1 (p_gFc (ji := 0) rfl a0 (p_aL (fun v hv => ?_)))
  rw [hk] at hv
  refine p_it0 (by omega) ?_
  refine p_gFc (ji := 0) rfl a0 (p_gFc (ji := 5) rfl d.1 (p_aS (fun M1 h1 => ?_)))
  refine p_gFc (ji := 1) rfl ((st_ne h1 (by omega)).trans a1) (p_gFc (ji := 5) rfl ((st_ne h1 (by omega)).trans d.1) (p_aS (fun M2 h2 => ?_)))
  refine p_gFc (ji := 2) rfl ((st_ne h2 (by omega)).trans ((st_ne h1 (by omega)).trans a2)) (p_gFc (ji := 5) rfl ((st_ne h2 (by omega)).trans ((st_ne h1 (by omega)).trans d.1)) (p_aS (fun M3 h3 => ?_)))
  refine p_gFc (ji := 3) rfl ((st_ne h3 (by omega)).trans ((st_ne h2 (by omega)).trans ((st_ne h1 (by omega)).trans a3))) (p_gFc (ji := 5) rfl ((st_ne h3 (by omega)).trans ((st_ne h2 (by omega)).trans ((st_ne h1 (by omega)).trans d.1))) (p_aS (fun M4 h4 => ?_)))
  unfold mX5_write_53
  refine p_gFc (ji := 5) rfl ((st_ne h4 (by omega)).trans ((st_ne h3 (by omega)).trans ((st_ne h2 (by omega)).trans ((st_ne h1 (by omega)).trans d.1)))) (p_pF (ji := 5) rfl (fun M5 h5 => p_ret ?_))
  rw [wI_id (x := (ps.length : Int) + 1) (by omega) (by omega)] at h5
  have kp : ∀ c j : Int, ¬ (c = 66 ∧ j = 5) → ¬ (67 ≤ c ∧ c ≤ 70 ∧ j = (ps.length : Int)) → mG M5 c j = mG M c j := fun c j z1 z2 =>
    (st_ne h5 (fun z => z1 z)).trans ((st_ne h4 (fun z => z2 (by omega))).trans ((st_ne h3 (fun z => z2 (by omega))).trans ((st_ne h2 (fun z => z2 (by omega))).trans (st_ne h1 (fun z => z2 (by omega))))))
  have kk : ∀ c : Int, mK M5 c = mK M c := fun c => (st_k h5 c).trans ((st_k h4 c).trans ((st_k h3 c).trans ((st_k h2 c).trans (st_k h1 c))))
  refine ⟨⟨h.1.kp (fun c j z => kp c j (by omega) (by omega)) kk, fun z => ?_, (kp 3 6 (by omega) (by omega)).trans h.2.2.1, ?_⟩, ⟨?_, fun k r' hr' => ?_⟩, w.kp (fun c j z => kp c j (by omega) (by omega))⟩
  · rw [kp 3 6 (by omega) (by omega)]; exact h.2.1 (by rw [← kp 65 4 (by omega) (by omega)]; exact z)
  · obtain ⟨t1, t2, t3⟩ := h.2.2.2
    have f : ∀ j, mG M5 65 j = mG M 65 j := fun j => kp 65 j (by omega) (by omega)
    unfold CTok
    show mG M5 65 9 = b ∧ (0 ≤ b ∧ b ≤ E.n) ∧ _
    rw [f 8, f 9, f 10, f 11]
    exact ⟨t1, t2, t3⟩
  · rw [List.length_append]; exact (st_eq h5).trans (by simp)
  · by_cases e : k < ps.length
    · rw [List.getElem?_append_left e] at hr'
      obtain ⟨x0, x1, x2, x3⟩ := d.2 k r' hr'
      exact ⟨(kp _ _ (by omega) (by omega)).trans x0, (kp _ _ (by omega) (by omega)).trans x1, (kp _ _ (by omega) (by omega)).trans x2, (kp _ _ (by omega) (by omega)).trans x3⟩
    · rw [List.getElem?_append_right (by omega)] at hr'
      have e0 : k - ps.length = 0 := by
        by_cases y : k - ps.length = 0
        · exact y
        · rw [List.getElem?_eq_none (by simp; omega)] at hr'; cases hr'
      rw [e0] at hr'
      have hr' : r = r' := Option.some.inj hr'
      subst hr'
      have ek : k = ps.length := by omega
      subst ek
      exact ⟨(st_ne h5 (by omega)).trans ((st_ne h4 (by omega)).trans ((st_ne h3 (by omega)).trans ((st_ne h2 (by omega)).trans (st_eq h1)))), (st_ne h5 (by omega)).trans ((st_ne h4 (by omega)).trans ((st_ne h3 (by omega)).trans (st_eq h2))), (st_ne h5 (by omega)).trans ((st_ne h4 (by omega)).trans (st_eq h3)), (st_ne h5 (by omega)).trans (st_eq h4)⟩
theorem q_expect {b sc bo : Int} {ps : List Row} {ws : List (Int × Int)} (h : C2 E b M) (d : D8 ps M) (w : W8 ws M) (hl : ws.length < 402) : pw (mX2_expectPart 65 sc M) (fun q => C2 E b q.2 ∧ D8 ps q.2 ∧ W8 ((sc, bo) :: ws) q.2) := by
  obtain ⟨_, _, _, _, a4, _⟩ := h.ac
  have hk := h.1.2.2.2.2.2.2.2.2.2
  unfold mX2_expectPart
  refine p_gFc (ji := 7) rfl w.1 (p_gFc (ji := 6) rfl a4 (p_aL (fun v hv => ?_)))
  rw [hk] at hv
  refine p_it0 (by omega) ?_
  refine p_gFc (ji := 6) rfl a4 (p_gFc (ji := 7) rfl w.1 (p_aS (fun M1 h1 => ?_)))
  refine p_gFc (ji := 7) rfl ((st_ne h1 (by omega)).trans w.1) (p_pF (ji := 7) rfl (fun M2 h2 => p_ret ?_))
  rw [wI_id (x := (ws.length : Int) + 1) (by omega) (by omega)] at h2
  have kp : ∀ c j : Int, ¬ (c = 65 ∧ j = 7) → ¬ (c = 72 ∧ j = (ws.length : Int)) → mG M2 c j = mG M c j := fun c j z1 z2 => (st_ne h2 z1).trans (st_ne h1 z2)
  refine ⟨⟨h.1.kp (fun c j z => kp c j (by omega) (by omega)) (fun c => (st_k h2 c).trans (st_k h1 c)), fun z => ?_, (kp 3 6 (by omega) (by omega)).trans h.2.2.1, ?_⟩, d.kp (fun c j z => kp c j (by omega) (by omega)), ?_, fun k x hx => ?_⟩
  · rw [kp 3 6 (by omega) (by omega)]; exact h.2.1 (by rw [← kp 65 4 (by omega) (by omega)]; exact z)
  · obtain ⟨t1, t2, t3⟩ := h.2.2.2
    unfold CTok
    show mG M2 65 9 = b ∧ (0 ≤ b ∧ b ≤ E.n) ∧ _
    rw [kp 65 8 (by omega) (by omega), kp 65 9 (by omega) (by omega), kp 65 10 (by omega) (by omega), kp 65 11 (by omega) (by omega)]
    exact ⟨t1, t2, t3⟩
  · exact (st_eq h2).trans (by simp)
  · rw [List.length_cons]
    cases k with
    | zero =>
      have hx : (sc, bo) = x := Option.some.inj hx
      subst hx
      rw [show (((ws.length + 1 : Nat) : Int) - 1 - ((0 : Nat) : Int)) = (ws.length : Int) by omega]
      exact (st_ne h2 (by omega)).trans (st_eq h1)
    | succ k =>
      have hx : ws[k]? = some x := hx
      have lt : k < ws.length := by
        by_cases y : k < ws.length
        · exact y
        · rw [List.getElem?_eq_none (by omega)] at hx; cases hx
      rw [show (((ws.length + 1 : Nat) : Int) - 1 - ((k + 1 : Nat) : Int)) = (ws.length : Int) - 1 - (k : Int) by omega]
      exact (kp 72 _ (by omega) (by omega)).trans (w.2 k x hx)
end
