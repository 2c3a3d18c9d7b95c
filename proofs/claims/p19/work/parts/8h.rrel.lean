section
/-! ===== the reference reads a relation, a part ===== -/
section
variable {E : RE} {M : Mem} {ps : List Row} {ws : List (Int × Int)} {b sc bo p : Int}
/-- a fault stays -/
theorem f_236 {kind : Int} (ad : AD M) (hl : ¬ mG M 126 36 = 0) : pw (mX9_readRelation_236 126 p 159 p 126 bo kind M) (fun q => ¬ mG q.2 126 36 = 0) := by
  unfold mX9_readRelation_236
  refine p_gK (p_call pt_readVar (fun y M4 t => p_aS (fun M5 s5 => ?_)))
  have t : TK M M4 := t.1
  have l5 : ¬ mG M5 126 36 = 0 := by rw [st_ne s5 (by omega)]; exact t.2 hl
  exact p_gF (ji := 44) rfl (fun _ _ => p_aG (fun _ _ => p_if (fun _ => p_ret l5) (fun _ => p_ret l5)))
theorem f_198 (hl : ¬ mG M 126 36 = 0) : pw (mX9_readRelation_198 126 p M) (fun q => ¬ mG q.2 126 36 = 0) := by
  unfold mX9_readRelation_198
  exact p_gF (ji := 43) rfl (fun _ _ => p_aG (fun _ _ => p_if (fun _ => p_ret hl) (fun _ => p_ret hl)))
theorem f_173 {kind r g : Int} (ad : AD M) (hl : ¬ mG M 126 36 = 0) : pw (mX9_readRelation_173 126 p bo r g 158 p 126 bo kind M) (fun q => ¬ mG q.2 126 36 = 0) := by
  unfold mX9_readRelation_173
  refine p_gK (p_call pt_readVar (fun y M4 t => p_aS (fun M5 s5 => ?_)))
  have t : TK M M4 := t.1
  have l5 : ¬ mG M5 126 36 = 0 := by rw [st_ne s5 (by omega)]; exact t.2 hl
  have a5 : AD M5 := (t.ad ad).of (fun j hj => st_ne s5 (by omega))
  refine p_gF (ji := 43) rfl (fun _ _ => p_aG (fun _ _ => p_if (fun _ => f_198 l5) (fun _ => ?_)))
  refine p_gF (ji := 41) rfl (fun _ _ => p_aG (fun _ _ => p_if (fun _ => f_198 l5) (fun _ => ?_)))
  refine p_gFc (ji := 44) rfl (ad42 a5).2.2.2.1 (p_if (fun _ => f_236 a5 l5) (fun _ => ?_))
  exact p_gF (ji := 10) rfl (fun _ _ => p_aG (fun _ _ => f_236 a5 l5))
theorem f_126 {r g x : Int} (ad : AD M) (hl : ¬ mG M 126 36 = 0) : pw (mX9_readRelation_126 126 p bo r g 156 p x M) (fun q => ¬ mG q.2 126 36 = 0) := by
  unfold mX9_readRelation_126
  refine p_aS (fun M1 s1 => ?_)
  have a1 : AD M1 := ad.of (fun j hj => st_ne s1 (by omega))
  refine p_gFc (ji := 42) rfl (ad42 a1).2.1 (p_aS (fun M2 s2 => p_gK (p_call pt_token (fun _ M3 t => ?_))))
  replace t : TK M2 M3 := t
  have a3 : AD M3 := t.ad (a1.of (fun j hj => st_ne s2 (by omega)))
  have l3 : ¬ mG M3 126 36 = 0 := t.2 (by rw [st_ne s2 (by omega), st_ne s1 (by omega)]; exact hl)
  refine p_gF (ji := 41) rfl (fun _ _ => p_aG (fun _ _ => p_if (fun _ => p_ret l3) (fun _ => ?_)))
  refine p_gFc (ji := 43) rfl (ad42 a3).2.2.1 (p_if (fun _ => f_173 a3 l3) (fun _ => ?_))
  exact p_gF (ji := 9) rfl (fun _ _ => p_aG (fun _ _ => f_173 a3 l3))
theorem f_90 {r g j : Int} (ad : AD M) (hl : ¬ mG M 126 36 = 0) : pw (mX9_readRelation_90 126 p bo r j g M) (fun q => ¬ mG q.2 126 36 = 0) := by
  unfold mX9_readRelation_90
  refine p_gFc (ji := 41) rfl (ad42 ad).1 (p_if (fun _ => ?_) (fun _ => ?_))
  · exact p_gF (ji := 10) rfl (fun _ _ => p_aG (fun _ _ => p_if (fun _ => f_126 ad hl) (fun _ => f_126 ad hl)))
  · exact p_gF (ji := 41) rfl (fun _ _ => p_aG (fun _ _ => f_126 ad hl))
theorem r_236 {kind act r vx c0 c2 : Int} (h : B9 E b ps ws p M) (ha : mG M 156 p = act) (hr : mG M 157 p = r) (hx : mG M 158 p = vx) : pw (mX9_readRelation_236 126 p 159 p 126 bo kind M) (G9 E ((E.rv bo kind b).bind fun y => some ⟨y.2, ws, ps ++ [⟨c0, r, c2, slt sc y.1, act, r, vx, y.1⟩]⟩)) := by
  unfold mX9_readRelation_236
  refine p_gK (p_call (r_readVar h.1) (fun y M4 gg => p_aS (fun M5 s5 => ?_)))
  obtain ⟨tk4, gg⟩ := gg
  replace tk4 : TK M M4 := tk4
  have a5 : AD M5 := (tk4.ad h.ad).of (fun j hj => st_ne s5 (by omega))
  refine p_gFc (ji := 44) rfl (ad42 a5).2.2.2.1 (p_aGc (st_eq s5) ?_)
  rcases gg with ⟨k1, k⟩ | ⟨v2, b2, k, k1, k2, k3, k4⟩
  · rw [k]
    refine p_if (fun c => p_ret (Or.inl ⟨Or.inl rfl, rfl⟩)) (fun c => p_ret (Or.inl ⟨Or.inr ?_, rfl⟩))
    rcases k1 with k1 | k1
    · exact absurd k1 c
    · show ¬ mG M5 126 36 = 0
      rw [st_ne s5 (by omega)]; exact k1
  · replace k2 : y = v2 := k2
    subst k2
    replace k3 : AF9 M M4 := k3
    have h4 : B9 E b2 ps ws p M4 := h.af k3 k4
    have h5 := h4.st (by decide) s5
    rw [k]
    refine p_it0 (by omega) (p_ret (Or.inr ⟨⟨b2, ws, ps ++ [⟨c0, r, c2, slt sc y, act, r, vx, y⟩]⟩, rfl, rfl, h5.done ⟨?_, fun _ => ?_, fun _ => ?_, fun _ => st_eq s5⟩⟩))
    · exact (st_ne s5 (by omega)).trans ((k3 156 p (by omega)).trans ha)
    · exact (st_ne s5 (by omega)).trans ((k3 157 p (by omega)).trans hr)
    · exact (st_ne s5 (by omega)).trans ((k3 158 p (by omega)).trans hx)
/-- what comes behind the relation -/
def RE.relS (E : RE) (act r sc bo : Int) (ws : List (Int × Int)) (ps : List Row) (b : Int) : Option RS :=
  if act = 10 then some ⟨b, ws, ps ++ [⟨10, r, 0, 0, 10, r, 0, 0⟩]⟩ else
  (E.rv bo (E.k1 r) b).bind fun x => if act = 11 then some ⟨x.2, ws, ps ++ [⟨11, r, slt sc x.1, 0, 11, r, x.1, 0⟩]⟩ else
  (E.rv bo (E.k2 r) x.2).bind fun y => some ⟨y.2, ws, ps ++ [⟨if act = 9 then 9 else 11, r, slt sc x.1, slt sc y.1, act, r, x.1, y.1⟩]⟩
theorem r_173 {act r g : Int} (h : B9 E b ps ws p M) (hg : ¬ g = 0) (ha : mG M 156 p = act) (h10 : act = 9 ∨ act = 11 ∨ act = 12) (hr : mG M 157 p = r) (r0 : 0 ≤ r ∧ r < E.nr) : pw (mX9_readRelation_173 126 p bo r g 158 p 126 bo (E.k1 r) M) (G9 E (E.relS act r sc bo ws ps b)) := by
  have un : E.relS act r sc bo ws ps b = (E.rv bo (E.k1 r) b).bind fun x => if act = 11 then some ⟨x.2, ws, ps ++ [⟨11, r, slt sc x.1, 0, 11, r, x.1, 0⟩]⟩ else (E.rv bo (E.k2 r) x.2).bind fun y => some ⟨y.2, ws, ps ++ [⟨if act = 9 then 9 else 11, r, slt sc x.1, slt sc y.1, act, r, x.1, y.1⟩]⟩ := if_neg (by omega)
  rw [un]
  unfold mX9_readRelation_173
  refine p_gK (p_call (r_readVar h.1) (fun y M4 gg => p_aS (fun M5 s5 => ?_)))
  obtain ⟨tk4, gg⟩ := gg
  replace tk4 : TK M M4 := tk4
  have a5 : AD M5 := (tk4.ad h.ad).of (fun j hj => st_ne s5 (by omega))
  refine p_gFc (ji := 43) rfl (ad42 a5).2.2.1 (p_aGc (st_eq s5) ?_)
  rcases gg with ⟨k1, k⟩ | ⟨v2, b2, k, k1, k2, k3, k4⟩
  · rw [k]
    refine p_if (fun c => ?_) (fun c => ?_)
    · replace c : y = -1 := c
      unfold mX9_readRelation_198
      exact p_gFc (ji := 43) rfl (ad42 a5).2.2.1 (p_aGc (st_eq s5) (p_it1 c (p_ret (Or.inl ⟨Or.inl rfl, rfl⟩))))
    · have l5 : ¬ mG M5 126 36 = 0 := by
        rcases k1 with k1 | k1
        · exact absurd k1 c
        · rw [st_ne s5 (by omega)]; exact k1
      have fin : ∀ {x : Option (Int × Mem)}, pw x (fun q => ¬ mG q.2 126 36 = 0) → pw x (G9 E none) := fun hx => p_mono hx (fun q z => Or.inl ⟨Or.inr z, rfl⟩)
      refine p_gF (ji := 41) rfl (fun _ _ => p_aG (fun _ _ => p_if (fun _ => fin (f_198 l5)) (fun _ => ?_)))
      refine p_gFc (ji := 44) rfl (ad42 a5).2.2.2.1 (p_if (fun _ => fin (f_236 a5 l5)) (fun _ => ?_))
      exact p_gF (ji := 10) rfl (fun _ _ => p_aG (fun _ _ => fin (f_236 a5 l5)))
  · replace k2 : y = v2 := k2
    subst k2
    replace k3 : AF9 M M4 := k3
    have h4 : B9 E b2 ps ws p M4 := h.af k3 k4
    have h5 := h4.st (by decide) s5
    have e156 : mG M5 156 p = act := (st_ne s5 (by omega)).trans ((k3 156 p (by omega)).trans ha)
    have e157 : mG M5 157 p = r := (st_ne s5 (by omega)).trans ((k3 157 p (by omega)).trans hr)
    rw [k]
    refine p_it0 (by omega) (p_gFc (ji := 41) rfl (ad42 a5).1 (p_aGc e156 (p_if (fun c => ?_) (fun c => ?_))))
    · show pw _ (G9 E (if act = 11 then some ⟨b2, ws, ps ++ [⟨11, r, slt sc y, 0, 11, r, y, 0⟩]⟩ else _))
      rw [if_pos c]
      unfold mX9_readRelation_198
      refine p_gFc (ji := 43) rfl (ad42 a5).2.2.1 (p_aGc (st_eq s5) (p_it0 (by omega) (p_ret (G9.mk (h5.done (r := (⟨11, r, slt sc y, 0, 11, r, y, 0⟩ : Row)) ⟨e156.trans c, fun _ => e157, fun _ => st_eq s5, fun z => by
        have z : (11 : Int) ≤ 3 ∨ (11 : Int) = 9 ∨ (11 : Int) = 12 := z
        exfalso; omega⟩) rfl))))
    · show pw _ (G9 E (if act = 11 then some ⟨b2, ws, ps ++ [⟨11, r, slt sc y, 0, 11, r, y, 0⟩]⟩ else (E.rv bo (E.k2 r) b2).bind _))
      rw [if_neg c]
      refine p_gFc (ji := 44) rfl (ad42 a5).2.2.2.1 (p_it0 hg (p_gFc (ji := 10) rfl (ad42 a5).2.2.2.2.2.2 (p_aGc (h5.1.1.2.2.2.2.2.2 r r0.1 r0.2).2 ?_)))
      exact r_236 h5 e156 e157 (st_eq s5)
theorem r_126 {act r g : Int} (h : B9 E b ps ws p M) (hg : ¬ g = 0) (hact : act = 9 ∨ act = 10 ∨ act = 11 ∨ act = 12) (hw : ¬ E.wd b = []) (r0 : 0 ≤ r ∧ r < E.nr) : pw (mX9_readRelation_126 126 p bo r g 156 p act M) (G9 E (E.relS act r sc bo ws ps (E.sk (E.we b)))) := by
  unfold mX9_readRelation_126
  refine p_aS (fun M1 s1 => ?_)
  have h1 := h.st (by decide) s1
  refine p_gFc (ji := 42) rfl (ad42 h1.ad).2.1 (p_aS (fun M2 s2 => p_gK ?_))
  have h2 := h1.st (by decide) s2
  refine p_call (r_word h2.1 hw) (fun _ M3 g3 => ?_)
  obtain ⟨a3, r3⟩ := g3
  replace a3 : AF9 M2 M3 := a3
  have h3 := h2.af a3 r3
  have e156 : mG M3 156 p = act := (a3 156 p (by omega)).trans ((st_ne s2 (by omega)).trans (st_eq s1))
  have e157 : mG M3 157 p = r := (a3 157 p (by omega)).trans (st_eq s2)
  refine p_gFc (ji := 41) rfl (ad42 h3.ad).1 (p_aGc e156 (p_if (fun c => p_ret ?_) (fun c => ?_)))
  · have e : E.relS act r sc bo ws ps (E.sk (E.we b)) = some ⟨E.sk (E.we b), ws, ps ++ [⟨10, r, 0, 0, 10, r, 0, 0⟩]⟩ := if_pos c
    rw [e]
    exact G9.mk (h3.done (r := (⟨10, r, 0, 0, 10, r, 0, 0⟩ : Row)) ⟨e156.trans c, fun _ => e157, fun z => by
        have z : (10 : Int) ≤ 3 ∨ (10 : Int) = 8 ∨ (10 : Int) = 9 ∨ 11 ≤ (10 : Int) := z
        exfalso; omega, fun z => by
        have z : (10 : Int) ≤ 3 ∨ (10 : Int) = 9 ∨ (10 : Int) = 12 := z
        exfalso; omega⟩) rfl
  · refine p_gFc (ji := 43) rfl (ad42 h3.ad).2.2.1 (p_it0 hg (p_gFc (ji := 9) rfl (ad42 h3.ad).2.2.2.2.2.1 (p_aGc (h3.1.1.2.2.2.2.2.2 r r0.1 r0.2).1 ?_)))
    exact r_173 h3 hg e156 (by omega) e157 r0
/-- a relation behind reach or tree -/
theorem r_road {act : Int} (h : B9 E b ps ws p M) (ha : mG M 156 p = act) (hact : act = 9 ∨ act = 10) : pw (mX9_readRelation 126 p bo M) (G9 E ((E.rRoad b).bind fun r => E.relS act r.1 sc bo ws ps r.2)) := by
  have un : E.rRoad b = if relW E.nr (E.wd b) = -1 then none else if ¬ E.k2 (relW E.nr (E.wd b)) = E.k1 (relW E.nr (E.wd b)) then none else some (relW E.nr (E.wd b), E.sk (E.we b)) := rfl
  unfold mX9_readRelation
  refine p_gK (p_call (r_relOf h.1) (fun r M1 g => ?_))
  obtain ⟨e, hr⟩ := g
  replace e : M1 = M := e
  replace hr : r = relW E.nr (E.wd b) := hr
  subst e
  have en := h.1.1.2.2.2.2.2.1
  have rg := relW_rg en.1 (E.wd b)
  rw [un, ← hr]
  rw [← hr] at rg
  refine p_if (fun c => p_gF (ji := 31) rfl (fun _ _ => p_pF (ji := 35) rfl (fun M2 _ => p_ret (Or.inl ⟨Or.inl rfl, ?_⟩)))) (fun c => ?_)
  · replace c : r = -1 := c
    rw [if_pos c]; rfl
  replace c : ¬ r = -1 := c
  have r0 : 0 ≤ r ∧ r < E.nr := by omega
  have hw := relW_ne en.1 (by rw [← hr]; exact c)
  obtain ⟨k1, k2⟩ := h.1.1.2.2.2.2.2.2 r r0.1 r0.2
  rw [if_neg c]
  have g42 : pw (mX9_readRelation_42 126 p bo r M1) (G9 E ((if ¬ E.k2 r = E.k1 r then none else some (r, E.sk (E.we b))).bind fun r => E.relS act r.1 sc bo ws ps r.2)) := by
    unfold mX9_readRelation_42 mX9_readRelation_47
    refine p_it0 (show ¬ (1 : Int) = 0 by decide) (p_gFc (ji := 10) rfl (ad42 h.ad).2.2.2.2.2.2 (p_aGc k2 (p_gFc (ji := 9) rfl (ad42 h.ad).2.2.2.2.2.1 (p_aGc k1 (p_if (fun c2 => ?_) (fun c2 => ?_))))))
    · rw [if_neg (fun y => y c2)]
      unfold mX9_readRelation_69 mX9_readRelation_74
      refine p_it0 (show ¬ (1 : Int) = 0 by decide) ?_
      unfold mX9_readRelation_90
      refine p_gFc (ji := 41) rfl (ad42 h.ad).1 (p_it0 (show ¬ (1 : Int) = 0 by decide) (p_gFc (ji := 41) rfl (ad42 h.ad).1 (p_aGc ha ?_)))
      exact r_126 h (by decide) (by omega) hw r0
    · rw [if_pos c2]
      unfold mX9_readRelation_74
      refine p_it1 rfl (p_gF (ji := 31) rfl (fun a _ => p_gK (p_call (pt_later (by decide)) (fun _ M2 z => ?_))))
      replace z : TK M1 M2 ∧ ¬ mG M2 126 36 = 0 := z
      exact p_mono (f_90 (z.1.ad h.ad) z.2) (fun q z => Or.inl ⟨Or.inr z, rfl⟩)
  refine p_gFc (ji := 41) rfl (ad42 h.ad).1 (p_aGc ha (p_if (fun _ => g42) (fun c9 => ?_)))
  exact p_gFc (ji := 41) rfl (ad42 h.ad).1 (p_aGc ha (p_it1 (by omega) g42))
theorem r_fact (h : B9 E b ps ws p M) (ha : mG M 156 p = -1) : pw (mX9_readRelation 126 p bo M) (G9 E (E.rFact sc bo ws ps b)) := by
  have un : E.rFact sc bo ws ps b = if relW E.nr (E.wd b) = -1 then none else E.relS (if E.k2 (relW E.nr (E.wd b)) = -1 then 11 else 12) (relW E.nr (E.wd b)) sc bo ws ps (E.sk (E.we b)) := by
    unfold RE.rFact
    show (if relW E.nr (E.wd b) = -1 then _ else _) = _
    by_cases c : relW E.nr (E.wd b) = -1
    · rw [if_pos c, if_pos c]
    · rw [if_neg c, if_neg c]
      by_cases c2 : E.k2 (relW E.nr (E.wd b)) = -1
      · rw [if_pos c2]
        unfold RE.relS
        rw [if_neg (by decide)]
        congr 1
        funext x
        rw [if_pos c2, if_pos rfl]
      · rw [if_neg c2]
        unfold RE.relS
        rw [if_neg (by decide)]
        congr 1
        funext x
        rw [if_neg c2, if_neg (by decide)]; rfl
  unfold mX9_readRelation
  refine p_gK (p_call (r_relOf h.1) (fun r M1 g => ?_))
  obtain ⟨e, hr⟩ := g
  replace e : M1 = M := e
  replace hr : r = relW E.nr (E.wd b) := hr
  subst e
  have en := h.1.1.2.2.2.2.2.1
  have rg := relW_rg en.1 (E.wd b)
  rw [un, ← hr]
  rw [← hr] at rg
  refine p_if (fun c => p_gF (ji := 31) rfl (fun _ _ => p_pF (ji := 35) rfl (fun M2 _ => p_ret (Or.inl ⟨Or.inl rfl, ?_⟩)))) (fun c => ?_)
  · replace c : r = -1 := c
    rw [if_pos c]
  replace c : ¬ r = -1 := c
  have r0 : 0 ≤ r ∧ r < E.nr := by omega
  have hw := relW_ne en.1 (by rw [← hr]; exact c)
  obtain ⟨k1, k2⟩ := h.1.1.2.2.2.2.2.2 r r0.1 r0.2
  rw [if_neg c]
  refine p_gFc (ji := 41) rfl (ad42 h.ad).1 (p_aGc ha (p_it0 (by decide) (p_gFc (ji := 41) rfl (ad42 h.ad).1 (p_aGc ha (p_it0 (by decide) ?_)))))
  unfold mX9_readRelation_47
  refine p_it1 rfl ?_
  unfold mX9_readRelation_69 mX9_readRelation_74
  refine p_it0 (show ¬ (1 : Int) = 0 by decide) ?_
  unfold mX9_readRelation_90
  refine p_gFc (ji := 41) rfl (ad42 h.ad).1 (p_it1 rfl (p_gFc (ji := 10) rfl (ad42 h.ad).2.2.2.2.2.2 (p_aGc k2 (p_if (fun c2 => ?_) (fun c2 => ?_)))))
  · rw [if_pos c2]
    exact r_126 h (by decide) (by decide) hw r0
  · rw [if_neg c2]
    exact r_126 h (by decide) (by decide) hw r0
/-- a fault stays, whatever the part -/
theorem f_part {bo : Int} (ad : AD M) (hw : 0 ≤ mG M 126 38 ∧ mG M 126 38 ≤ 500) (hn : 0 ≤ mG M 126 40 ∧ mG M 126 40 ≤ 1000) (hl : ¬ mG M 126 36 = 0 ∨ mG M 126 40 = 40) : pw (mX9_readPart 126 bo M) (fun q => ¬ mG q.2 126 36 = 0) :=
  p_mono (pt_readPart ad hw hn) (fun q z => by
    obtain ⟨M1, _, _, _, z1, z2, z3, _⟩ := z
    refine z3.2 ?_
    rcases hl with hl | hl
    · exact z1 hl
    · exact z2 hl)
theorem r_readPart (h : R2 E b M) (d : D9 ps M) (w : W9 ws M) (hn : mG M 126 40 = (ps.length : Int)) (hl : ps.length ≤ 40) (hwl : ws.length < 400) (hs : ScR sc bo) : pw (mX9_readPart 126 bo M) (G9 E (E.rPart ⟨b, (sc, bo) :: ws, ps⟩)) := by
  by_cases full : ps.length < 40
  case neg =>
    refine p_mono (f_part h.1.1 (by rw [w.1]; omega) (by omega) (Or.inr (by omega))) (fun q z => Or.inl ⟨Or.inr z, ?_⟩)
    exact rPart_full full
  have un : ∀ f, (f = if actW (E.wd b) = -1 then E.rFact sc bo ws ps b else if actW (E.wd b) ≤ 3 then E.rBind (actW (E.wd b)) sc bo ws ps b else if actW (E.wd b) = 8 then E.rSame sc bo ws ps b else if actW (E.wd b) = 9 then E.rReach sc bo ws ps b else if actW (E.wd b) = 10 then E.rTree ws ps b else some ⟨E.sk (E.we b), if actW (E.wd b) = 4 then (sc, bo) :: ws else (sc, bo) :: (sc, bo) :: ws, ps ++ [⟨actW (E.wd b), 0, 0, 0, actW (E.wd b), 0, 0, 0⟩]⟩) → f = E.rPart ⟨b, (sc, bo) :: ws, ps⟩ := fun f hf => by
    rw [hf]; unfold RE.rPart
    show _ = if 40 ≤ ps.length then none else _
    exact (if_neg (by omega)).symm
  have fin : ∀ {x : Option (Int × Mem)} {S : Option RS}, pw x (G9 E S) → S = E.rPart ⟨b, (sc, bo) :: ws, ps⟩ → pw (x.bind fun q => (zR q.1).bind fun z => some (z, q.2)) (G9 E (E.rPart ⟨b, (sc, bo) :: ws, ps⟩)) := fun hx e => p_call hx (fun r M3 z => p_zR (fun _ => p_ret (G9.of z e)))
  unfold mX9_readPart
  refine p_gFc (ji := 40) rfl hn (p_it0 (by omega) ?_)
  unfold mX9_readPart_18
  refine p_gFc (ji := 40) rfl hn (p_it0 (by omega) (p_gFc (ji := 40) rfl hn ?_))
  unfold mX9_readPart_36
  refine p_gFc (ji := 40) rfl hn (p_pF (ji := 40) rfl (fun M1 s1 => ?_))
  rw [wI_id (x := (ps.length : Int) + 1) (by omega) (by omega)] at s1
  have h1 : B9 E b ps ws (ps.length : Int) M1 := ⟨h.kp (fun c j _ hj => st_ne s1 (by omega)), d.kp (fun c j _ _ _ => st_ne s1 (by omega)), w.kp (fun c j _ => st_ne s1 (by omega)), st_eq s1, rfl⟩
  refine p_gFc (ji := 41) rfl (ad42 h1.ad).1 (p_gK (p_call (r_actOf h1.1) (fun a M2 g => p_aS (fun M3 s3 => ?_))))
  obtain ⟨e, hact⟩ := g
  replace e : M2 = M1 := e
  replace hact : a = actW (E.wd b) := hact
  subst e
  have av := actW_in (E.wd b)
  rw [← hact] at un av
  have h3 := h1.st (by decide) s3
  have e3 : mG M3 156 (ps.length : Int) = a := st_eq s3
  refine p_gFc (ji := 41) rfl (ad42 h3.ad).1 (p_aGc e3 (p_if (fun c => ?_) (fun c => ?_)))
  · exact p_gK (fin (r_fact h3 (e3.trans c)) (un _ (by rw [if_pos c])))
  replace c : ¬ a = -1 := c
  have hw : ¬ E.wd b = [] := fun z => c (by rw [hact, z]; decide)
  have run : a ≤ 3 → 4 ≤ ishr sc 16 → E.rPart ⟨b, (sc, bo) :: ws, ps⟩ = none := fun a3 d4 => by
    rw [← un _ rfl, if_neg c, if_pos a3]
    unfold RE.rBind
    exact if_pos d4
  have go : (a ≤ 3 → ishr sc 16 < 4) → pw (mX9_readPart_102 126 bo (ps.length : Int) M3) (G9 E (E.rPart ⟨b, (sc, bo) :: ws, ps⟩)) := fun hd => by
    unfold mX9_readPart_102
    refine p_gK (p_call (r_word h3.1 hw) (fun _ M4 g => ?_))
    obtain ⟨a4, r4⟩ := g
    replace a4 : AF9 M3 M4 := a4
    have h4 := h3.af a4 r4
    have e4 : mG M4 156 (ps.length : Int) = a := (a4 156 _ (by omega)).trans e3
    refine p_gFc (ji := 41) rfl (ad42 h4.ad).1 (p_aGc e4 (p_if (fun c3 => ?_) (fun c3 => ?_)))
    · refine p_gFc (ji := 41) rfl (ad42 h4.ad).1 (p_aGc e4 (p_if (fun c8 => ?_) (fun c8 => ?_)))
      · exact p_gK (fin (r_readSame h4 (e4.trans c8)) (un _ (by rw [if_neg c, if_neg (by omega), if_pos c8])))
      refine p_gFc (ji := 41) rfl (ad42 h4.ad).1 (p_aGc e4 (p_if (fun c9 => ?_) (fun c9 => ?_)))
      · have js : E.rPart ⟨b, (sc, bo) :: ws, ps⟩ = some ⟨E.sk (E.we b), if a = 4 then (sc, bo) :: ws else (sc, bo) :: (sc, bo) :: ws, ps ++ [⟨a, 0, 0, 0, a, 0, 0, 0⟩]⟩ := by
          rw [← un _ rfl, if_neg c, if_neg (by omega), if_neg c8, if_neg (by omega), if_neg (by omega)]
        refine p_gK (p_call (r_wait (sc := sc) h4.ad h4.2.2.1 (by omega)) (fun _ M5 g => ?_))
        obtain ⟨g5, w5⟩ := g
        replace g5 : ∀ c j : Int, ¬ (c = 126 ∧ j = 38) → ¬ c = 155 → mG M5 c j = mG M4 c j := g5
        replace w5 : W9 ((sc, bo) :: ws) M5 := w5
        have h5 : B9 E (E.sk (E.we b)) ps ((sc, bo) :: ws) (ps.length : Int) M5 := ⟨h4.1.kp (fun c j hc hj => g5 c j (by omega) (by omega)), h4.2.1.kp (fun c j c0 c1 _ => g5 c j (by omega) (by omega)), w5, (g5 126 40 (by omega) (by decide)).trans h4.2.2.2.1, rfl⟩
        have e5 : mG M5 156 (ps.length : Int) = a := (g5 156 _ (by omega) (by decide)).trans e4
        have rw0 : ∀ M : Mem, mG M 156 (ps.length : Int) = a → RW ⟨a, 0, 0, 0, a, 0, 0, 0⟩ (ps.length : Int) M := fun M hM => by
          refine ⟨hM, fun z => ?_, fun z => ?_, fun z => ?_⟩
          · replace z : a ≤ 3 ∨ 8 ≤ a := z
            omega
          · replace z : a ≤ 3 ∨ a = 8 ∨ a = 9 ∨ 11 ≤ a := z
            omega
          · replace z : a ≤ 3 ∨ a = 9 ∨ a = 12 := z
            omega
        rw [js]
        refine p_gFc (ji := 41) rfl (ad42 h5.ad).1 (p_aGc e5 (p_if (fun c4 => p_ret ?_) (fun c4 => ?_)))
        · rw [if_pos c4]
          exact Or.inr ⟨_, rfl, rfl, h5.done (rw0 _ e5)⟩
        · rw [if_neg c4]
          refine p_gK (p_call (r_wait (sc := sc) h5.ad h5.2.2.1 (by rw [List.length_cons]; omega)) (fun _ M6 g => p_ret ?_))
          obtain ⟨g6, w6⟩ := g
          replace g6 : ∀ c j : Int, ¬ (c = 126 ∧ j = 38) → ¬ c = 155 → mG M6 c j = mG M5 c j := g6
          replace w6 : W9 ((sc, bo) :: (sc, bo) :: ws) M6 := w6
          have h6 : B9 E (E.sk (E.we b)) ps ((sc, bo) :: (sc, bo) :: ws) (ps.length : Int) M6 := ⟨h5.1.kp (fun c j hc hj => g6 c j (by omega) (by omega)), h5.2.1.kp (fun c j c0 c1 _ => g6 c j (by omega) (by omega)), w6, (g6 126 40 (by omega) (by decide)).trans h5.2.2.2.1, rfl⟩
          exact Or.inr ⟨_, rfl, rfl, h6.done (rw0 _ ((g6 156 _ (by omega) (by decide)).trans e5))⟩
      · have e9 : a = 9 ∨ a = 10 := by omega
        refine p_gK (fin (r_road (sc := sc) h4 e4 e9) ?_)
        rcases e9 with e9 | e9
        · refine (un _ ?_)
          rw [if_neg c, if_neg (by omega), if_neg c8, if_pos e9, e9]
          exact congrArg (Option.bind (E.rRoad (E.sk (E.we b)))) (funext (fun r => rfl))
        · refine (un _ ?_)
          rw [if_neg c, if_neg (by omega), if_neg c8, if_neg (by omega), if_pos e9, e9]
          exact congrArg (Option.bind (E.rRoad (E.sk (E.we b)))) (funext (fun r => rfl))
    · have c3 : a ≤ 3 := by omega
      refine p_gK (fin (r_readBinder (sc := sc) h4 e4 ⟨by omega, c3⟩ (by omega)) (un _ ?_))
      rw [if_neg c, if_pos c3]
      unfold RE.rBind
      rw [if_neg (by have := hd c3; omega)]; rfl
  refine p_gFc (ji := 41) rfl (ad42 h3.ad).1 (p_aGc e3 (p_if (fun c3 => go (fun y => by omega)) (fun c3 => ?_)))
  refine p_dQ (fun v hv => p_if (fun cv => go (fun _ => by rw [hs.2.2.2.1, ← hv]; exact cv)) (fun cv => ?_))
  refine p_gF (ji := 31) rfl (fun _ _ => p_gK (p_call (pt_later (by decide)) (fun _ M4 z => ?_)))
  replace z : TK M3 M4 ∧ ¬ mG M4 126 36 = 0 := z
  rw [run (by omega) (by rw [hs.2.2.2.1, ← hv]; omega)]
  have e40 : mG M4 156 (ps.length : Int) = a := (z.1.1 156 _ (by omega)).trans e3
  refine p_mono (pt_102 (M0 := M4) (M := M4) (p := (ps.length : Int)) BK.rf (z.1.ad h3.ad) (by rw [e40]; omega) rfl ?_ (fun _ _ => z.2)) (fun q y => Or.inl ⟨Or.inr (y.1.2 z.2), rfl⟩)
  rw [z.1.1 126 38 (by omega), h3.2.2.1.1]; omega
end
end
section
/-! ===== the reference reads a tape ===== -/
def FL9 (M : Mem) : Prop := AD M ∧ ¬ mG M 126 36 = 0
section
variable {E : RE} {M : Mem} {p bo : Int}
theorem FL9.tk {M' : Mem} (h : FL9 M) (t : TK M M') : FL9 M' := ⟨t.ad h.1, t.2 h.2⟩
theorem FL9.st {M' : Mem} {c i x : Int} (h : FL9 M) (hc : 155 ≤ c ∨ (c = 126 ∧ (i = 35 ∨ i = 38 ∨ i = 40))) (hM : M' = mS M c i x) : FL9 M' := by
  refine ⟨h.1.of (fun j hj => st_ne hM (fun z => ?_)), by rw [st_ne hM (fun z => by omega)]; exact h.2⟩
  have := adc_in hj
  rcases hc with hc | ⟨hc, hc2⟩
  · omega
  · rcases hc2 with hc2 | hc2 | hc2 <;> omega
theorem f_wait {x : Int} (h : FL9 M) : pw (mX9_wait 126 x M) (fun q => FL9 q.2) := by
  unfold mX9_wait
  refine p_gFc (ji := 39) rfl (ad42 h.1).2.2.2.2.1 (p_gF (ji := 38) rfl (fun _ _ => p_aS (fun M1 h1 => ?_)))
  have f1 := h.st (Or.inl (by decide)) h1
  exact p_gF (ji := 38) rfl (fun _ _ => p_pF (ji := 38) rfl (fun M2 h2 => p_ret (f1.st (Or.inr ⟨rfl, by decide⟩) h2)))
theorem f_49 (h : FL9 M) : pw (mX9_readBinder_49 126 p bo M) (fun q => FL9 q.2) := by
  unfold mX9_readBinder_49
  refine p_gK (p_call pt_varOf (fun v M1 g => ?_))
  have e : M1 = M := g.1
  subst e
  refine p_if (fun c => p_gF (ji := 31) rfl (fun _ _ => p_pF (ji := 35) rfl (fun M2 h2 => p_ret (h.st (Or.inr ⟨rfl, by decide⟩) h2)))) (fun c => ?_)
  refine p_gK (p_call pt_token (fun _ M2 t => p_gK ?_))
  have f2 : FL9 M2 := h.tk t
  refine p_call pt_kindOf (fun k M3 g => ?_)
  have e : M3 = M2 := g.1
  subst e
  refine p_if (fun c2 => p_gF (ji := 31) rfl (fun _ _ => p_pF (ji := 35) rfl (fun M2 h2 => p_ret (f2.st (Or.inr ⟨rfl, by decide⟩) h2)))) (fun c2 => ?_)
  refine p_gK (p_call pt_token (fun _ M4 t => ?_))
  have f4 : FL9 M4 := f2.tk t
  refine p_gFc (ji := 42) rfl (ad42 f4.1).2.1 (p_aS (fun M5 s5 => ?_))
  have f5 := f4.st (Or.inl (by decide)) s5
  refine p_gFc (ji := 43) rfl (ad42 f5.1).2.2.1 (p_aS (fun M6 s6 => p_gK ?_))
  have f6 := f5.st (Or.inl (by decide)) s6
  exact p_call (f_wait f6) (fun _ M7 g => p_ret g)
theorem f_binder (h : FL9 M) : pw (mX9_readBinder 126 p bo M) (fun q => FL9 q.2) := by
  unfold mX9_readBinder
  refine p_gFc (ji := 44) rfl (ad42 h.1).2.2.2.1 (p_aS (fun M1 s1 => ?_))
  have f1 := h.st (Or.inl (by decide)) s1
  refine p_gF (ji := 41) rfl (fun _ _ => p_aG (fun _ _ => p_if (fun c => f_49 f1) (fun c => ?_)))
  refine p_gF (ji := 32) rfl (fun s hs => p_if (fun c3 => ?_) (fun c3 => ?_))
  · refine p_gFc (ji := 44) rfl (ad42 f1.1).2.2.2.1 (p_gF (ji := 33) rfl (fun _ _ => p_aS (fun M2 s2 => p_gK (p_call pt_token (fun _ M3 t => ?_)))))
    exact f_49 ((f1.st (Or.inl (by decide)) s2).tk t)
  · exact p_gF (ji := 31) rfl (fun _ _ => p_pF (ji := 35) rfl (fun M2 h2 => p_ret (f1.st (Or.inr ⟨rfl, by decide⟩) h2)))
theorem f_102 (h : FL9 M) : pw (mX9_readPart_102 126 bo p M) (fun q => FL9 q.2) := by
  unfold mX9_readPart_102
  refine p_gK (p_call pt_token (fun _ M4 t => ?_))
  have f4 : FL9 M4 := h.tk t
  have fin : ∀ {x : Option (Int × Mem)}, pw x (fun q => FL9 q.2) → pw (x.bind fun q => (zR q.1).bind fun z => some (z, q.2)) (fun q => FL9 q.2) := fun hx => p_call hx (fun r M3 z => p_zR (fun _ => p_ret z))
  refine p_gF (ji := 41) rfl (fun _ _ => p_aG (fun _ _ => p_if (fun _ => ?_) (fun _ => p_gK (fin (f_binder f4)))))
  refine p_gF (ji := 41) rfl (fun _ _ => p_aG (fun _ _ => p_if (fun _ => p_gK (fin (p_mono (pt_readSame f4.1) (fun q z => ⟨z.ad f4.1, z.2 f4.2⟩)))) (fun _ => ?_)))
  refine p_gF (ji := 41) rfl (fun _ _ => p_aG (fun _ _ => p_if (fun _ => ?_) (fun _ => p_gK (fin (p_mono (pt_readRelation f4.1) (fun q z => ⟨z.1.ad f4.1, z.1.2 f4.2⟩))))))
  refine p_gK (p_call (f_wait f4) (fun _ M5 f5 => ?_))
  replace f5 : FL9 M5 := f5
  refine p_gF (ji := 41) rfl (fun _ _ => p_aG (fun _ _ => p_if (fun _ => p_ret f5) (fun _ => p_gK (p_call (f_wait f5) (fun _ M6 f6 => p_ret f6)))))
theorem f_later {a c : Int} (h : FL9 M) (ha : ¬ a = 0) : pw (mX9_later 126 a c M) (fun q => FL9 q.2) := p_mono (pt_later ha) (fun q z => h.tk z.1)
theorem f_readPart (h : FL9 M) : pw (mX9_readPart 126 bo M) (fun q => FL9 q.2) := by
  have t36 : ∀ (s : Int) (M : Mem), FL9 M → pw (mX9_readPart_36 126 bo s M) (fun q => FL9 q.2) := fun s M h => by
    unfold mX9_readPart_36
    refine p_gF (ji := 40) rfl (fun _ _ => p_pF (ji := 40) rfl (fun M1 s1 => ?_))
    have f1 := h.st (Or.inr ⟨rfl, by decide⟩) s1
    refine p_gFc (ji := 41) rfl (ad42 f1.1).1 (p_gK (p_call pt_actOf (fun a M2 g => p_aS (fun M3 s3 => ?_))))
    have e : M2 = M1 := g.1
    subst e
    have f3 := f1.st (Or.inl (by decide)) s3
    refine p_gF (ji := 41) rfl (fun _ _ => p_aG (fun _ _ => p_if (fun _ => ?_) (fun _ => ?_)))
    · exact p_gK (p_call (pt_readRelation f3.1) (fun r M4 z => p_zR (fun _ => p_ret ⟨z.1.ad f3.1, z.1.2 f3.2⟩)))
    refine p_gF (ji := 41) rfl (fun _ _ => p_aG (fun _ _ => p_if (fun _ => f_102 f3) (fun _ => ?_)))
    refine p_dQ (fun v _ => p_if (fun _ => f_102 f3) (fun _ => ?_))
    exact p_gF (ji := 31) rfl (fun _ _ => p_gK (p_call (f_later f3 (by decide)) (fun _ M4 z => f_102 z)))
  have t18 : ∀ (M : Mem), FL9 M → pw (mX9_readPart_18 126 bo M) (fun q => FL9 q.2) := fun M h => by
    unfold mX9_readPart_18
    refine p_gF (ji := 40) rfl (fun _ _ => p_if (fun _ => t36 _ _ h) (fun _ => ?_))
    exact p_gF (ji := 40) rfl (fun _ _ => t36 _ _ h)
  unfold mX9_readPart
  refine p_gF (ji := 40) rfl (fun _ _ => p_if (fun _ => ?_) (fun _ => t18 _ h))
  exact p_gF (ji := 31) rfl (fun _ _ => p_gK (p_call (f_later h (by decide)) (fun _ M4 z => t18 _ z)))
theorem f_182 {y : Int} (ad : AD M) (h : ¬ mG M 129 0 = 0) : pw (mX9_readText_182 126 130 0 y M) (fun q => q.1 = 0) := by
  unfold mX9_readText_182
  refine p_aS (fun M1 s1 => p_gFc (ji := 3) (r := 129) rfl ((st_ne s1 (by omega)).trans (ad 3 (by decide))) (p_aGc (st_ne s1 (by omega)) (p_it0 h (p_ret rfl))))
theorem f_150 {l1 x : Int} (ad : AD M) (h : ¬ x = 0) : pw (mX9_readText_150 126 l1 129 0 x M) (fun q => q.1 = 0) := by
  unfold mX9_readText_150
  refine p_aS (fun M1 s1 => ?_)
  have a1 : AD M1 := ad.of (fun j hj => st_ne s1 (by omega))
  have h1 : ¬ mG M1 129 0 = 0 := by rw [st_eq s1]; exact h
  refine p_gFc (ji := 4) rfl (a1 4 (by decide)) (p_if (fun _ => p_gF (ji := 35) rfl (fun _ _ => f_182 a1 h1)) (fun _ => ?_))
  refine p_gF (ji := 36) rfl (fun _ _ => p_if (fun _ => f_182 a1 h1) (fun _ => ?_))
  exact p_gF (ji := 37) rfl (fun _ _ => f_182 a1 h1)
theorem f_133 {l1 : Int} (ad : AD M) (h : l1 = 0 ∨ ¬ mG M 126 36 = 0) : pw (mX9_readText_133 126 l1 M) (fun q => q.1 = 0) := by
  unfold mX9_readText_133
  refine p_gFc (ji := 3) rfl (ad 3 (by decide)) (p_if (fun _ => f_150 ad (by decide)) (fun c => ?_))
  exact p_gF (ji := 36) rfl (fun v hv => f_150 ad (by rw [← hv]; exact h.resolve_left c))
theorem f_112 {l1 : Int} (ad : AD M) (h : l1 = 0 ∨ ¬ mG M 126 36 = 0) : pw (mX9_readText_112 126 l1 M) (fun q => q.1 = 0) := by
  unfold mX9_readText_112
  refine p_if (fun c => f_133 ad (Or.inl c)) (fun c => p_gF (ji := 32) rfl (fun _ _ => p_if (fun _ => f_133 ad h) (fun _ => ?_)))
  exact p_gF (ji := 31) rfl (fun _ _ => p_pF (ji := 35) rfl (fun M1 s1 => f_133 (ad.of (fun j hj => st_ne s1 (fun z => (adc_in hj).1 (by omega)))) (Or.inl rfl)))
theorem f_74 : ∀ (fu : Nat) (l1 : Int) (M : Mem), AD M → (l1 = 0 ∨ ¬ mG M 126 36 = 0) → pw (mX9_readText_74 fu 126 l1 M) (fun q => q.1 = 0) := by
  intro fu
  induction fu with
  | zero => intro l1 M _ _; exact p_none
  | succ fu ih =>
    intro l1 M ad h
    show pw (bX9_readText_74 (mX9_readText_74 fu) 126 l1 M) _
    unfold bX9_readText_74
    refine p_if (fun c => f_112 ad (Or.inl c)) (fun c => ?_)
    have hl := h.resolve_left c
    refine p_gF (ji := 38) rfl (fun _ _ => p_if (fun _ => f_112 ad h) (fun _ => ?_))
    refine p_gF (ji := 38) rfl (fun _ _ => p_pF (ji := 38) rfl (fun M1 s1 => ?_))
    have f1 : FL9 M1 := FL9.st ⟨ad, hl⟩ (Or.inr ⟨rfl, by decide⟩) s1
    refine p_gF (ji := 39) rfl (fun _ _ => p_gF (ji := 38) rfl (fun _ _ => p_aG (fun _ _ => p_gK (p_call (f_readPart f1) (fun r M2 f2 => ?_)))))
    replace f2 : FL9 M2 := f2
    exact ih r M2 f2.1 (Or.inr f2.2)
/-- the loop ends with a fault, or with all rows and no token left -/
theorem r_74 : ∀ (fu : Nat) (S : RS) (M : Mem), R2 E S.b M → D9 S.ps M → W9 S.ws M → mG M 126 40 = (S.ps.length : Int) → (∀ x, x ∈ S.ws → ScR x.1 x.2) → S.ps.length ≤ 40 → S.ws.length ≤ S.ps.length + 1 → ∀ k : Nat, 42 ≤ k + S.ps.length → pw (mX9_readText_74 fu 126 1 M) (fun q => (q.1 = 0 ∧ (E.rLoop k S).bind E.rEnd = none) ∨ (q.1 = 1 ∧ ∃ ps, (E.rLoop k S).bind E.rEnd = some ps ∧ D9 ps q.2 ∧ mG q.2 126 40 = (ps.length : Int) ∧ ps.length ≤ 40)) := by
  intro fu
  induction fu with
  | zero => intro S M _ _ _ _ _ _ _ k _; exact p_none
  | succ fu ih =>
    intro S M h d w hc hs hp hw k hk
    obtain ⟨b, ws, ps⟩ := S
    replace h : R2 E b M := h
    replace d : D9 ps M := d
    replace w : W9 ws M := w
    replace hc : mG M 126 40 = (ps.length : Int) := hc
    replace hs : ∀ x, x ∈ ws → ScR x.1 x.2 := hs
    replace hp : ps.length ≤ 40 := hp
    replace hk : 42 ≤ k + ps.length := hk
    replace hw : ws.length ≤ ps.length + 1 := hw
    show pw (bX9_readText_74 (mX9_readText_74 fu) 126 1 M) _
    unfold bX9_readText_74
    obtain ⟨k, rfl⟩ : ∃ m, k = m + 1 := ⟨k - 1, by omega⟩
    refine p_it0 (show ¬ (1 : Int) = 0 by decide) (p_gFc (ji := 38) rfl w.1 ?_)
    cases ws with
    | nil =>
      have e1 : E.rLoop (k + 1) ⟨b, [], ps⟩ = some ⟨b, [], ps⟩ := if_pos rfl
      refine p_it1 (by show ((0 : Nat) : Int) ≤ 0; decide) ?_
      unfold mX9_readText_112
      obtain ⟨_, _, _, t2, t3⟩ := id h
      refine p_it0 (show ¬ (1 : Int) = 0 by decide) (p_gF (ji := 32) rfl (fun s hs => p_if (fun c => ?_) (fun c => ?_)))
      · have nb : E.n ≤ b := by
          rcases t3 with ⟨t, _⟩ | ⟨_, t, _⟩ | ⟨_, t4, t5⟩ | ⟨_, _, _, t⟩
          · exact t
          · exfalso; omega
          · exfalso
            by_cases l : E.de b - b ≤ 4
            · have := (t4 l).1; omega
            · have := t5 l; omega
          · exfalso; omega
        have hE : (E.rLoop (k + 1) ⟨b, [], ps⟩).bind E.rEnd = some ps := by rw [e1]; exact if_pos nb
        rw [hE]
        unfold mX9_readText_133
        refine p_gFc (ji := 3) rfl (h.1.1 3 (by decide)) (p_it0 (show ¬ (1 : Int) = 0 by decide) (p_gFc (ji := 36) rfl h.2.1 ?_))
        unfold mX9_readText_150
        refine p_aS (fun M1 s1 => ?_)
        replace s1 : M1 = mS M 129 0 0 := s1
        have a1 : AD M1 := h.1.1.of (fun j hj => st_ne s1 (by omega))
        refine p_gFc (ji := 4) rfl (a1 4 (by decide)) (p_it0 (show ¬ (1 : Int) = 0 by decide) (p_gFc (ji := 36) rfl ((st_ne s1 (by omega)).trans h.2.1) (p_it1 (by decide) ?_)))
        unfold mX9_readText_182
        refine p_aS (fun M2 s2 => ?_)
        replace s2 : M2 = mS M1 130 0 (-1) := s2
        refine p_gFc (ji := 3) (r := 129) rfl ((st_ne s2 (by omega)).trans (a1 3 (by decide))) (p_aGc ((st_ne s2 (by omega)).trans (st_eq s1)) (p_it1 rfl (p_ret (Or.inr ⟨rfl, ps, rfl, ?_, ?_, hp⟩))))
        · exact d.kp (fun c j c0 c1 _ => (st_ne s2 (by omega)).trans (st_ne s1 (by omega)))
        · exact (st_ne s2 (by omega)).trans ((st_ne s1 (by omega)).trans hc)
      · have nb : ¬ E.n ≤ b := fun y => by
          rcases t3 with ⟨_, t⟩ | ⟨t, _⟩ | ⟨t, _⟩ | ⟨t, _⟩
          · exact c (hs.symm.trans t)
          · have := RE.letT t; omega
          · have := RE.digT t; omega
          · omega
        have hE : (E.rLoop (k + 1) ⟨b, [], ps⟩).bind E.rEnd = none := by rw [e1]; exact if_neg nb
        rw [hE]
        refine p_gF (ji := 31) rfl (fun _ _ => p_pF (ji := 35) rfl (fun M1 s1 => p_mono (f_133 (h.1.1.of (fun j hj => st_ne s1 (fun z => (adc_in hj).1 (by omega)))) (Or.inl rfl)) (fun q z => Or.inl ⟨z, rfl⟩)))
    | cons x ws =>
      obtain ⟨sc, bo⟩ := x
      have hsc : ScR sc bo := hs (sc, bo) (List.mem_cons_self ..)
      rw [List.length_cons] at hw
      have w1 : mG M 126 38 = (ws.length : Int) + 1 := w.1.trans (by simp)
      have w0 := w.2 0 (sc, bo) rfl
      rw [List.length_cons, show (((ws.length + 1 : Nat) : Int) - 1 - ((0 : Nat) : Int)) = (ws.length : Int) by omega] at w0
      have e1 : E.rLoop (k + 1) ⟨b, (sc, bo) :: ws, ps⟩ = (E.rPart ⟨b, (sc, bo) :: ws, ps⟩).bind (E.rLoop k) := if_neg (by intro y; cases y)
      refine p_it0 (by rw [List.length_cons]; omega) (p_gFc (ji := 38) rfl w1 (p_pF (ji := 38) rfl (fun M1 s1 => ?_)))
      rw [wI_id (x := (ws.length : Int) + 1 - 1) (by omega) (by omega)] at s1
      have h1 : R2 E b M1 := h.kp (fun c j _ hj => st_ne s1 (by omega))
      have d1 : D9 ps M1 := d.kp (fun c j _ _ _ => st_ne s1 (by omega))
      have w2 : W9 ws M1 := ⟨(st_eq s1).trans (by omega), fun k x hx => by
        have := w.2 (k + 1) x hx
        rw [List.length_cons, show (((ws.length + 1 : Nat) : Int) - 1 - ((k + 1 : Nat) : Int)) = (ws.length : Int) - 1 - (k : Int) by omega] at this
        exact (st_ne s1 (by omega)).trans this⟩
      have hc1 : mG M1 126 40 = (ps.length : Int) := (st_ne s1 (by omega)).trans hc
      refine p_gFc (ji := 39) rfl (ad42 h1.1.1).2.2.2.2.1 (p_gFc (ji := 38) rfl w2.1 (p_aGc ((st_ne s1 (by omega)).trans w0) (p_gK ?_)))
      refine p_call (p_and (pt_readPart h1.1.1 (by rw [w2.1]; omega) (by omega)) (r_readPart h1 d1 w2 hc1 hp (by omega) hsc)) (fun r M2 g => ?_)
      obtain ⟨⟨Mx, z0, _, _, _, _, zb, _⟩, g⟩ := g
      have ax : AD Mx := h1.1.1.of (fun j hj => z0 126 j (fun z => by have := adc_in hj; omega))
      have a2 : AD M2 := zb.ad ax
      rcases g with ⟨g, en⟩ | ⟨S', e, r1, c', d', w', n'⟩
      · have hE : (E.rLoop (k + 1) ⟨b, (sc, bo) :: ws, ps⟩).bind E.rEnd = none := by rw [e1, en]; rfl
        rw [hE]
        exact p_mono (f_74 fu r M2 a2 g) (fun q z => Or.inl ⟨z, rfl⟩)
      · replace r1 : r = 1 := r1
        subst r1
        have ok := rPart_ok (S := ⟨b, (sc, bo) :: ws, ps⟩) rfl e hsc (fun x hx => hs x (List.mem_cons_of_mem _ hx))
        obtain ⟨o1, o2, o3⟩ := ok
        replace o2 : S'.ws.length ≤ ws.length + 2 := o2
        replace o3 : S'.ps.length = ps.length + 1 := o3
        have lt : ps.length < 40 := by
          by_cases y : ps.length < 40
          · exact y
          · exfalso
            replace e : (if 40 ≤ ps.length then none else _) = some S' := e
            rw [if_pos (by omega)] at e; cases e
        have hE : (E.rLoop (k + 1) ⟨b, (sc, bo) :: ws, ps⟩).bind E.rEnd = (E.rLoop k S').bind E.rEnd := by rw [e1, e]; rfl
        rw [hE]
        exact ih S' M2 c' d' w' n' o1 (by omega) (by omega) k (by omega)
/-- what the reference reads of is as E says -/
def E9 (E : RE) (M : Mem) : Prop := mG M 128 0 = E.n ∧ (0 ≤ E.n ∧ E.n ≤ 400) ∧ (∀ i, 0 ≤ i → i < E.n → iand (mG M 127 i) 255 = E.t i) ∧ mG M 134 0 = E.nr ∧ (0 ≤ E.nr ∧ E.nr ≤ 4) ∧ ∀ r, 0 ≤ r → r < E.nr → mG M 135 r = E.k1 r ∧ mG M 136 r = E.k2 r
theorem r_readText (ad : AD M) (he : E9 E M) : pw (mX9_readText 126 M) (fun q => (q.1 = 0 ∧ E.rText = none) ∨ (q.1 = 1 ∧ ∃ ps, E.rText = some ps ∧ D9 ps q.2 ∧ mG q.2 126 40 = (ps.length : Int) ∧ ps.length ≤ 40)) := by
  obtain ⟨e1, e2, e3, e4, e5, e6⟩ := he
  have adk : ∀ {M1 M2 : Mem} {c i x : Int}, AD M1 → (¬ c = 126 ∨ ¬ adc i ≠ 0) → M2 = mS M1 c i x → AD M2 := fun a h hM => a.of (fun j hj => st_ne hM (fun z => by
    rcases h with h | h
    · exact h z.1.symm
    · exact h (by rw [← z.2]; exact hj)))
  unfold mX9_readText
  refine p_gFc (ji := 2) rfl (ad 2 (by decide)) (p_aGc e1 (p_pF (ji := 30) rfl (fun M1 s1 => ?_)))
  have a1 := adk ad (Or.inr (by decide)) s1
  refine p_gFc (ji := 2) rfl (a1 2 (by decide)) (p_aS (fun M2 s2 => ?_))
  replace s2 : M2 = mS M1 128 0 0 := s2
  have a2 := adk a1 (Or.inl (by decide)) s2
  refine p_gFc (ji := 3) rfl (a2 3 (by decide)) (p_aS (fun M3 s3 => ?_))
  replace s3 : M3 = mS M2 129 0 0 := s3
  have a3 := adk a2 (Or.inl (by decide)) s3
  refine p_gFc (ji := 4) rfl (a3 4 (by decide)) (p_aS (fun M4 s4 => ?_))
  replace s4 : M4 = mS M3 130 0 (-1) := s4
  have a4 := adk a3 (Or.inl (by decide)) s4
  refine p_pF (ji := 29) rfl (fun M5 s5 => p_pF (ji := 35) rfl (fun M6 s6 => p_pF (ji := 36) rfl (fun M7 s7 => p_pF (ji := 37) rfl (fun M8 s8 => p_pF (ji := 38) rfl (fun M9 s9 => p_pF (ji := 40) rfl (fun Ma sa => p_gK ?_))))))
  have aa := adk (adk (adk (adk (adk (adk a4 (Or.inr (by decide)) s5) (Or.inr (by decide)) s6) (Or.inr (by decide)) s7) (Or.inr (by decide)) s8) (Or.inr (by decide)) s9) (Or.inr (by decide)) sa
  have ga : ∀ c j : Int, ¬ (c = 126 ∧ 29 ≤ j ∧ j ≤ 40) → ¬ (128 ≤ c ∧ c ≤ 130) → mG Ma c j = mG M c j := fun c j x y => by
    rw [st_ne sa (by omega), st_ne s9 (by omega), st_ne s8 (by omega), st_ne s7 (by omega), st_ne s6 (by omega), st_ne s5 (by omega), st_ne s4 (by omega), st_ne s3 (by omega), st_ne s2 (by omega), st_ne s1 (by omega)]
  have g38 : mG Ma 126 38 = 0 := (st_ne sa (by omega)).trans (st_eq s9)
  have g36 : mG Ma 126 36 = 0 := by rw [st_ne sa (by omega), st_ne s9 (by omega), st_ne s8 (by omega)]; exact st_eq s7
  have g29 : mG Ma 126 29 = 0 := by rw [st_ne sa (by omega), st_ne s9 (by omega), st_ne s8 (by omega), st_ne s7 (by omega), st_ne s6 (by omega)]; exact st_eq s5
  have g30 : mG Ma 126 30 = E.n := by
    rw [st_ne sa (by omega), st_ne s9 (by omega), st_ne s8 (by omega), st_ne s7 (by omega), st_ne s6 (by omega), st_ne s5 (by omega), st_ne s4 (by omega), st_ne s3 (by omega), st_ne s2 (by omega)]; exact st_eq s1
  have w0 : W9 [] Ma := ⟨g38, fun k x hx => by cases hx⟩
  refine p_call (r_wait (sc := 0) aa w0 (by decide)) (fun _ Mb g => p_gK ?_)
  obtain ⟨gb, wb⟩ := g
  replace gb : ∀ c j : Int, ¬ (c = 126 ∧ j = 38) → ¬ c = 155 → mG Mb c j = mG Ma c j := gb
  replace wb : W9 [((0 : Int), (255 : Int))] Mb := wb
  have ab : AD Mb := aa.of (fun j hj => gb 126 j (fun z => (adc_in hj).1 (by omega)) (by decide))
  have rb : R9 E Mb := by
    refine ⟨ab, (gb 126 30 (by omega) (by decide)).trans g30, e2, fun i i0 i1 => ?_, ?_, e5, fun r r0 r1 => ?_⟩
    · rw [gb 127 i (by omega) (by decide), ga 127 i (by omega) (by omega)]; exact e3 i i0 i1
    · rw [gb 134 0 (by omega) (by decide), ga 134 0 (by omega) (by omega)]; exact e4
    · rw [gb 135 r (by omega) (by decide), ga 135 r (by omega) (by omega), gb 136 r (by omega) (by decide), ga 136 r (by omega) (by omega)]; exact e6 r r0 r1
  refine p_call (r_token rb ((gb 126 29 (by omega) (by decide)).trans g29) ⟨by decide, e2.1⟩) (fun _ Mc g => ?_)
  obtain ⟨ac, tc⟩ := g
  replace ac : AF9 Mb Mc := ac
  have r2 : R2 E (E.sk 0) Mc := ⟨ac.r9 rb, (ac 126 36 (by omega)).trans ((gb 126 36 (by omega) (by decide)).trans g36), tc⟩
  have tx : E.rText = (E.rLoop 42 ⟨E.sk 0, [(0, 255)], []⟩).bind E.rEnd := rfl
  rw [tx]
  refine r_74 FU ⟨E.sk 0, [(0, 255)], []⟩ Mc r2 (fun k r hr => by cases hr) (ac.w9 wb) ((ac 126 40 (by omega)).trans ((gb 126 40 (by omega) (by decide)).trans (st_eq sa))) (fun x hx => ?_) (by show 0 ≤ 40; decide) (by show 1 ≤ 0 + 1; decide) 42 (by show 42 ≤ 42 + 0; decide)
  replace hx : x ∈ [((0 : Int), (255 : Int))] := hx
  rw [List.mem_singleton] at hx
  subst hx; exact ScR.start
end
/-- the reference's text t holds these rows -/
def RX (r : Row) (k : Int) (M : Mem) : Prop := mG M 142 k = r.r0 ∧ ((r.r0 ≤ 3 ∨ 8 ≤ r.r0) → mG M 143 k = r.r1) ∧ ((r.r0 ≤ 3 ∨ r.r0 = 8 ∨ r.r0 = 9 ∨ 11 ≤ r.r0) → mG M 144 k = r.r2) ∧ ((r.r0 ≤ 3 ∨ r.r0 = 9 ∨ r.r0 = 12) → mG M 145 k = r.r3)
def RT (ps : List Row) (t : Int) (M : Mem) : Prop := mG M 141 t = (ps.length : Int) ∧ ∀ (k : Nat) (r : Row), ps[k]? = some r → RX r (40 * t + (k : Int)) M
theorem RT.of {ps : List Row} {t t' : Int} {M M' : Mem} (h : RT ps t M) (hl : ps.length ≤ 40) (g1 : mG M' 141 t' = mG M 141 t) (g : ∀ c j : Int, 142 ≤ c → c ≤ 145 → 0 ≤ j → j < 40 → mG M' c (40 * t' + j) = mG M c (40 * t + j)) : RT ps t' M' := by
  refine ⟨g1.trans h.1, fun k r hr => ?_⟩
  have lt := get_lt hr
  obtain ⟨a, b, c, d⟩ := h.2 k r hr
  exact ⟨(g _ _ (by decide) (by decide) (by omega) (by omega)).trans a, fun z => (g _ _ (by decide) (by decide) (by omega) (by omega)).trans (b z), fun z => (g _ _ (by decide) (by decide) (by omega) (by omega)).trans (c z), fun z => (g _ _ (by decide) (by decide) (by omega) (by omega)).trans (d z)⟩
theorem KT.rt {ps : List Row} {t : Int} {M M' : Mem} (h : KT t (mG M 126 40) M M') (d : D9 ps M) (hn : mG M 126 40 = (ps.length : Int)) : RT ps t M' := by
  obtain ⟨_, _, g⟩ := h
  refine ⟨by rw [g, if_pos ⟨rfl, rfl⟩]; exact hn, fun k r hr => ?_⟩
  have lt := get_lt hr
  have gg : ∀ c : Int, 142 ≤ c → c ≤ 145 → mG M' c (40 * t + (k : Int)) = mG M (c + 14) (k : Int) := fun c c0 c1 => by
    rw [g, if_neg (by omega), if_pos (by omega), show 40 * t + (k : Int) - 40 * t = (k : Int) by omega]
  obtain ⟨a, b, c, e⟩ := d k r hr
  exact ⟨(gg 142 (by decide) (by decide)).trans a, fun z => (gg 143 (by decide) (by decide)).trans (b z), fun z => (gg 144 (by decide) (by decide)).trans (c z), fun z => (gg 145 (by decide) (by decide)).trans (e z)⟩
end
