/-! ===== the reference reads a part ===== -/
/-- a row of the draft, as far as it is asked for -/
def RW (r : Row) (k : Int) (M : Mem) : Prop := mG M 156 k = r.r0 ∧ ((r.r0 ≤ 3 ∨ 8 ≤ r.r0) → mG M 157 k = r.r1) ∧ ((r.r0 ≤ 3 ∨ r.r0 = 8 ∨ r.r0 = 9 ∨ 11 ≤ r.r0) → mG M 158 k = r.r2) ∧ ((r.r0 ≤ 3 ∨ r.r0 = 9 ∨ r.r0 = 12) → mG M 159 k = r.r3)
def D9 (ps : List Row) (M : Mem) : Prop := ∀ (k : Nat) (r : Row), ps[k]? = some r → RW r (k : Int) M
def W9 (ws : List (Int × Int)) (M : Mem) : Prop := mG M 126 38 = (ws.length : Int) ∧ ∀ (k : Nat) (x : Int × Int), ws[k]? = some x → mG M 155 ((ws.length : Int) - 1 - (k : Int)) = x.2
theorem get_lt {α : Type} {L : List α} {k : Nat} {x : α} (h : L[k]? = some x) : k < L.length := by
  by_cases y : k < L.length
  · exact y
  · rw [List.getElem?_eq_none (by omega)] at h; cases h
theorem RW.kp {r : Row} {k : Int} {M M' : Mem} (h : RW r k M) (g : ∀ c : Int, 156 ≤ c → c ≤ 159 → mG M' c k = mG M c k) : RW r k M' :=
  ⟨(g _ (by decide) (by decide)).trans h.1, fun z => (g _ (by decide) (by decide)).trans (h.2.1 z), fun z => (g _ (by decide) (by decide)).trans (h.2.2.1 z), fun z => (g _ (by decide) (by decide)).trans (h.2.2.2 z)⟩
theorem D9.kp {ps : List Row} {M M' : Mem} (d : D9 ps M) (g : ∀ c j : Int, 156 ≤ c → c ≤ 159 → j < (ps.length : Int) → mG M' c j = mG M c j) : D9 ps M' := fun k r hr =>
  (d k r hr).kp (fun c c0 c1 => g c _ c0 c1 (by have := get_lt hr; omega))
theorem D9.snoc {ps : List Row} {r : Row} {M : Mem} (d : D9 ps M) (h : RW r (ps.length : Int) M) : D9 (ps ++ [r]) M := fun k r' hr => by
  by_cases e : k < ps.length
  · rw [List.getElem?_append_left e] at hr; exact d k r' hr
  · have lt := get_lt hr
    rw [List.length_append] at lt
    replace lt : k < ps.length + 1 := lt
    have ek : k = ps.length := by omega
    subst ek
    rw [List.getElem?_append_right (Nat.le_refl _), Nat.sub_self] at hr
    have hr : r = r' := Option.some.inj hr
    subst hr; exact h
theorem W9.kp {ws : List (Int × Int)} {M M' : Mem} (w : W9 ws M) (g : ∀ c j : Int, (c = 126 ∧ j = 38) ∨ c = 155 → mG M' c j = mG M c j) : W9 ws M' :=
  ⟨(g 126 38 (Or.inl ⟨rfl, rfl⟩)).trans w.1, fun k x hx => (g 155 _ (Or.inr rfl)).trans (w.2 k x hx)⟩
theorem AF9.d9 {ps : List Row} {M M' : Mem} (a : AF9 M M') (d : D9 ps M) : D9 ps M' := d.kp (fun c j _ _ _ => a c j (by omega))
theorem AF9.w9 {ws : List (Int × Int)} {M M' : Mem} (a : AF9 M M') (w : W9 ws M) : W9 ws M' := w.kp (fun c j _ => a c j (by omega))
section
variable {E : RE} {M : Mem} {ps : List Row} {ws : List (Int × Int)} {b sc bo p : Int}
theorem R2.kp {M' : Mem} (h : R2 E b M) (g : ∀ c j : Int, c < 155 → ¬ (c = 126 ∧ (j = 35 ∨ j = 38 ∨ j = 40)) → mG M' c j = mG M c j) : R2 E b M' := by
  have f : ∀ j : Int, ¬ (j = 35 ∨ j = 38 ∨ j = 40) → mG M' 126 j = mG M 126 j := fun j hj => g 126 j (by decide) (fun z => hj z.2)
  obtain ⟨r, l, t1, t2, t3⟩ := h
  refine ⟨r.kp (r.1.of (fun j hj => f j (fun z => ?_))) (fun c j z => g c j (by omega) (by omega)), (f 36 (by decide)).trans l, ?_⟩
  · have := adc_in hj
    rcases z with z | z | z
    · omega
    · omega
    · omega
  · unfold RTok
    rw [f 31 (by decide), f 32 (by decide), f 29 (by decide), f 33 (by decide), f 34 (by decide)]
    exact ⟨t1, t2, t3⟩
/-- what a reader of a part leaves: a fault, or all as the specification says -/
def G9 (E : RE) (S : Option RS) (q : Int × Mem) : Prop := ((q.1 = 0 ∨ ¬ mG q.2 126 36 = 0) ∧ S = none) ∨ ∃ S', S = some S' ∧ q.1 = 1 ∧ R2 E S'.b q.2 ∧ D9 S'.ps q.2 ∧ W9 S'.ws q.2 ∧ mG q.2 126 40 = (S'.ps.length : Int)
theorem G9.mk {S : Option RS} (h : R2 E b M ∧ D9 ps M ∧ W9 ws M ∧ mG M 126 40 = (ps.length : Int)) (e : S = some ((b, ws, ps) : RS)) : G9 E S (1, M) := Or.inr ⟨(b, ws, ps), e, rfl, h⟩
theorem G9.of {S S' : Option RS} {q : Int × Mem} (h : G9 E S q) (e : S = S') : G9 E S' q := e ▸ h
/-- a part is being read: its number is p, its rows are to come -/
def B9 (E : RE) (b : Int) (ps : List Row) (ws : List (Int × Int)) (p : Int) (M : Mem) : Prop := R2 E b M ∧ D9 ps M ∧ W9 ws M ∧ mG M 126 40 = (ps.length : Int) + 1 ∧ p = (ps.length : Int)
theorem B9.af {b' : Int} {M' : Mem} (h : B9 E b ps ws p M) (a : AF9 M M') (r : R2 E b' M') : B9 E b' ps ws p M' := ⟨r, a.d9 h.2.1, a.w9 h.2.2.1, (a 126 40 (by omega)).trans h.2.2.2.1, h.2.2.2.2⟩
theorem B9.st {c x : Int} {M' : Mem} (h : B9 E b ps ws p M) (hc : 156 ≤ c) (hM : M' = mS M c p x) : B9 E b ps ws p M' := by
  obtain ⟨h1, h2, h3, h4, h5⟩ := h
  exact ⟨h1.kp (fun c' j hc' _ => st_ne hM (fun z => by omega)), h2.kp (fun c' j _ _ hj => st_ne hM (fun z => by omega)), h3.kp (fun c' j _ => st_ne hM (fun z => by omega)), (st_ne hM (fun z => by omega)).trans h4, h5⟩
theorem B9.ad (h : B9 E b ps ws p M) : AD M := h.1.1.1
theorem ad42 (h : AD M) : mG M 126 41 = 156 ∧ mG M 126 42 = 157 ∧ mG M 126 43 = 158 ∧ mG M 126 44 = 159 ∧ mG M 126 39 = 155 ∧ mG M 126 9 = 135 ∧ mG M 126 10 = 136 := ⟨h 41 (by decide), h 42 (by decide), h 43 (by decide), h 44 (by decide), h 39 (by decide), h 9 (by decide), h 10 (by decide)⟩
theorem B9.done {r : Row} (h : B9 E b ps ws p M) (hr : RW r p M) : R2 E b M ∧ D9 (ps ++ [r]) M ∧ W9 ws M ∧ mG M 126 40 = ((ps ++ [r]).length : Int) := by
  obtain ⟨h1, h2, h3, h4, h5⟩ := h
  subst h5
  exact ⟨h1, h2.snoc hr, h3, by rw [h4, List.length_append]; rfl⟩
/-- what waits grows by one -/
theorem r_wait {x : Int} (ha : AD M) (w : W9 ws M) (hl : ws.length < 402) : pw (mX9_wait 126 x M) (fun q => (∀ c j : Int, ¬ (c = 126 ∧ j = 38) → ¬ c = 155 → mG q.2 c j = mG M c j) ∧ W9 ((sc, x) :: ws) q.2) := by
  unfold mX9_wait
  refine p_gFc (ji := 39) rfl (ad42 ha).2.2.2.2.1 (p_gFc (ji := 38) rfl w.1 (p_aS (fun M1 h1 => ?_)))
  refine p_gFc (ji := 38) rfl ((st_ne h1 (by omega)).trans w.1) (p_pF (ji := 38) rfl (fun M2 h2 => p_ret ?_))
  rw [wI_id (x := (ws.length : Int) + 1) (by omega) (by omega)] at h2
  refine ⟨fun c j x y => (st_ne h2 x).trans (st_ne h1 (fun z => y z.1)), (st_eq h2).trans (by simp), fun k x hx => ?_⟩
  rw [List.length_cons]
  cases k with
  | zero =>
    have hx : (sc, _) = x := Option.some.inj hx
    subst hx
    rw [show (((ws.length + 1 : Nat) : Int) - 1 - ((0 : Nat) : Int)) = (ws.length : Int) by omega]
    exact (st_ne h2 (by omega)).trans (st_eq h1)
  | succ k =>
    replace hx : ws[k]? = some x := hx
    have lt := get_lt hx
    rw [show (((ws.length + 1 : Nat) : Int) - 1 - ((k + 1 : Nat) : Int)) = (ws.length : Int) - 1 - (k : Int) by omega]
    exact (st_ne h2 (by omega)).trans ((st_ne h1 (by omega)).trans (w.2 k x hx))
theorem r_49 {a cnt : Int} (h : B9 E b ps ws p M) (ha : mG M 156 p = a) (ha3 : a ≤ 3) (hc : mG M 159 p = cnt) (hwl : ws.length < 402) : pw (mX9_readBinder_49 126 p bo M) (G9 E (E.rBind2 a cnt sc bo ws ps b)) := by
  have un : E.rBind2 a cnt sc bo ws ps b = if varW (E.wd b) = -1 then none else if kindW (E.wd (E.sk (E.we b))) = -1 then none else some ⟨E.sk (E.we (E.sk (E.we b))), (bindC sc (cv (varW (E.wd b))) (kindW (E.wd (E.sk (E.we b)))) (ishr sc 16), bindR bo (varW (E.wd b)) (kindW (E.wd (E.sk (E.we b))))) :: ws, ps ++ [⟨a, cnt, ishr sc 16, kindW (E.wd (E.sk (E.we b))), a, varW (E.wd b), kindW (E.wd (E.sk (E.we b))), cnt⟩]⟩ := rfl
  unfold mX9_readBinder_49
  refine p_gK (p_call (r_varOf h.1) (fun v M1 g => ?_))
  obtain ⟨e, hv⟩ := g
  replace e : M1 = M := e
  replace hv : v = varW (E.wd b) := hv
  subst e
  refine p_if (fun c => p_gF (ji := 31) rfl (fun _ _ => p_pF (ji := 35) rfl (fun M2 _ => p_ret (Or.inl ⟨Or.inl rfl, ?_⟩)))) (fun c => ?_)
  · rw [un, if_pos (hv.symm.trans c)]
  replace c : ¬ v = -1 := c
  refine p_gK (p_call (r_word h.1 (varW_ne (by rw [← hv]; exact c))) (fun _ M2 g => p_gK ?_))
  obtain ⟨a2, r2⟩ := g
  have h2 := h.af a2 r2
  refine p_call (r_kindOf h2.1) (fun k M3 g => ?_)
  obtain ⟨e, hk⟩ := g
  replace e : M3 = M2 := e
  replace hk : k = kindW (E.wd (E.sk (E.we b))) := hk
  subst e
  refine p_if (fun c2 => p_gF (ji := 31) rfl (fun _ _ => p_pF (ji := 35) rfl (fun M2 _ => p_ret (Or.inl ⟨Or.inl rfl, ?_⟩)))) (fun c2 => ?_)
  · rw [un, if_neg (by rw [← hv]; exact c), if_pos (hk.symm.trans c2)]
  replace c2 : ¬ k = -1 := c2
  refine p_gK (p_call (r_word h2.1 (kindW_ne (by rw [← hk]; exact c2))) (fun _ M4 g => ?_))
  obtain ⟨a4, r4⟩ := g
  have h4 := h2.af a4 r4
  have a24 := a2.tr a4
  refine p_gFc (ji := 42) rfl (ad42 h4.ad).2.1 (p_aS (fun M5 s5 => ?_))
  have h5 := h4.st (by decide) s5
  refine p_gFc (ji := 43) rfl (ad42 h5.ad).2.2.1 (p_aS (fun M6 s6 => p_gK ?_))
  have h6 := h5.st (by decide) s6
  refine p_call (r_wait (sc := bindC sc (cv v) k (ishr sc 16)) h6.ad h6.2.2.1 hwl) (fun _ M7 g => p_ret (Or.inr ⟨⟨E.sk (E.we (E.sk (E.we b))), (bindC sc (cv v) k (ishr sc 16), bindR bo v k) :: ws, ps ++ [⟨a, cnt, ishr sc 16, k, a, v, k, cnt⟩]⟩, ?_, rfl, ?_⟩))
  · rw [un, ← hv, ← hk, if_neg c, if_neg c2]
  obtain ⟨g, w7⟩ := g
  replace g : ∀ c j : Int, ¬ (c = 126 ∧ j = 38) → ¬ c = 155 → mG M7 c j = mG M6 c j := g
  replace w7 : W9 ((bindC sc (cv v) k (ishr sc 16), bindR bo v k) :: ws) M7 := w7
  have hrw : RW (⟨a, cnt, ishr sc 16, k, a, v, k, cnt⟩ : Row) p M6 := ⟨(st_ne s6 (by omega)).trans ((st_ne s5 (by omega)).trans ((a24 156 p (by omega)).trans ha)), fun _ => (st_ne s6 (by omega)).trans (st_eq s5), fun _ => st_eq s6, fun _ => (st_ne s6 (by omega)).trans ((st_ne s5 (by omega)).trans ((a24 159 p (by omega)).trans hc))⟩
  obtain ⟨x1, x2, x3, x4⟩ := h6.done hrw
  exact ⟨x1.kp (fun c j hc hj => g c j (by omega) (by omega)), x2.kp (fun c j c0 c1 _ => g c j (by omega) (by omega)), w7, (g 126 40 (by omega) (by decide)).trans x4⟩
theorem r_readBinder {a : Int} (h : B9 E b ps ws p M) (ha : mG M 156 p = a) (ha3 : 0 ≤ a ∧ a ≤ 3) (hwl : ws.length < 402) : pw (mX9_readBinder 126 p bo M) (G9 E ((E.rn a b).bind fun c => E.rBind2 a c.1 sc bo ws ps c.2)) := by
  unfold mX9_readBinder
  refine p_gFc (ji := 44) rfl (ad42 h.ad).2.2.2.1 (p_aS (fun M1 s1 => ?_))
  have h1 := h.st (by decide) s1
  have ha1 : mG M1 156 p = a := (st_ne s1 (by omega)).trans ha
  refine p_gFc (ji := 41) rfl (ad42 h1.ad).1 (p_aGc ha1 (p_if (fun c => ?_) (fun c => ?_)))
  · have e : (E.rn a b) = some (0, b) := if_pos c
    rw [e]
    exact r_49 h1 ha1 ha3.2 (st_eq s1) hwl
  · have e : (E.rn a b) = if E.dig b = true ∧ E.de b - b ≤ 4 then some (E.val b (E.de b - b).toNat, E.sk (E.de b)) else none := if_neg c
    have hn := h.1.1.2.2.1
    obtain ⟨_, _, t1, t2, t3⟩ := h1.1
    refine p_gF (ji := 32) rfl (fun s hs => p_if (fun c3 => ?_) (fun c3 => ?_))
    · have t : E.dig b = true ∧ E.de b - b ≤ 4 ∧ mG M1 126 29 = E.de b ∧ mG M1 126 33 = E.val b (E.de b - b).toNat := by
        rcases t3 with ⟨_, t⟩ | ⟨_, t, _⟩ | ⟨t, t4, t5⟩ | ⟨_, _, _, t⟩
        · exfalso; omega
        · exfalso; omega
        · by_cases l : E.de b - b ≤ 4
          · exact ⟨t, l, (t4 l).2⟩
          · have := t5 l; exfalso; omega
        · exfalso; omega
      obtain ⟨d1, d2, d3, d4⟩ := t
      have lt := RE.digT d1
      obtain ⟨e1, e2, _, e4⟩ := E.de_spec b t2.1 hn.2
      have dn : E.de b ≤ E.n := by
        rcases e4 with e4 | e4 <;> omega
      refine p_gFc (ji := 44) rfl (ad42 h1.ad).2.2.2.1 (p_gFc (ji := 33) rfl d4 (p_aS (fun M2 s2 => p_gK ?_)))
      have h2 := h1.st (by decide) s2
      refine p_call (r_next h2.1 ((st_ne s2 (by omega)).trans d3) ⟨by omega, dn⟩) (fun _ M3 g => ?_)
      obtain ⟨a3, r3⟩ := g
      replace a3 : AF9 M2 M3 := a3
      have h3 := h2.af a3 r3
      rw [e, if_pos ⟨d1, d2⟩]
      exact r_49 h3 ((a3 156 p (by omega)).trans ((st_ne s2 (by omega)).trans ha1)) ha3.2 ((a3 159 p (by omega)).trans (st_eq s2)) hwl
    · have nd : ¬ (E.dig b = true ∧ E.de b - b ≤ 4) := fun y => by
        rcases t3 with ⟨t, _⟩ | ⟨t, _⟩ | ⟨t, t4, t5⟩ | ⟨_, _, t, _⟩
        · have := RE.digT y.1; omega
        · have := RE.digT y.1; have := RE.letT t; omega
        · exact c3 (hs.symm.trans (t4 y.2).1)
        · rw [t] at y; cases y.1
      refine p_gF (ji := 31) rfl (fun _ _ => p_pF (ji := 35) rfl (fun M2 _ => p_ret (Or.inl ⟨Or.inl rfl, ?_⟩)))
      rw [e, if_neg nd]; rfl
theorem r_readSame (h : B9 E (E.sk (E.we b)) ps ws p M) (ha : mG M 156 p = 8) : pw (mX9_readSame 126 p bo M) (G9 E (E.rSame sc bo ws ps b)) := by
  have un : E.rSame sc bo ws ps b = (E.rv bo (-1) (E.sk (E.we b))).bind fun x => (E.rv bo (bnd bo x.1) x.2).bind fun y => some ⟨y.2, ws, ps ++ [⟨8, 0, slt sc x.1, slt sc y.1, 8, x.1, y.1, 0⟩]⟩ := rfl
  have neg : ∀ (x v : Int) (M1 M2 : Mem), AD M1 → M2 = mS M1 158 p v → E.rSame sc bo ws ps b = none → (v = -1 ∨ ¬ mG M1 126 36 = 0) → pw ((gF 9 43 M2 126).bind fun a46 => (aG 10 M2 a46 p).bind fun a50 => if a50 = (-1) then some ((0 : Int), M2) else some (1, M2)) (G9 E (E.rSame sc bo ws ps b)) := fun x v M1 M2 ad s e hv => by
    refine p_gFc (ji := 43) rfl ((st_ne s (by omega)).trans (ad42 ad).2.2.1) (p_aGc (st_eq s) (p_if (fun c => p_ret (Or.inl ⟨Or.inl rfl, e⟩)) (fun c => p_ret (Or.inl ⟨Or.inr ?_, e⟩))))
    rcases hv with hv | hv
    · exact absurd hv c
    · show ¬ mG M2 126 36 = 0
      rw [st_ne s (by omega)]; exact hv
  unfold mX9_readSame
  refine p_gFc (ji := 42) rfl (ad42 h.ad).2.1 (p_gK (p_call (r_readVar h.1) (fun v M1 g => p_aS (fun M2 s2 => ?_))))
  obtain ⟨tk, g⟩ := g
  replace tk : TK M M1 := tk
  have ad1 := tk.ad h.ad
  have g42 : ∀ j : Int, ¬ adc j = 0 → mG M2 126 j = adc j := fun j hj => (st_ne s2 (by omega)).trans (ad1 j hj)
  have ad2 : AD M2 := g42
  refine p_gFc (ji := 42) rfl (ad42 ad2).2.1 (p_aGc (st_eq s2) (p_if (fun c => p_ret ?_) (fun c => ?_)))
  · rcases g with ⟨_, g⟩ | ⟨v', b', _, g1, g2, _⟩
    · exact Or.inl ⟨Or.inl rfl, by rw [un, g]; rfl⟩
    · replace g2 : v = v' := g2
      replace c : v = -1 := c
      omega
  refine p_gFc (ji := 43) rfl (ad42 ad2).2.2.1 (p_gFc (ji := 42) rfl (ad42 ad2).2.1 (p_aGc (st_eq s2) (p_call r_bound (fun x M3 gb => p_gK ?_))))
  obtain ⟨e, hx⟩ := gb
  replace e : M3 = M2 := e
  replace hx : x = bnd bo v := hx
  subst e; subst hx
  rcases g with ⟨g1, g⟩ | ⟨v', b', g, g1, g2, g3, g4⟩
  · have g1 : ¬ mG M1 126 36 = 0 := by
      rcases g1 with g1 | g1
      · exact absurd g1 c
      · exact g1
    refine p_call pt_readVar (fun y M4 t => p_aS (fun M5 s5 => ?_))
    have t : TK M3 M4 := t.1
    exact neg 0 y M4 M5 (t.ad ad2) s5 (by rw [un, g]; rfl) (Or.inr (t.2 (by rw [st_ne s2 (by omega)]; exact g1)))
  · replace g2 : v = v' := g2
    subst g2
    replace g3 : AF9 M M1 := g3
    replace g4 : R2 E b' M1 := g4
    have h1 : B9 E b' ps ws p M1 := h.af g3 g4
    have h2 := h1.st (by decide) s2
    refine p_call (r_readVar h2.1) (fun y M4 gg => p_aS (fun M5 s5 => ?_))
    obtain ⟨tk4, gg⟩ := gg
    replace tk4 : TK M3 M4 := tk4
    rcases gg with ⟨k1, k⟩ | ⟨v2, b2, k, k1, k2, k3, k4⟩
    · refine neg 0 y M4 M5 (tk4.ad ad2) s5 ?_ k1
      rw [un, g]
      show (E.rv bo (bnd bo v) b').bind _ = none
      rw [k]; rfl
    · replace k2 : y = v2 := k2
      subst k2
      replace k3 : AF9 M3 M4 := k3
      have h4 : B9 E b2 ps ws p M4 := h2.af k3 k4
      have h5 := h4.st (by decide) s5
      refine p_gFc (ji := 43) rfl (ad42 h5.ad).2.2.1 (p_aGc (st_eq s5) (p_it0 (by omega) (p_ret (Or.inr ⟨⟨b2, ws, ps ++ [⟨8, 0, slt sc v, slt sc y, 8, v, y, 0⟩]⟩, ?_, rfl, h5.done ⟨?_, fun _ => ?_, fun _ => st_eq s5, fun z => ?_⟩⟩))))
      · rw [un, g]
        show (E.rv bo (bnd bo v) b').bind _ = _
        rw [k]; rfl
      · exact (st_ne s5 (by omega)).trans ((k3 156 p (by omega)).trans ((st_ne s2 (by omega)).trans ((g3 156 p (by omega)).trans ha)))
      · exact (st_ne s5 (by omega)).trans ((k3 157 p (by omega)).trans (st_eq s2))
      · replace z : (8 : Int) ≤ 3 ∨ (8 : Int) = 9 ∨ (8 : Int) = 12 := z
        omega
end
