/-! ===== the reference's words, variables ===== -/
section
variable {E : RE} {M : Mem}
/-- no fault is told; the token at b is taken -/
def R2 (E : RE) (b : Int) (M : Mem) : Prop := R9 E M ∧ mG M 126 36 = 0 ∧ RTok E b M
theorem R2.wd {b : Int} (h : R2 E b M) : (mG M 126 32 = 2 ∧ E.let' b = true ∧ mG M 126 29 = E.we b ∧ mG M 126 34 = (if (E.wd b).length ≤ 8 then pk (E.wd b) else 0)) ∨ (¬ mG M 126 32 = 2 ∧ E.wd b = []) := by
  obtain ⟨r, _, _, hb, t⟩ := h
  have hn := r.2.2.1
  rcases t with ⟨t1, t2⟩ | ⟨t1, t2, t3⟩ | ⟨t1, t2, t3⟩ | ⟨t1, t2, t3, t4⟩
  · exact Or.inr ⟨by omega, RE.wd_nil hb.1 hn.2 (decide_eq_false (by omega))⟩
  · exact Or.inl ⟨t2, t1, t3⟩
  · have g := RE.digT t1
    refine Or.inr ⟨?_, RE.wd_nil hb.1 hn.2 (decide_eq_false (by omega))⟩
    by_cases c : E.de b - b ≤ 4
    · have := (t2 c).1; omega
    · have := t3 c; omega
  · exact Or.inr ⟨by omega, RE.wd_nil hb.1 hn.2 t2⟩
theorem wd_ok {b : Int} (h0 : 0 ≤ b) (hn : E.n ≤ 400) : okB (E.wd b) := by
  obtain ⟨w1, w2, _⟩ := E.we_spec b h0 hn
  rw [wd_by (rfl : E.we b = E.we b)]
  exact RE.by_ok (fun i i0 i1 => w2 i i0 (by omega))
theorem r_isw {β : Type} {Q : β → Prop} {b w : Int} {L : List Int} {f : Int × Mem → Option β} (h : R2 E b M) (hw : w = pk L) (h5 : ¬ L = [] ∧ L.length ≤ 8 ∧ okB L) (k1 : E.wd b = L → pw (f (1, M)) Q) (k0 : ¬ E.wd b = L → pw (f (0, M)) Q) : pw ((gK 9 M 126).bind fun _ => (mX9_isWord 126 w M).bind f) Q := by
  have hb := h.2.2.2.1
  have hn := h.1.2.2.1
  refine p_gK ?_
  unfold mX9_isWord
  refine p_bindg (fun Q1 hQ1 => ?_)
  rcases h.wd with ⟨h1, h2, h3, h4⟩ | ⟨h1, h2⟩
  · refine p_gFc (ji := 32) rfl h1 (p_it1 rfl (p_gFc (ji := 34) rfl h4 (p_if (fun c => p_ret (hQ1 _ (k1 ?_))) (fun c => p_ret (hQ1 _ (k0 ?_))))))
    · have c := (lcmp_0 _ _).mp c
      by_cases l : (E.wd b).length ≤ 8
      · rw [if_pos l, hw] at c
        exact pk_inj (wd_ok hb.1 hn.2) h5.2.2 c
      · rw [if_neg l, hw] at c
        have := pk_pos h5.2.2 h5.1
        omega
    · intro e
      refine c ((lcmp_0 _ _).mpr ?_)
      rw [e, if_pos h5.2.1, hw]
  · refine p_gF (ji := 32) rfl (fun v hv => p_it0 (by omega) (p_ret (hQ1 _ (k0 (fun e => h5.1 (e.symm.trans h2))))))
theorem r_actOf {b : Int} (h : R2 E b M) : pw (mX9_actOf 126 M) (fun q => q.2 = M ∧ q.1 = actW (E.wd b)) := by
  unfold mX9_actOf
  refine r_isw (L := [97, 108, 108]) h (by decide +kernel) ⟨by decide, by decide, by unfold okB; decide⟩ (fun e => p_it0 (show ¬ (1 : Int) = 0 by decide) (p_ret ⟨rfl, by show (0 : Int) = _; rw [e]; decide⟩)) (fun h0 => p_it1 (show (0 : Int) = 0 from rfl) ?_)
  refine r_isw (L := [115, 111, 109, 101]) h (by decide +kernel) ⟨by decide, by decide, by unfold okB; decide⟩ (fun e => p_it0 (show ¬ (1 : Int) = 0 by decide) (p_ret ⟨rfl, by show (1 : Int) = _; rw [e]; decide⟩)) (fun h1 => p_it1 (show (0 : Int) = 0 from rfl) ?_)
  refine r_isw (L := [108, 101, 97, 115, 116]) h (by decide +kernel) ⟨by decide, by decide, by unfold okB; decide⟩ (fun e => p_it0 (show ¬ (1 : Int) = 0 by decide) (p_ret ⟨rfl, by show (2 : Int) = _; rw [e]; decide⟩)) (fun h2 => p_it1 (show (0 : Int) = 0 from rfl) ?_)
  refine r_isw (L := [109, 111, 115, 116]) h (by decide +kernel) ⟨by decide, by decide, by unfold okB; decide⟩ (fun e => p_it0 (show ¬ (1 : Int) = 0 by decide) (p_ret ⟨rfl, by show (3 : Int) = _; rw [e]; decide⟩)) (fun h3 => p_it1 (show (0 : Int) = 0 from rfl) ?_)
  refine r_isw (L := [110, 111, 116]) h (by decide +kernel) ⟨by decide, by decide, by unfold okB; decide⟩ (fun e => p_it0 (show ¬ (1 : Int) = 0 by decide) (p_ret ⟨rfl, by show (4 : Int) = _; rw [e]; decide⟩)) (fun h4 => p_it1 (show (0 : Int) = 0 from rfl) ?_)
  refine r_isw (L := [97, 110, 100]) h (by decide +kernel) ⟨by decide, by decide, by unfold okB; decide⟩ (fun e => p_it0 (show ¬ (1 : Int) = 0 by decide) (p_ret ⟨rfl, by show (5 : Int) = _; rw [e]; decide⟩)) (fun h5 => p_it1 (show (0 : Int) = 0 from rfl) ?_)
  refine r_isw (L := [111, 114]) h (by decide +kernel) ⟨by decide, by decide, by unfold okB; decide⟩ (fun e => p_it0 (show ¬ (1 : Int) = 0 by decide) (p_ret ⟨rfl, by show (6 : Int) = _; rw [e]; decide⟩)) (fun h6 => p_it1 (show (0 : Int) = 0 from rfl) ?_)
  refine r_isw (L := [105, 102]) h (by decide +kernel) ⟨by decide, by decide, by unfold okB; decide⟩ (fun e => p_it0 (show ¬ (1 : Int) = 0 by decide) (p_ret ⟨rfl, by show (7 : Int) = _; rw [e]; decide⟩)) (fun h7 => p_it1 (show (0 : Int) = 0 from rfl) ?_)
  refine r_isw (L := [115, 97, 109, 101]) h (by decide +kernel) ⟨by decide, by decide, by unfold okB; decide⟩ (fun e => p_it0 (show ¬ (1 : Int) = 0 by decide) (p_ret ⟨rfl, by show (8 : Int) = _; rw [e]; decide⟩)) (fun h8 => p_it1 (show (0 : Int) = 0 from rfl) ?_)
  refine r_isw (L := [114, 101, 97, 99, 104]) h (by decide +kernel) ⟨by decide, by decide, by unfold okB; decide⟩ (fun e => p_it0 (show ¬ (1 : Int) = 0 by decide) (p_ret ⟨rfl, by show (9 : Int) = _; rw [e]; decide⟩)) (fun h9 => p_it1 (show (0 : Int) = 0 from rfl) ?_)
  refine r_isw (L := [116, 114, 101, 101]) h (by decide +kernel) ⟨by decide, by decide, by unfold okB; decide⟩ (fun e => p_it0 (show ¬ (1 : Int) = 0 by decide) (p_ret ⟨rfl, by show (10 : Int) = _; rw [e]; decide⟩)) (fun h10 => p_it1 (show (0 : Int) = 0 from rfl) ?_)
  refine p_ret ⟨rfl, ?_⟩
  show (-1 : Int) = _
  unfold actW
  rw [if_neg h0, if_neg h1, if_neg h2, if_neg h3, if_neg h4, if_neg h5, if_neg h6, if_neg h7, if_neg h8, if_neg h9, if_neg h10]
theorem r_varOf {b : Int} (h : R2 E b M) : pw (mX9_varOf 126 M) (fun q => q.2 = M ∧ q.1 = varW (E.wd b)) := by
  unfold mX9_varOf
  refine r_isw (L := [120]) h (by decide +kernel) ⟨by decide, by decide, by unfold okB; decide⟩ (fun e => p_it0 (show ¬ (1 : Int) = 0 by decide) (p_ret ⟨rfl, by show (0 : Int) = _; rw [e]; decide⟩)) (fun h0 => p_it1 (show (0 : Int) = 0 from rfl) ?_)
  refine r_isw (L := [121]) h (by decide +kernel) ⟨by decide, by decide, by unfold okB; decide⟩ (fun e => p_it0 (show ¬ (1 : Int) = 0 by decide) (p_ret ⟨rfl, by show (1 : Int) = _; rw [e]; decide⟩)) (fun h1 => p_it1 (show (0 : Int) = 0 from rfl) ?_)
  refine r_isw (L := [122]) h (by decide +kernel) ⟨by decide, by decide, by unfold okB; decide⟩ (fun e => p_it0 (show ¬ (1 : Int) = 0 by decide) (p_ret ⟨rfl, by show (2 : Int) = _; rw [e]; decide⟩)) (fun h2 => p_it1 (show (0 : Int) = 0 from rfl) ?_)
  refine r_isw (L := [119]) h (by decide +kernel) ⟨by decide, by decide, by unfold okB; decide⟩ (fun e => p_it0 (show ¬ (1 : Int) = 0 by decide) (p_ret ⟨rfl, by show (3 : Int) = _; rw [e]; decide⟩)) (fun h3 => p_it1 (show (0 : Int) = 0 from rfl) ?_)
  refine p_ret ⟨rfl, ?_⟩
  show (-1 : Int) = _
  unfold varW
  rw [if_neg h0, if_neg h1, if_neg h2, if_neg h3]
theorem r_kindOf {b : Int} (h : R2 E b M) : pw (mX9_kindOf 126 M) (fun q => q.2 = M ∧ q.1 = kindW (E.wd b)) := by
  unfold mX9_kindOf
  refine r_isw (L := [109, 97, 110]) h (by decide +kernel) ⟨by decide, by decide, by unfold okB; decide⟩ (fun e => p_it0 (show ¬ (1 : Int) = 0 by decide) (p_ret ⟨rfl, by show (0 : Int) = _; rw [e]; decide⟩)) (fun h0 => p_it1 (show (0 : Int) = 0 from rfl) ?_)
  refine r_isw (L := [104, 111, 117, 115, 101]) h (by decide +kernel) ⟨by decide, by decide, by unfold okB; decide⟩ (fun e => p_it0 (show ¬ (1 : Int) = 0 by decide) (p_ret ⟨rfl, by show (1 : Int) = _; rw [e]; decide⟩)) (fun h1 => p_it1 (show (0 : Int) = 0 from rfl) ?_)
  refine r_isw (L := [100, 97, 121]) h (by decide +kernel) ⟨by decide, by decide, by unfold okB; decide⟩ (fun e => p_it0 (show ¬ (1 : Int) = 0 by decide) (p_ret ⟨rfl, by show (2 : Int) = _; rw [e]; decide⟩)) (fun h2 => p_it1 (show (0 : Int) = 0 from rfl) ?_)
  refine p_ret ⟨rfl, ?_⟩
  show (-1 : Int) = _
  unfold kindW
  rw [if_neg h0, if_neg h1, if_neg h2]
theorem r_relOf {b : Int} (h : R2 E b M) : pw (mX9_relOf 126 M) (fun q => q.2 = M ∧ q.1 = relW E.nr (E.wd b)) := by
  have e8 := h.1.1 8 (by decide)
  replace e8 : mG M 126 8 = 134 := e8
  have en := h.1.2.2.2.2.1
  have fin : ∀ x : Int, (if E.wd b = [114] then (0 : Int) else if E.wd b = [115] then 1 else if E.wd b = [116] then 2 else if E.wd b = [117] then 3 else -1) = x → pw (mX9_relOf_57 126 x M) (fun q => q.2 = M ∧ q.1 = relW E.nr (E.wd b)) := fun x hx => by
    have er : relW E.nr (E.wd b) = if E.nr ≤ x then -1 else x := by
      unfold relW
      dsimp only
      rw [hx]
    unfold mX9_relOf_57
    refine p_gFc (ji := 8) rfl e8 (p_aGc en (p_if (fun c => p_ret ⟨rfl, ?_⟩) (fun c => p_ret ⟨rfl, ?_⟩)))
    · rw [er, if_pos c]
    · rw [er, if_neg c]
  unfold mX9_relOf
  refine r_isw (L := [114]) h (by decide +kernel) ⟨by decide, by decide, by unfold okB; decide⟩ (fun e => p_it0 (show ¬ (1 : Int) = 0 by decide) (fin 0 (by rw [e]; decide))) (fun h0 => p_it1 (show (0 : Int) = 0 from rfl) ?_)
  refine r_isw (L := [115]) h (by decide +kernel) ⟨by decide, by decide, by unfold okB; decide⟩ (fun e => p_it0 (show ¬ (1 : Int) = 0 by decide) (fin 1 (by rw [e]; decide))) (fun h1 => p_it1 (show (0 : Int) = 0 from rfl) ?_)
  refine r_isw (L := [116]) h (by decide +kernel) ⟨by decide, by decide, by unfold okB; decide⟩ (fun e => p_it0 (show ¬ (1 : Int) = 0 by decide) (fin 2 (by rw [e]; decide))) (fun h2 => p_it1 (show (0 : Int) = 0 from rfl) ?_)
  refine r_isw (L := [117]) h (by decide +kernel) ⟨by decide, by decide, by unfold okB; decide⟩ (fun e => p_it0 (show ¬ (1 : Int) = 0 by decide) (fin 3 (by rw [e]; decide))) (fun h3 => p_it1 (show (0 : Int) = 0 from rfl) ?_)
  exact fin (-1) (by rw [if_neg h0, if_neg h1, if_neg h2, if_neg h3])
theorem R2.we {b : Int} (h : R2 E b M) (hw : ¬ E.wd b = []) : mG M 126 29 = E.we b ∧ 0 ≤ E.we b ∧ E.we b ≤ E.n := by
  have hn := h.1.2.2.1
  have hb := h.2.2.2.1
  rcases h.wd with ⟨_, g2, g3, _⟩ | ⟨_, g⟩
  · have gt := RE.we_gt hb.1 hn.2 g2
    obtain ⟨_, _, _, w4⟩ := E.we_spec b hb.1 hn.2
    exact ⟨g3, by omega, by omega⟩
  · exact absurd g hw
theorem AF9.r2 {b b' : Int} {M' : Mem} (a : AF9 M M') (h : R2 E b M) (t : RTok E b' M') : R2 E b' M' := ⟨a.r9 h.1, (a 126 36 (by omega)).trans h.2.1, t⟩
/-- the next token -/
theorem r_next {b e : Int} (h : R2 E b M) (h29 : mG M 126 29 = e) (he : 0 ≤ e ∧ e ≤ E.n) : pw (mX9_token 126 M) (fun q => AF9 M q.2 ∧ R2 E (E.sk e) q.2) :=
  p_mono (r_token h.1 h29 he) (fun q z => ⟨z.1, z.1.r2 h z.2⟩)
theorem r_word {b : Int} (h : R2 E b M) (hw : ¬ E.wd b = []) : pw (mX9_token 126 M) (fun q => AF9 M q.2 ∧ R2 E (E.sk (E.we b)) q.2) := by
  obtain ⟨w1, w2⟩ := h.we hw
  exact r_next h w1 w2
theorem r_bound {a v : Int} : pw (mX9_bound a v M) (fun q => q.2 = M ∧ q.1 = bnd a v) := by
  unfold mX9_bound
  refine p_some (fun x hx => p_if (fun c => p_ret ⟨rfl, ?_⟩) (fun c => p_ret ⟨rfl, ?_⟩))
  · show (-1 : Int) = bnd a v
    unfold bnd
    dsimp only
    rw [← hx, if_pos c]
  · show x = bnd a v
    unfold bnd
    dsimp only
    rw [← hx, if_neg c]
theorem varW_ne {w : List Int} (h : ¬ varW w = -1) : ¬ w = [] := fun z => h (by rw [z]; decide)
theorem kindW_ne {w : List Int} (h : ¬ kindW w = -1) : ¬ w = [] := fun z => h (by rw [z]; decide)
theorem relW_ne {nr : Int} {w : List Int} (h0 : 0 ≤ nr) (h : ¬ relW nr w = -1) : ¬ w = [] := fun z => h (relW_no h0 (fun c y => by rw [z] at y; cases y))
/-- a variable -/
def V9 (E : RE) (bo kind b : Int) (M : Mem) (q : Int × Mem) : Prop := ((q.1 = -1 ∨ ¬ mG q.2 126 36 = 0) ∧ E.rv bo kind b = none) ∨ ∃ v b', E.rv bo kind b = some (v, b') ∧ (0 ≤ v ∧ v ≤ 3) ∧ q.1 = v ∧ AF9 M q.2 ∧ R2 E b' q.2
theorem r_readVar {b bo kind : Int} (h : R2 E b M) : pw (mX9_readVar 126 bo kind M) (fun q => TK M q.2 ∧ V9 E bo kind b M q) := by
  refine p_mono (p_and pt_readVar (Q := V9 E bo kind b M) ?_) (fun q z => ⟨z.1.1, z.2⟩)
  unfold mX9_readVar
  have rvu : E.rv bo kind b = if varW (E.wd b) = -1 then none else if bnd bo (varW (E.wd b)) = -1 then none else if ¬ kind = -1 ∧ ¬ bnd bo (varW (E.wd b)) = kind then none else some (varW (E.wd b), E.sk (E.we b)) := rfl
  refine p_gK (p_call (r_varOf h) (fun r M1 g => ?_))
  obtain ⟨e, hr⟩ := g
  replace e : M1 = M := e
  replace hr : r = varW (E.wd b) := hr
  subst e; subst hr
  have rg := varW_rg (E.wd b)
  refine p_if (fun c => ?_) (fun c => ?_)
  · unfold mX9_wrong
    refine p_gK (p_bindg (fun Q1 hQ1 => p_gF (ji := 31) rfl (fun _ _ => p_pF (ji := 35) rfl (fun M2 _ => p_ret (hQ1 _ (p_ret (Or.inl ⟨Or.inl rfl, ?_⟩)))))))
    rw [rvu, if_pos c]
  replace c : ¬ varW (E.wd b) = -1 := c
  have bad : ∀ f : Int, ¬ f = 0 → E.rv bo kind b = none → pw ((gF 9 31 M1 126).bind fun a => (gK 9 M1 126).bind fun _ => (mX9_later 126 f a M1).bind fun q => mX9_readVar_59 126 (varW (E.wd b)) q.2) (V9 E bo kind b M1) := fun f hf he => by
    refine p_gF (ji := 31) rfl (fun a _ => p_gK (p_call (pt_later hf) (fun _ M2 z => ?_)))
    replace z : TK M1 M2 ∧ ¬ mG M2 126 36 = 0 := z
    unfold mX9_readVar_59
    exact p_gK (p_call pt_token (fun _ M3 t => p_ret (Or.inl ⟨Or.inr (t.2 z.2), he⟩)))
  refine p_call r_bound (fun x M2 g => ?_)
  obtain ⟨e, hx⟩ := g
  replace e : M2 = M1 := e
  replace hx : x = bnd bo (varW (E.wd b)) := hx
  subst e; subst hx
  have good : (kind = -1 ∨ bnd bo (varW (E.wd b)) = kind) → ¬ bnd bo (varW (E.wd b)) = -1 → pw (mX9_readVar_59 126 (varW (E.wd b)) M2) (V9 E bo kind b M2) := fun hk hb => by
    unfold mX9_readVar_59
    refine p_gK (p_call (r_word h (varW_ne c)) (fun _ M3 t => p_ret (Or.inr ⟨_, _, ?_, ⟨by omega, rg.2⟩, rfl, t.1, t.2⟩)))
    rw [rvu, if_neg c, if_neg hb, if_neg (by omega)]
  refine p_if (fun c2 => bad 2 (by decide) (by rw [rvu, if_neg c, if_pos c2])) (fun c2 => ?_)
  replace c2 : ¬ bnd bo (varW (E.wd b)) = -1 := c2
  refine p_if (fun c3 => good (Or.inl c3) c2) (fun c3 => p_call r_bound (fun x M3 g => ?_))
  obtain ⟨e, hx⟩ := g
  replace e : M3 = M2 := e
  replace hx : x = bnd bo (varW (E.wd b)) := hx
  subst e; subst hx
  exact p_if (fun c4 => good (Or.inr c4) c2) (fun c4 => bad 3 (by decide) (by rw [rvu, if_neg c, if_neg c2, if_pos ⟨c3, c4⟩]))
end
