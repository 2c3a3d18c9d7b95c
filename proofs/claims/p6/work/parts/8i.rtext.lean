/-! ===== the reference reads a tape ===== -/
def FL9 (M : Mem) : Prop := AD M ∧ ¬ mG M 126 36 = 0
section
variable {E : RE} {M : Mem} {p bo : Int}
theorem FL9.tk {M' : Mem} (h : FL9 M) (t : TK M M') : FL9 M' := ⟨t.ad h.1, t.2 h.2⟩
theorem FL9.st {M' : Mem} {c i x : Int} (h : FL9 M) (hc : 155 ≤ c ∨ (c = 126 ∧ (i = 35 ∨ i = 38 ∨ i = 40))) (hM : M' = mS M c i x) : FL9 M' := by
  refine ⟨h.1.of (fun j hj => st_ne hM (fun z => ?_)), by rw [st_ne hM (fun z => by omega)]; exact h.2⟩
  have := adc_in hj
  rcases hc with hc | ⟨hc, hc2⟩
  · omega
  · rcases hc2 with hc2 | hc2 | hc2 <;> omega
theorem f_wait {x : Int} (h : FL9 M) : pw (mX9_wait 126 x M) (fun q => FL9 q.2) := by
  unfold mX9_wait
  refine p_gFc (ji := 39) rfl (ad42 h.1).2.2.2.2.1 (p_gF (ji := 38) rfl (fun _ _ => p_aS (fun M1 h1 => ?_)))
  have f1 := h.st (Or.inl (by decide)) h1
  exact p_gF (ji := 38) rfl (fun _ _ => p_pF (ji := 38) rfl (fun M2 h2 => p_ret (f1.st (Or.inr ⟨rfl, by decide⟩) h2)))
theorem f_49 (h : FL9 M) : pw (mX9_readBinder_49 126 p bo M) (fun q => FL9 q.2) := by
  unfold mX9_readBinder_49
  refine p_gK (p_call pt_varOf (fun v M1 g => ?_))
  have e : M1 = M := g.1
  subst e
  refine p_if (fun c => p_gF (ji := 31) rfl (fun _ _ => p_pF (ji := 35) rfl (fun M2 h2 => p_ret (h.st (Or.inr ⟨rfl, by decide⟩) h2)))) (fun c => ?_)
  refine p_gK (p_call pt_token (fun _ M2 t => p_gK ?_))
  have f2 : FL9 M2 := h.tk t
  refine p_call pt_kindOf (fun k M3 g => ?_)
  have e : M3 = M2 := g.1
  subst e
  refine p_if (fun c2 => p_gF (ji := 31) rfl (fun _ _ => p_pF (ji := 35) rfl (fun M2 h2 => p_ret (f2.st (Or.inr ⟨rfl, by decide⟩) h2)))) (fun c2 => ?_)
  refine p_gK (p_call pt_token (fun _ M4 t => ?_))
  have f4 : FL9 M4 := f2.tk t
  refine p_gFc (ji := 42) rfl (ad42 f4.1).2.1 (p_aS (fun M5 s5 => ?_))
  have f5 := f4.st (Or.inl (by decide)) s5
  refine p_gFc (ji := 43) rfl (ad42 f5.1).2.2.1 (p_aS (fun M6 s6 => p_gK ?_))
  have f6 := f5.st (Or.inl (by decide)) s6
  exact p_call (f_wait f6) (fun _ M7 g => p_ret g)
theorem f_binder (h : FL9 M) : pw (mX9_readBinder 126 p bo M) (fun q => FL9 q.2) := by
  unfold mX9_readBinder
  refine p_gFc (ji := 44) rfl (ad42 h.1).2.2.2.1 (p_aS (fun M1 s1 => ?_))
  have f1 := h.st (Or.inl (by decide)) s1
  refine p_gF (ji := 41) rfl (fun _ _ => p_aG (fun _ _ => p_if (fun c => f_49 f1) (fun c => ?_)))
  refine p_gF (ji := 32) rfl (fun s hs => p_if (fun c3 => ?_) (fun c3 => ?_))
  · refine p_gFc (ji := 44) rfl (ad42 f1.1).2.2.2.1 (p_gF (ji := 33) rfl (fun _ _ => p_aS (fun M2 s2 => p_gK (p_call pt_token (fun _ M3 t => ?_)))))
    exact f_49 ((f1.st (Or.inl (by decide)) s2).tk t)
  · exact p_gF (ji := 31) rfl (fun _ _ => p_pF (ji := 35) rfl (fun M2 h2 => p_ret (f1.st (Or.inr ⟨rfl, by decide⟩) h2)))
theorem f_102 (h : FL9 M) : pw (mX9_readPart_102 126 bo p M) (fun q => FL9 q.2) := by
  unfold mX9_readPart_102
  refine p_gK (p_call pt_token (fun _ M4 t => ?_))
  have f4 : FL9 M4 := h.tk t
  have fin : ∀ {x : Option (Int × Mem)}, pw x (fun q => FL9 q.2) → pw (x.bind fun q => (zR q.1).bind fun z => some (z, q.2)) (fun q => FL9 q.2) := fun hx => p_call hx (fun r M3 z => p_zR (fun _ => p_ret z))
  refine p_gF (ji := 41) rfl (fun _ _ => p_aG (fun _ _ => p_if (fun _ => ?_) (fun _ => p_gK (fin (f_binder f4)))))
  refine p_gF (ji := 41) rfl (fun _ _ => p_aG (fun _ _ => p_if (fun _ => p_gK (fin (p_mono (pt_readSame f4.1) (fun q z => ⟨z.ad f4.1, z.2 f4.2⟩)))) (fun _ => ?_)))
  refine p_gF (ji := 41) rfl (fun _ _ => p_aG (fun _ _ => p_if (fun _ => ?_) (fun _ => p_gK (fin (p_mono (pt_readRelation f4.1) (fun q z => ⟨z.1.ad f4.1, z.1.2 f4.2⟩))))))
  refine p_gK (p_call (f_wait f4) (fun _ M5 f5 => ?_))
  replace f5 : FL9 M5 := f5
  refine p_gF (ji := 41) rfl (fun _ _ => p_aG (fun _ _ => p_if (fun _ => p_ret f5) (fun _ => p_gK (p_call (f_wait f5) (fun _ M6 f6 => p_ret f6)))))
theorem f_later {a c : Int} (h : FL9 M) (ha : ¬ a = 0) : pw (mX9_later 126 a c M) (fun q => FL9 q.2) := p_mono (pt_later ha) (fun q z => h.tk z.1)
theorem f_readPart (h : FL9 M) : pw (mX9_readPart 126 bo M) (fun q => FL9 q.2) := by
  have t36 : ∀ (s : Int) (M : Mem), FL9 M → pw (mX9_readPart_36 126 bo s M) (fun q => FL9 q.2) := fun s M h => by
    unfold mX9_readPart_36
    refine p_gF (ji := 40) rfl (fun _ _ => p_pF (ji := 40) rfl (fun M1 s1 => ?_))
    have f1 := h.st (Or.inr ⟨rfl, by decide⟩) s1
    refine p_gFc (ji := 41) rfl (ad42 f1.1).1 (p_gK (p_call pt_actOf (fun a M2 g => p_aS (fun M3 s3 => ?_))))
    have e : M2 = M1 := g.1
    subst e
    have f3 := f1.st (Or.inl (by decide)) s3
    refine p_gF (ji := 41) rfl (fun _ _ => p_aG (fun _ _ => p_if (fun _ => ?_) (fun _ => ?_)))
    · exact p_gK (p_call (pt_readRelation f3.1) (fun r M4 z => p_zR (fun _ => p_ret ⟨z.1.ad f3.1, z.1.2 f3.2⟩)))
    refine p_gF (ji := 41) rfl (fun _ _ => p_aG (fun _ _ => p_if (fun _ => f_102 f3) (fun _ => ?_)))
    refine p_dQ (fun v _ => p_if (fun _ => f_102 f3) (fun _ => ?_))
    exact p_gF (ji := 31) rfl (fun _ _ => p_gK (p_call (f_later f3 (by decide)) (fun _ M4 z => f_102 z)))
  have t18 : ∀ (M : Mem), FL9 M → pw (mX9_readPart_18 126 bo M) (fun q => FL9 q.2) := fun M h => by
    unfold mX9_readPart_18
    refine p_gF (ji := 40) rfl (fun _ _ => p_if (fun _ => t36 _ _ h) (fun _ => ?_))
    exact p_gF (ji := 40) rfl (fun _ _ => t36 _ _ h)
  unfold mX9_readPart
  refine p_gF (ji := 40) rfl (fun _ _ => p_if (fun _ => ?_) (fun _ => t18 _ h))
  exact p_gF (ji := 31) rfl (fun _ _ => p_gK (p_call (f_later h (by decide)) (fun _ M4 z => t18 _ z)))
theorem f_182 {y : Int} (ad : AD M) (h : ¬ mG M 129 0 = 0) : pw (mX9_readText_182 126 130 0 y M) (fun q => q.1 = 0) := by
  unfold mX9_readText_182
  refine p_aS (fun M1 s1 => p_gFc (ji := 3) (r := 129) rfl ((st_ne s1 (by omega)).trans (ad 3 (by decide))) (p_aGc (st_ne s1 (by omega)) (p_it0 h (p_ret rfl))))
theorem f_150 {l1 x : Int} (ad : AD M) (h : ¬ x = 0) : pw (mX9_readText_150 126 l1 129 0 x M) (fun q => q.1 = 0) := by
  unfold mX9_readText_150
  refine p_aS (fun M1 s1 => ?_)
  have a1 : AD M1 := ad.of (fun j hj => st_ne s1 (by omega))
  have h1 : ¬ mG M1 129 0 = 0 := by rw [st_eq s1]; exact h
  refine p_gFc (ji := 4) rfl (a1 4 (by decide)) (p_if (fun _ => p_gF (ji := 35) rfl (fun _ _ => f_182 a1 h1)) (fun _ => ?_))
  refine p_gF (ji := 36) rfl (fun _ _ => p_if (fun _ => f_182 a1 h1) (fun _ => ?_))
  exact p_gF (ji := 37) rfl (fun _ _ => f_182 a1 h1)
theorem f_133 {l1 : Int} (ad : AD M) (h : l1 = 0 ∨ ¬ mG M 126 36 = 0) : pw (mX9_readText_133 126 l1 M) (fun q => q.1 = 0) := by
  unfold mX9_readText_133
  refine p_gFc (ji := 3) rfl (ad 3 (by decide)) (p_if (fun _ => f_150 ad (by decide)) (fun c => ?_))
  exact p_gF (ji := 36) rfl (fun v hv => f_150 ad (by rw [← hv]; exact h.resolve_left c))
theorem f_112 {l1 : Int} (ad : AD M) (h : l1 = 0 ∨ ¬ mG M 126 36 = 0) : pw (mX9_readText_112 126 l1 M) (fun q => q.1 = 0) := by
  unfold mX9_readText_112
  refine p_if (fun c => f_133 ad (Or.inl c)) (fun c => p_gF (ji := 32) rfl (fun _ _ => p_if (fun _ => f_133 ad h) (fun _ => ?_)))
  exact p_gF (ji := 31) rfl (fun _ _ => p_pF (ji := 35) rfl (fun M1 s1 => f_133 (ad.of (fun j hj => st_ne s1 (fun z => (adc_in hj).1 (by omega)))) (Or.inl rfl)))
theorem f_74 : ∀ (fu : Nat) (l1 : Int) (M : Mem), AD M → (l1 = 0 ∨ ¬ mG M 126 36 = 0) → pw (mX9_readText_74 fu 126 l1 M) (fun q => q.1 = 0) := by
  intro fu
  induction fu with
  | zero => intro l1 M _ _; exact p_none
  | succ fu ih =>
    intro l1 M ad h
    show pw (bX9_readText_74 (mX9_readText_74 fu) 126 l1 M) _
    unfold bX9_readText_74
    refine p_if (fun c => f_112 ad (Or.inl c)) (fun c => ?_)
    have hl := h.resolve_left c
    refine p_gF (ji := 38) rfl (fun _ _ => p_if (fun _ => f_112 ad h) (fun _ => ?_))
    refine p_gF (ji := 38) rfl (fun _ _ => p_pF (ji := 38) rfl (fun M1 s1 => ?_))
    have f1 : FL9 M1 := FL9.st ⟨ad, hl⟩ (Or.inr ⟨rfl, by decide⟩) s1
    refine p_gF (ji := 39) rfl (fun _ _ => p_gF (ji := 38) rfl (fun _ _ => p_aG (fun _ _ => p_gK (p_call (f_readPart f1) (fun r M2 f2 => ?_)))))
    replace f2 : FL9 M2 := f2
    exact ih r M2 f2.1 (Or.inr f2.2)
/-- the loop ends with a fault, or with all rows and no token left -/
theorem r_74 : ∀ (fu : Nat) (S : RS) (M : Mem), R2 E S.b M → D9 S.ps M → W9 S.ws M → mG M 126 40 = (S.ps.length : Int) → (∀ x, x ∈ S.ws → ScR x.1 x.2) → S.ps.length ≤ 40 → S.ws.length ≤ S.ps.length + 1 → ∀ k : Nat, 42 ≤ k + S.ps.length → pw (mX9_readText_74 fu 126 1 M) (fun q => (q.1 = 0 ∧ (E.rLoop k S).bind E.rEnd = none) ∨ (q.1 = 1 ∧ ∃ ps, (E.rLoop k S).bind E.rEnd = some ps ∧ D9 ps q.2 ∧ mG q.2 126 40 = (ps.length : Int) ∧ ps.length ≤ 40)) := by
  intro fu
  induction fu with
  | zero => intro S M _ _ _ _ _ _ _ k _; exact p_none
  | succ fu ih =>
    intro S M h d w hc hs hp hw k hk
    obtain ⟨b, ws, ps⟩ := S
    replace h : R2 E b M := h
    replace d : D9 ps M := d
    replace w : W9 ws M := w
    replace hc : mG M 126 40 = (ps.length : Int) := hc
    replace hs : ∀ x, x ∈ ws → ScR x.1 x.2 := hs
    replace hp : ps.length ≤ 40 := hp
    replace hk : 42 ≤ k + ps.length := hk
    replace hw : ws.length ≤ ps.length + 1 := hw
    show pw (bX9_readText_74 (mX9_readText_74 fu) 126 1 M) _
    unfold bX9_readText_74
    obtain ⟨k, rfl⟩ : ∃ m, k = m + 1 := ⟨k - 1, by omega⟩
    refine p_it0 (show ¬ (1 : Int) = 0 by decide) (p_gFc (ji := 38) rfl w.1 ?_)
    cases ws with
    | nil =>
      have e1 : E.rLoop (k + 1) ⟨b, [], ps⟩ = some ⟨b, [], ps⟩ := if_pos rfl
      refine p_it1 (by show ((0 : Nat) : Int) ≤ 0; decide) ?_
      unfold mX9_readText_112
      obtain ⟨_, _, _, t2, t3⟩ := id h
      refine p_it0 (show ¬ (1 : Int) = 0 by decide) (p_gF (ji := 32) rfl (fun s hs => p_if (fun c => ?_) (fun c => ?_)))
      · have nb : E.n ≤ b := by
          rcases t3 with ⟨t, _⟩ | ⟨_, t, _⟩ | ⟨_, t4, t5⟩ | ⟨_, _, _, t⟩
          · exact t
          · exfalso; omega
          · exfalso
            by_cases l : E.de b - b ≤ 4
            · have := (t4 l).1; omega
            · have := t5 l; omega
          · exfalso; omega
        have hE : (E.rLoop (k + 1) ⟨b, [], ps⟩).bind E.rEnd = some ps := by rw [e1]; exact if_pos nb
        rw [hE]
        unfold mX9_readText_133
        refine p_gFc (ji := 3) rfl (h.1.1 3 (by decide)) (p_it0 (show ¬ (1 : Int) = 0 by decide) (p_gFc (ji := 36) rfl h.2.1 ?_))
        unfold mX9_readText_150
        refine p_aS (fun M1 s1 => ?_)
        replace s1 : M1 = mS M 129 0 0 := s1
        have a1 : AD M1 := h.1.1.of (fun j hj => st_ne s1 (by omega))
        refine p_gFc (ji := 4) rfl (a1 4 (by decide)) (p_it0 (show ¬ (1 : Int) = 0 by decide) (p_gFc (ji := 36) rfl ((st_ne s1 (by omega)).trans h.2.1) (p_it1 (by decide) ?_)))
        unfold mX9_readText_182
        refine p_aS (fun M2 s2 => ?_)
        replace s2 : M2 = mS M1 130 0 (-1) := s2
        refine p_gFc (ji := 3) (r := 129) rfl ((st_ne s2 (by omega)).trans (a1 3 (by decide))) (p_aGc ((st_ne s2 (by omega)).trans (st_eq s1)) (p_it1 rfl (p_ret (Or.inr ⟨rfl, ps, rfl, ?_, ?_, hp⟩))))
        · exact d.kp (fun c j c0 c1 _ => (st_ne s2 (by omega)).trans (st_ne s1 (by omega)))
        · exact (st_ne s2 (by omega)).trans ((st_ne s1 (by omega)).trans hc)
      · have nb : ¬ E.n ≤ b := fun y => by
          rcases t3 with ⟨_, t⟩ | ⟨t, _⟩ | ⟨t, _⟩ | ⟨t, _⟩
          · exact c (hs.symm.trans t)
          · have := RE.letT t; omega
          · have := RE.digT t; omega
          · omega
        have hE : (E.rLoop (k + 1) ⟨b, [], ps⟩).bind E.rEnd = none := by rw [e1]; exact if_neg nb
        rw [hE]
        refine p_gF (ji := 31) rfl (fun _ _ => p_pF (ji := 35) rfl (fun M1 s1 => p_mono (f_133 (h.1.1.of (fun j hj => st_ne s1 (fun z => (adc_in hj).1 (by omega)))) (Or.inl rfl)) (fun q z => Or.inl ⟨z, rfl⟩)))
    | cons x ws =>
      obtain ⟨sc, bo⟩ := x
      have hsc : ScR sc bo := hs (sc, bo) (List.mem_cons_self ..)
      rw [List.length_cons] at hw
      have w1 : mG M 126 38 = (ws.length : Int) + 1 := w.1.trans (by simp)
      have w0 := w.2 0 (sc, bo) rfl
      rw [List.length_cons, show (((ws.length + 1 : Nat) : Int) - 1 - ((0 : Nat) : Int)) = (ws.length : Int) by omega] at w0
      have e1 : E.rLoop (k + 1) ⟨b, (sc, bo) :: ws, ps⟩ = (E.rPart ⟨b, (sc, bo) :: ws, ps⟩).bind (E.rLoop k) := if_neg (by intro y; cases y)
      refine p_it0 (by rw [List.length_cons]; omega) (p_gFc (ji := 38) rfl w1 (p_pF (ji := 38) rfl (fun M1 s1 => ?_)))
      rw [wI_id (x := (ws.length : Int) + 1 - 1) (by omega) (by omega)] at s1
      have h1 : R2 E b M1 := h.kp (fun c j _ hj => st_ne s1 (by omega))
      have d1 : D9 ps M1 := d.kp (fun c j _ _ _ => st_ne s1 (by omega))
      have w2 : W9 ws M1 := ⟨(st_eq s1).trans (by omega), fun k x hx => by
        have := w.2 (k + 1) x hx
        rw [List.length_cons, show (((ws.length + 1 : Nat) : Int) - 1 - ((k + 1 : Nat) : Int)) = (ws.length : Int) - 1 - (k : Int) by omega] at this
        exact (st_ne s1 (by omega)).trans this⟩
      have hc1 : mG M1 126 40 = (ps.length : Int) := (st_ne s1 (by omega)).trans hc
      refine p_gFc (ji := 39) rfl (ad42 h1.1.1).2.2.2.2.1 (p_gFc (ji := 38) rfl w2.1 (p_aGc ((st_ne s1 (by omega)).trans w0) (p_gK ?_)))
      refine p_call (p_and (pt_readPart h1.1.1 (by rw [w2.1]; omega) (by omega)) (r_readPart h1 d1 w2 hc1 hp (by omega) hsc)) (fun r M2 g => ?_)
      obtain ⟨⟨Mx, z0, _, _, _, _, zb, _⟩, g⟩ := g
      have ax : AD Mx := h1.1.1.of (fun j hj => z0 126 j (fun z => by have := adc_in hj; omega))
      have a2 : AD M2 := zb.ad ax
      rcases g with ⟨g, en⟩ | ⟨S', e, r1, c', d', w', n'⟩
      · have hE : (E.rLoop (k + 1) ⟨b, (sc, bo) :: ws, ps⟩).bind E.rEnd = none := by rw [e1, en]; rfl
        rw [hE]
        exact p_mono (f_74 fu r M2 a2 g) (fun q z => Or.inl ⟨z, rfl⟩)
      · replace r1 : r = 1 := r1
        subst r1
        have ok := rPart_ok (S := ⟨b, (sc, bo) :: ws, ps⟩) rfl e hsc (fun x hx => hs x (List.mem_cons_of_mem _ hx))
        obtain ⟨o1, o2, o3⟩ := ok
        replace o2 : S'.ws.length ≤ ws.length + 2 := o2
        replace o3 : S'.ps.length = ps.length + 1 := o3
        have lt : ps.length < 40 := by
          by_cases y : ps.length < 40
          · exact y
          · exfalso
            replace e : (if 40 ≤ ps.length then none else _) = some S' := e
            rw [if_pos (by omega)] at e; cases e
        have hE : (E.rLoop (k + 1) ⟨b, (sc, bo) :: ws, ps⟩).bind E.rEnd = (E.rLoop k S').bind E.rEnd := by rw [e1, e]; rfl
        rw [hE]
        exact ih S' M2 c' d' w' n' o1 (by omega) (by omega) k (by omega)
/-- what the reference reads of is as E says -/
def E9 (E : RE) (M : Mem) : Prop := mG M 128 0 = E.n ∧ (0 ≤ E.n ∧ E.n ≤ 400) ∧ (∀ i, 0 ≤ i → i < E.n → iand (mG M 127 i) 255 = E.t i) ∧ mG M 134 0 = E.nr ∧ (0 ≤ E.nr ∧ E.nr ≤ 4) ∧ ∀ r, 0 ≤ r → r < E.nr → mG M 135 r = E.k1 r ∧ mG M 136 r = E.k2 r
theorem r_readText (ad : AD M) (he : E9 E M) : pw (mX9_readText 126 M) (fun q => (q.1 = 0 ∧ E.rText = none) ∨ (q.1 = 1 ∧ ∃ ps, E.rText = some ps ∧ D9 ps q.2 ∧ mG q.2 126 40 = (ps.length : Int) ∧ ps.length ≤ 40)) := by
  obtain ⟨e1, e2, e3, e4, e5, e6⟩ := he
  have adk : ∀ {M1 M2 : Mem} {c i x : Int}, AD M1 → (¬ c = 126 ∨ ¬ adc i ≠ 0) → M2 = mS M1 c i x → AD M2 := fun a h hM => a.of (fun j hj => st_ne hM (fun z => by
    rcases h with h | h
    · exact h z.1.symm
    · exact h (by rw [← z.2]; exact hj)))
  unfold mX9_readText
  refine p_gFc (ji := 2) rfl (ad 2 (by decide)) (p_aGc e1 (p_pF (ji := 30) rfl (fun M1 s1 => ?_)))
  have a1 := adk ad (Or.inr (by decide)) s1
  refine p_gFc (ji := 2) rfl (a1 2 (by decide)) (p_aS (fun M2 s2 => ?_))
  replace s2 : M2 = mS M1 128 0 0 := s2
  have a2 := adk a1 (Or.inl (by decide)) s2
  refine p_gFc (ji := 3) rfl (a2 3 (by decide)) (p_aS (fun M3 s3 => ?_))
  replace s3 : M3 = mS M2 129 0 0 := s3
  have a3 := adk a2 (Or.inl (by decide)) s3
  refine p_gFc (ji := 4) rfl (a3 4 (by decide)) (p_aS (fun M4 s4 => ?_))
  replace s4 : M4 = mS M3 130 0 (-1) := s4
  have a4 := adk a3 (Or.inl (by decide)) s4
  refine p_pF (ji := 29) rfl (fun M5 s5 => p_pF (ji := 35) rfl (fun M6 s6 => p_pF (ji := 36) rfl (fun M7 s7 => p_pF (ji := 37) rfl (fun M8 s8 => p_pF (ji := 38) rfl (fun M9 s9 => p_pF (ji := 40) rfl (fun Ma sa => p_gK ?_))))))
  have aa := adk (adk (adk (adk (adk (adk a4 (Or.inr (by decide)) s5) (Or.inr (by decide)) s6) (Or.inr (by decide)) s7) (Or.inr (by decide)) s8) (Or.inr (by decide)) s9) (Or.inr (by decide)) sa
  have ga : ∀ c j : Int, ¬ (c = 126 ∧ 29 ≤ j ∧ j ≤ 40) → ¬ (128 ≤ c ∧ c ≤ 130) → mG Ma c j = mG M c j := fun c j x y => by
    rw [st_ne sa (by omega), st_ne s9 (by omega), st_ne s8 (by omega), st_ne s7 (by omega), st_ne s6 (by omega), st_ne s5 (by omega), st_ne s4 (by omega), st_ne s3 (by omega), st_ne s2 (by omega), st_ne s1 (by omega)]
  have g38 : mG Ma 126 38 = 0 := (st_ne sa (by omega)).trans (st_eq s9)
  have g36 : mG Ma 126 36 = 0 := by rw [st_ne sa (by omega), st_ne s9 (by omega), st_ne s8 (by omega)]; exact st_eq s7
  have g29 : mG Ma 126 29 = 0 := by rw [st_ne sa (by omega), st_ne s9 (by omega), st_ne s8 (by omega), st_ne s7 (by omega), st_ne s6 (by omega)]; exact st_eq s5
  have g30 : mG Ma 126 30 = E.n := by
    rw [st_ne sa (by omega), st_ne s9 (by omega), st_ne s8 (by omega), st_ne s7 (by omega), st_ne s6 (by omega), st_ne s5 (by omega), st_ne s4 (by omega), st_ne s3 (by omega), st_ne s2 (by omega)]; exact st_eq s1
  have w0 : W9 [] Ma := ⟨g38, fun k x hx => by cases hx⟩
  refine p_call (r_wait (sc := 0) aa w0 (by decide)) (fun _ Mb g => p_gK ?_)
  obtain ⟨gb, wb⟩ := g
  replace gb : ∀ c j : Int, ¬ (c = 126 ∧ j = 38) → ¬ c = 155 → mG Mb c j = mG Ma c j := gb
  replace wb : W9 [((0 : Int), (255 : Int))] Mb := wb
  have ab : AD Mb := aa.of (fun j hj => gb 126 j (fun z => (adc_in hj).1 (by omega)) (by decide))
  have rb : R9 E Mb := by
    refine ⟨ab, (gb 126 30 (by omega) (by decide)).trans g30, e2, fun i i0 i1 => ?_, ?_, e5, fun r r0 r1 => ?_⟩
    · rw [gb 127 i (by omega) (by decide), ga 127 i (by omega) (by omega)]; exact e3 i i0 i1
    · rw [gb 134 0 (by omega) (by decide), ga 134 0 (by omega) (by omega)]; exact e4
    · rw [gb 135 r (by omega) (by decide), ga 135 r (by omega) (by omega), gb 136 r (by omega) (by decide), ga 136 r (by omega) (by omega)]; exact e6 r r0 r1
  refine p_call (r_token rb ((gb 126 29 (by omega) (by decide)).trans g29) ⟨by decide, e2.1⟩) (fun _ Mc g => ?_)
  obtain ⟨ac, tc⟩ := g
  replace ac : AF9 Mb Mc := ac
  have r2 : R2 E (E.sk 0) Mc := ⟨ac.r9 rb, (ac 126 36 (by omega)).trans ((gb 126 36 (by omega) (by decide)).trans g36), tc⟩
  have tx : E.rText = (E.rLoop 42 ⟨E.sk 0, [(0, 255)], []⟩).bind E.rEnd := rfl
  rw [tx]
  refine r_74 FU ⟨E.sk 0, [(0, 255)], []⟩ Mc r2 (fun k r hr => by cases hr) (ac.w9 wb) ((ac 126 40 (by omega)).trans ((gb 126 40 (by omega) (by decide)).trans (st_eq sa))) (fun x hx => ?_) (by show 0 ≤ 40; decide) (by show 1 ≤ 0 + 1; decide) 42 (by show 42 ≤ 42 + 0; decide)
  replace hx : x ∈ [((0 : Int), (255 : Int))] := hx
  rw [List.mem_singleton] at hx
  subst hx; exact ScR.start
end
/-- the reference's text t holds these rows -/
def RX (r : Row) (k : Int) (M : Mem) : Prop := mG M 142 k = r.r0 ∧ ((r.r0 ≤ 3 ∨ 8 ≤ r.r0) → mG M 143 k = r.r1) ∧ ((r.r0 ≤ 3 ∨ r.r0 = 8 ∨ r.r0 = 9 ∨ 11 ≤ r.r0) → mG M 144 k = r.r2) ∧ ((r.r0 ≤ 3 ∨ r.r0 = 9 ∨ r.r0 = 12) → mG M 145 k = r.r3)
def RT (ps : List Row) (t : Int) (M : Mem) : Prop := mG M 141 t = (ps.length : Int) ∧ ∀ (k : Nat) (r : Row), ps[k]? = some r → RX r (40 * t + (k : Int)) M
theorem RT.of {ps : List Row} {t t' : Int} {M M' : Mem} (h : RT ps t M) (hl : ps.length ≤ 40) (g1 : mG M' 141 t' = mG M 141 t) (g : ∀ c j : Int, 142 ≤ c → c ≤ 145 → 0 ≤ j → j < 40 → mG M' c (40 * t' + j) = mG M c (40 * t + j)) : RT ps t' M' := by
  refine ⟨g1.trans h.1, fun k r hr => ?_⟩
  have lt := get_lt hr
  obtain ⟨a, b, c, d⟩ := h.2 k r hr
  exact ⟨(g _ _ (by decide) (by decide) (by omega) (by omega)).trans a, fun z => (g _ _ (by decide) (by decide) (by omega) (by omega)).trans (b z), fun z => (g _ _ (by decide) (by decide) (by omega) (by omega)).trans (c z), fun z => (g _ _ (by decide) (by decide) (by omega) (by omega)).trans (d z)⟩
theorem KT.rt {ps : List Row} {t : Int} {M M' : Mem} (h : KT t (mG M 126 40) M M') (d : D9 ps M) (hn : mG M 126 40 = (ps.length : Int)) : RT ps t M' := by
  obtain ⟨_, _, g⟩ := h
  refine ⟨by rw [g, if_pos ⟨rfl, rfl⟩]; exact hn, fun k r hr => ?_⟩
  have lt := get_lt hr
  have gg : ∀ c : Int, 142 ≤ c → c ≤ 145 → mG M' c (40 * t + (k : Int)) = mG M (c + 14) (k : Int) := fun c c0 c1 => by
    rw [g, if_neg (by omega), if_pos (by omega), show 40 * t + (k : Int) - 40 * t = (k : Int) by omega]
  obtain ⟨a, b, c, e⟩ := d k r hr
  exact ⟨(gg 142 (by decide) (by decide)).trans a, fun z => (gg 143 (by decide) (by decide)).trans (b z), fun z => (gg 144 (by decide) (by decide)).trans (c z), fun z => (gg 145 (by decide) (by decide)).trans (e z)⟩
