/-! ===== the class reads a binder, a part ===== -/
section
variable {E : RE} {M : Mem} {ps : List Row} {ws : List (Int × Int)} {b sc bo : Int}
theorem G8.of {S S' : Option RS} {q : Int × Mem} (h : G8 E S q) (e : S = S') : G8 E S' q := e ▸ h
theorem z_rb17 {a : Int} {S : Option RS} (ee : S = none) (z : Z2 M) : pw (mX2_readBinder_17 65 a sc M) (G8 E S) := by
  have z31 : ∀ M1, Z2 M1 → pw (mX2_readBinder_31 65 a sc M1) (G8 E S) := fun M1 z1 => by
    unfold mX2_readBinder_31
    exact p_gK (p_call (z_num z1) (fun _ M2 z2 => z_rb39 ee z2))
  unfold mX2_readBinder_17
  exact p_gK (p_call (z_adv z) (fun _ M1 z1 => p_if (fun _ => z31 _ z1) (fun _ => p_if (fun _ => z31 _ z1) (fun _ => z_rb39 ee z1))))
theorem q_readBinder {a : Int} (h : C2 E b M) (d : D8 ps M) (w : W8 ws M) (hl : ps.length < 40) (hwl : ws.length < 402) (hs : ScR sc bo) (hw : ¬ E.wd b = []) (ha : 0 ≤ a ∧ a ≤ 3) : pw (mX2_readBinder 65 a sc M) (G8 E (E.rBind a sc bo ws ps b)) := by
  obtain ⟨w1, w2⟩ := h.2.2.2.we h.1 hw
  unfold mX2_readBinder mX2_depth
  refine p_bindg (fun Q1 hQ1 => p_ret (hQ1 _ ?_))
  refine p_if (fun c => ?_) (fun c => ?_)
  · have c : ishr sc 16 < 4 := c
    have un : E.rBind a sc bo ws ps b = (E.rn a (E.sk (E.we b))).bind fun c => E.rBind2 a c.1 sc bo ws ps c.2 := by
      unfold RE.rBind; rw [if_neg (by omega)]; rfl
    unfold mX2_readBinder_17
    refine p_gK (p_call (q_adv h w1 w2) (fun _ M1 g => ?_))
    obtain ⟨a1, c1⟩ := g
    have c1 : C2 E (E.sk (E.we b)) M1 := c1
    have num : 2 ≤ a → pw (mX2_readBinder_31 65 a sc M1) (G8 E (E.rBind a sc bo ws ps b)) := fun a2 => by
      unfold mX2_readBinder_31
      refine p_gK (p_call (q_takeNumber c1) (fun x M2 g => ?_))
      rcases g with g | ⟨g1, g2, ⟨g3, g4, g5⟩ | ⟨g3, g4, g5⟩⟩
      · refine z_rb39 ?_ g.1
        rw [un]
        unfold RE.rn
        rw [if_neg (by omega), if_neg (fun y => g.2 y.1)]; rfl
      · have g4 : x = E.val (E.sk (E.we b)) (E.de (E.sk (E.we b)) - E.sk (E.we b)).toNat := g4
        subst g4
        refine p_mono (q_rb39 g5 ((a1.tr g2).d8 d) ((a1.tr g2).w8 w) hl hwl hs c) (fun q z => z.of ?_)
        rw [un]
        unfold RE.rn
        rw [if_neg (by omega), if_pos ⟨g1, g3⟩]; rfl
      · refine p_mono (q_rb39 g4 ((a1.tr g2).d8 d) ((a1.tr g2).w8 w) hl hwl hs c) (fun q z => ?_)
        rcases z with z | ⟨S', z, _⟩
        · refine Or.inl ⟨z.1, ?_⟩
          rw [un]
          unfold RE.rn
          rw [if_neg (by omega), if_neg (fun y => g3 y.2)]; rfl
        · exfalso
          unfold RE.rBind2 at z
          rw [g5] at z
          have z : (none : Option RS) = some S' := z
          cases z
    refine p_if (fun y => num (by omega)) (fun y => p_if (fun y2 => num (by omega)) (fun y2 => ?_))
    refine p_mono (q_rb39 c1 (a1.d8 d) (a1.w8 w) hl hwl hs c) (fun q z => z.of ?_)
    rw [un]
    unfold RE.rn
    rw [if_pos (by omega)]; rfl
  · refine p_gF rfl (fun _ _ => p_gK (p_call (q_note h.ac h.2.1 (by decide)) (fun _ M1 z => z_rb17 (by unfold RE.rBind; exact if_pos (by have c : ¬ ishr sc 16 < 4 := c; omega)) z)))
theorem fst8_m {w : List Int} {nr : Int} (h : ¬ fst8 nr w = -1) : (fst8 nr w = 11 ∧ actW w = -1) ∨ (¬ actW w = -1 ∧ fst8 nr w = actW w ∧ ¬ w = []) := by
  unfold fst8 at h ⊢
  by_cases e : actW w = -1
  · rw [if_pos e] at h ⊢
    by_cases e2 : relW nr w = -1
    · rw [if_pos e2] at h; exact absurd rfl h
    · rw [if_neg e2]; exact Or.inl ⟨rfl, e⟩
  · rw [if_neg e]
    exact Or.inr ⟨e, rfl, fun z => e (by rw [z]; decide)⟩
theorem actW_in (w : List Int) : -1 ≤ actW w ∧ actW w ≤ 10 := by
  unfold actW
  repeat' split
  all_goals decide
theorem rPart_full {x : Int × Int} (h : ¬ ps.length < 40) : E.rPart ⟨b, x :: ws, ps⟩ = none := by
  unfold RE.rPart
  show (if 40 ≤ ps.length then none else _) = none
  exact if_pos (by omega)
theorem q_readPart (h : C2 E b M) (d : D8 ps M) (w : W8 ((sc, bo) :: ws) M) (hl : ps.length ≤ 40) (hwl : ws.length < 400) (hs : ScR sc bo) : pw (mX2_readPart 65 M) (G8 E (E.rPart ⟨b, (sc, bo) :: ws, ps⟩)) := by
  by_cases full : ps.length < 40
  case neg =>
    refine p_mono (pu_readPart h.ac (by rw [d.1]; omega)) (fun q z => Or.inl ⟨⟨?_, z.1.2.2 h.2.1, fun f => ?_⟩, rPart_full full⟩)
    · obtain ⟨a0, a1, a2, a3, a4, a5, a6, a7, a8⟩ := h.ac
      have k := z.1.1
      exact ⟨(k _ _ (by omega) (by omega) (by omega) (by omega) (by omega)).trans a0, (k _ _ (by omega) (by omega) (by omega) (by omega) (by omega)).trans a1, (k _ _ (by omega) (by omega) (by omega) (by omega) (by omega)).trans a2, (k _ _ (by omega) (by omega) (by omega) (by omega) (by omega)).trans a3, (k _ _ (by omega) (by omega) (by omega) (by omega) (by omega)).trans a4, (k _ _ (by omega) (by omega) (by omega) (by omega) (by omega)).trans a5, (k _ _ (by omega) (by omega) (by omega) (by omega) (by omega)).trans a6, (k _ _ (by omega) (by omega) (by omega) (by omega) (by omega)).trans a7, (k _ _ (by omega) (by omega) (by omega) (by omega) (by omega)).trans a8⟩
    · have := (z.2 h.2.1 f).2
      rw [d.1] at this
      omega
  obtain ⟨_, _, _, a3, a4, _⟩ := h.ac
  have wl : mG M 65 7 = (ws.length : Int) + 1 := w.1.trans (by simp)
  have w0 := w.2 0 (sc, bo) rfl
  rw [List.length_cons, show (((ws.length + 1 : Nat) : Int) - 1 - ((0 : Nat) : Int)) = (ws.length : Int) by omega] at w0
  unfold mX2_readPart
  refine p_gFc (ji := 7) rfl wl (p_pF (ji := 7) rfl (fun M1 h1 => ?_))
  rw [wI_id (x := (ws.length : Int) + 1 - 1) (by omega) (by omega)] at h1
  have kp : ∀ c j : Int, ¬ (c = 65 ∧ j = 7) → mG M1 c j = mG M c j := fun c j z => st_ne h1 z
  have h2 : C2 E b M1 := by
    refine ⟨h.1.kp (fun c j z => kp c j (by omega)) (fun c => st_k h1 c), fun z => ?_, (kp 3 6 (by omega)).trans h.2.2.1, ?_⟩
    · rw [kp 3 6 (by omega)]; exact h.2.1 (by rw [← kp 65 4 (by omega)]; exact z)
    · obtain ⟨t1, t2, t3⟩ := h.2.2.2
      unfold CTok
      show mG M1 65 9 = b ∧ (0 ≤ b ∧ b ≤ E.n) ∧ _
      rw [kp 65 8 (by omega), kp 65 9 (by omega), kp 65 10 (by omega), kp 65 11 (by omega)]
      exact ⟨t1, t2, t3⟩
  have d2 : D8 ps M1 := d.kp (fun c j z => kp c j (by omega))
  have w2 : W8 ws M1 := ⟨(st_eq h1).trans (by omega), fun k x hx => by
    have := w.2 (k + 1) x hx
    rw [List.length_cons, show (((ws.length + 1 : Nat) : Int) - 1 - ((k + 1 : Nat) : Int)) = (ws.length : Int) - 1 - (k : Int) by omega] at this
    exact (kp _ _ (by omega)).trans this⟩
  refine p_gFc (ji := 6) rfl ((kp 65 6 (by omega)).trans a4) (p_gFc (ji := 7) rfl w2.1 (p_aGc ((kp 72 _ (by omega)).trans w0) (p_gK (p_call (q_firstWord h2.1 h2.2.2.2) (fun x M2 g => ?_)))))
  obtain ⟨g, e⟩ := g
  have e : M2 = M1 := e
  subst e
  have g : x = fst8 E.nr (E.wd b) := g
  subst g
  refine p_if (fun c => ?_) (fun c => ?_)
  · have c : fst8 E.nr (E.wd b) = -1 := c
    refine p_gK (p_call (q_refuse h2.ac h2.2.1) (fun _ M3 z => p_ret (Or.inl ⟨z.1, ?_⟩)))
    unfold fst8 at c
    have ea : actW (E.wd b) = -1 := by
      by_cases e : actW (E.wd b) = -1
      · exact e
      · rw [if_neg e] at c; exact c
    rw [if_pos ea] at c
    have er : relW E.nr (E.wd b) = -1 := by
      by_cases e : relW E.nr (E.wd b) = -1
      · exact e
      · rw [if_neg e] at c; exact absurd c (by decide)
    unfold RE.rPart
    show (if 40 ≤ ps.length then none else if actW (E.wd b) = -1 then E.rFact sc bo ws ps b else _) = none
    rw [if_neg (by omega), if_pos ea]
    unfold RE.rFact
    show (if relW E.nr (E.wd b) = -1 then _ else _) = _
    rw [if_pos er]
  have c : ¬ fst8 E.nr (E.wd b) = -1 := c
  refine p_gFc (ji := 5) rfl h2.ac.2.2.2.1 (p_gFc (ji := 5) rfl d2.1 (p_it1 (by omega) ?_))
  have un : ∀ f, (f = if actW (E.wd b) = -1 then E.rFact sc bo ws ps b else if actW (E.wd b) ≤ 3 then E.rBind (actW (E.wd b)) sc bo ws ps b else if actW (E.wd b) = 8 then E.rSame sc bo ws ps b else if actW (E.wd b) = 9 then E.rReach sc bo ws ps b else if actW (E.wd b) = 10 then E.rTree ws ps b else some ⟨E.sk (E.we b), if actW (E.wd b) = 4 then (sc, bo) :: ws else (sc, bo) :: (sc, bo) :: ws, ps ++ [⟨actW (E.wd b), 0, 0, 0, actW (E.wd b), 0, 0, 0⟩]⟩) → f = E.rPart ⟨b, (sc, bo) :: ws, ps⟩ := fun f hf => by
    rw [hf]; unfold RE.rPart
    show _ = if 40 ≤ ps.length then none else _
    exact (if_neg (by omega)).symm
  have fin : ∀ {x : Option (Int × Mem)} {S : Option RS}, pw x (G8 E S) → S = E.rPart ⟨b, (sc, bo) :: ws, ps⟩ → pw (x.bind fun q => some ((0 : Int), q.2)) (G8 E (E.rPart ⟨b, (sc, bo) :: ws, ps⟩)) := fun hx e => p_call hx (fun r M3 z => p_ret (G8.of (q := (0, M3)) z e))
  have av := actW_in (E.wd b)
  unfold mX2_readPart_56
  rcases fst8_m c with ⟨e11, ea⟩ | ⟨na, ea, hw⟩
  · rw [e11]
    refine p_it0 (show ¬ (11 : Int) = 0 by decide) (p_it0 (show ¬ (11 : Int) = 1 by decide) (p_it0 (show ¬ (11 : Int) = 2 by decide) (p_it0 (show ¬ (11 : Int) = 3 by decide) (p_it0 (show ¬ (11 : Int) = 4 by decide) (p_it0 (show ¬ (11 : Int) = 5 by decide) (p_it0 (show ¬ (11 : Int) = 6 by decide) (p_it0 (show ¬ (11 : Int) = 7 by decide) (p_it0 (show ¬ (11 : Int) = 8 by decide) (p_it0 (show ¬ (11 : Int) = 9 by decide) (p_it0 (show ¬ (11 : Int) = 10 by decide) (p_gK ?_)))))))))))
    exact fin (q_readFact h2 d2 w2 full hs) (un _ (by rw [if_pos ea]))
  · rw [ea]
    have bind : actW (E.wd b) ≤ 3 → pw ((gK 2 M2 65).bind fun _ => (mX2_readBinder 65 (actW (E.wd b)) sc M2).bind fun q119 => some ((0 : Int), q119.2)) (G8 E (E.rPart ⟨b, (sc, bo) :: ws, ps⟩)) := fun a3 =>
      p_gK (fin (q_readBinder h2 d2 w2 full (by omega) hs hw ⟨by omega, a3⟩) (un _ (by rw [if_neg na, if_pos a3])))
    refine p_if (fun c => bind (by omega)) (fun c0 => p_if (fun c => bind (by omega)) (fun c1 => p_if (fun c => bind (by omega)) (fun c2 => p_if (fun c => bind (by omega)) (fun c3 => ?_))))
    refine p_if (fun c4 => ?_) (fun c4 => ?_)
    · refine p_gK (p_call (q_readJoint (sc := sc) (bo := bo) (a := actW (E.wd b)) h2 d2 w2 full (by omega) hw) (fun r M3 g => p_ret ?_))
      exact G8.mk g (un _ (by rw [if_neg na, if_neg (by omega), if_neg (by omega), if_neg (by omega), if_neg (by omega), if_pos c4]; try rfl)).symm
    have joint : ¬ actW (E.wd b) = 8 → ¬ actW (E.wd b) = 9 → ¬ actW (E.wd b) = 10 → pw ((gK 2 M2 65).bind fun _ => (mX2_readJoint 65 (actW (E.wd b)) sc M2).bind fun q137 => (gK 2 q137.2 65).bind fun _ => (mX2_expectPart 65 sc q137.2).bind fun q142 => some ((0 : Int), q142.2)) (G8 E (E.rPart ⟨b, (sc, bo) :: ws, ps⟩)) := fun n8 n9 n10 => by
      refine p_gK (p_call (q_readJoint (sc := sc) (bo := bo) (a := actW (E.wd b)) h2 d2 w2 full (by omega) hw) (fun r M3 g => p_gK ?_))
      obtain ⟨g1, g2, g3⟩ := g
      refine p_call (q_expect (bo := bo) g1 g2 g3 (by rw [List.length_cons]; omega)) (fun r M4 g => p_ret (G8.mk g (un _ (by rw [if_neg na, if_neg (by omega), if_neg n8, if_neg n9, if_neg n10, if_neg c4]; try rfl)).symm))
    refine p_if (fun c => joint (by omega) (by omega) (by omega)) (fun c5 => p_if (fun c => joint (by omega) (by omega) (by omega)) (fun c6 => p_if (fun c => joint (by omega) (by omega) (by omega)) (fun c7 => ?_)))
    refine p_if (fun c => p_gK (fin (q_readSame h2 d2 w2 full hs hw) (un _ (by rw [if_neg na, if_neg (by omega), if_pos c])))) (fun c8 => ?_)
    refine p_if (fun c => p_gK (fin (q_readReach h2 d2 w2 full hs hw) (un _ (by rw [if_neg na, if_neg (by omega), if_neg c8, if_pos c])))) (fun c9 => ?_)
    refine p_if (fun c => p_gK (fin (q_readTree h2 d2 w2 full hw) (un _ (by rw [if_neg na, if_neg (by omega), if_neg c8, if_neg c9, if_pos c])))) (fun c10 => ?_)
    exfalso; omega
end
