section
/-! ===== the class's loop over the parts ===== -/
section
variable {E : RE} {M : Mem}
theorem G8.none {q : Int × Mem} (h : G8 E none q) : Z2 q.2 := by
  rcases h with h | ⟨S, h, _⟩
  · exact h.1
  · cases h
theorem z_readBinder {E : RE} {a sc : Int} (z : Z2 M) : pw (mX2_readBinder 65 a sc M) (fun q => Z2 q.2) := by
  unfold mX2_readBinder
  refine p_same pu_depth (fun _ => p_if (fun _ => p_mono (z_rb17 (E := E) (S := none) rfl z) (fun q g => g.none)) (fun _ => ?_))
  exact p_gF rfl (fun _ _ => p_gK (p_call (q_note z.1 z.2.1 (by decide)) (fun _ M1 z1 => p_mono (z_rb17 (E := E) (S := none) rfl z1) (fun q g => g.none))))
theorem z_wr {a c0 c1 c2 c3 : Int} (ha : a = 66) (z : Z2 M) : pw (mX5_write a c0 c1 c2 c3 M) (fun q => Z2 q.2) := by subst ha; exact z_write z
theorem z_readJoint {a sc : Int} (z : Z2 M) : pw (mX2_readJoint 65 a sc M) (fun q => Z2 q.2) := by
  unfold mX2_readJoint
  refine p_gK (p_call (z_adv z) (fun _ M1 z1 => ?_))
  have z1 : Z2 M1 := z1
  exact p_gFc (ji := 5) rfl z1.1.2.2.2.1 (p_gK (p_call (z_write z1) (fun _ M2 z2 => p_gK (p_call (z_expect z2) (fun _ M3 z3 => p_ret z3)))))
theorem z_readSame {sc : Int} (z : Z2 M) : pw (mX2_readSame 65 sc M) (fun q => Z2 q.2) := by
  unfold mX2_readSame
  refine p_gK (p_call (z_adv z) (fun _ M1 z1 => p_gK (p_call (z_takeBound z1) (fun x M2 z2 => p_same pu_kindOf (fun k => p_gK (p_call (z_takeBound z2) (fun y M3 z3 => ?_)))))))
  have z3 : Z2 M3 := z3
  exact p_gFc (ji := 5) rfl z3.1.2.2.2.1 (p_same pu_slotOf (fun _ => p_same pu_slotOf (fun _ => p_gK (p_call (z_write z3) (fun _ M4 z4 => p_ret z4)))))
theorem z_rr33 {sc r s : Int} (z : Z2 M) : pw (mX2_readReach_33 65 sc r s M) (fun q => Z2 q.2) := by
  unfold mX2_readReach_33
  refine p_gK (p_call (z_takeBound z) (fun y M4 z => p_gK (p_call (z_takeBound z) (fun y2 M5 z => ?_))))
  have z : Z2 M5 := z
  exact p_gFc (ji := 5) rfl z.1.2.2.2.1 (p_same pu_slotOf (fun _ => p_same pu_slotOf (fun _ => p_gK (p_call (z_write z) (fun _ M6 z6 => p_ret z6)))))
theorem z_readReach {sc : Int} (z : Z2 M) : pw (mX2_readReach 65 sc M) (fun q => Z2 q.2) := by
  unfold mX2_readReach
  refine p_gK (p_call (z_adv z) (fun _ M1 z1 => p_gK (p_call (z_road z1) (fun r M2 z2 => ?_))))
  have z2 : Z2 M2 := z2
  refine p_gF rfl (fun s _ => p_gK (p_same pu_twice (fun _ => p_if (fun _ => z_rr33 z2) (fun _ => ?_))))
  exact p_gF rfl (fun s2 _ => p_gF rfl (fun s3 _ => p_aG (fun s4 _ => z_rr33 z2)))
theorem z_readTree (z : Z2 M) : pw (mX2_readTree 65 M) (fun q => Z2 q.2) := by
  unfold mX2_readTree
  refine p_gK (p_call (z_adv z) (fun _ M1 z1 => ?_))
  have z1 : Z2 M1 := z1
  exact p_gFc (ji := 5) rfl z1.1.2.2.2.1 (p_gK (p_call (z_road z1) (fun r M2 z2 => p_gK (p_call (z_write z2) (fun _ M3 z3 => p_ret z3)))))
theorem z_rf61 {r x y : Int} (z : Z2 M) : pw (mX2_readFact_61 65 r x y M) (fun q => Z2 q.2) := by
  unfold mX2_readFact_61
  exact p_gFc (ji := 5) rfl z.1.2.2.2.1 (p_same pu_slotOf (fun _ => p_same pu_slotOf (fun _ => p_gK (p_call (z_write z) (fun _ M6 z6 => p_ret z6)))))
theorem z_readFact {sc : Int} (z : Z2 M) : pw (mX2_readFact 65 sc M) (fun q => Z2 q.2) := by
  unfold mX2_readFact
  refine p_gK (p_call (z_rel z) (fun r M1 z1 => ?_))
  have z1 : Z2 M1 := z1
  refine p_gF rfl (fun s _ => p_gK (p_call pu_hasRelation (fun t M2 e => ?_)))
  have e : M2 = M1 := e.1
  subst e
  refine p_if (fun _ => p_ret z1) (fun _ => ?_)
  refine p_gF rfl (fun _ _ => p_gF rfl (fun _ _ => p_aG (fun _ _ => p_gK (p_call (z_takeBound z1) (fun _ M3 z3 => ?_)))))
  have z3 : Z2 M3 := z3
  refine p_gF rfl (fun s _ => p_gK (p_same pu_isOfTwo (fun _ => p_if (fun _ => z_rf61 z3) (fun _ => ?_))))
  exact p_gF rfl (fun _ _ => p_gF rfl (fun _ _ => p_aG (fun _ _ => p_gK (p_call (z_takeBound z3) (fun _ M4 z4 => z_rf61 z4)))))
theorem z_rp56 {E : RE} {sc a : Int} (z : Z2 M) : pw (mX2_readPart_56 65 sc a M) (fun q => Z2 q.2) := by
  have bd : pw ((gK 2 M 65).bind fun _ => (mX2_readBinder 65 a sc M).bind fun q119 => some ((0 : Int), q119.2)) (fun q => Z2 q.2) := p_gK (p_call (z_readBinder (E := E) z) (fun _ M1 z1 => p_ret z1))
  have jt : pw ((gK 2 M 65).bind fun _ => (mX2_readJoint 65 a sc M).bind fun q137 => (gK 2 q137.2 65).bind fun _ => (mX2_expectPart 65 sc q137.2).bind fun q142 => some ((0 : Int), q142.2)) (fun q => Z2 q.2) := p_gK (p_call (z_readJoint z) (fun _ M1 z1 => p_gK (p_call (z_expect z1) (fun _ M2 z2 => p_ret z2))))
  unfold mX2_readPart_56
  refine p_if (fun _ => bd) (fun _ => p_if (fun _ => bd) (fun _ => p_if (fun _ => bd) (fun _ => p_if (fun _ => bd) (fun _ => ?_))))
  refine p_if (fun _ => p_gK (p_call (z_readJoint z) (fun _ M1 z1 => p_ret z1))) (fun _ => p_if (fun _ => jt) (fun _ => p_if (fun _ => jt) (fun _ => p_if (fun _ => jt) (fun _ => ?_))))
  refine p_if (fun _ => p_gK (p_call (z_readSame z) (fun _ M1 z1 => p_ret z1))) (fun _ => p_if (fun _ => p_gK (p_call (z_readReach z) (fun _ M1 z1 => p_ret z1))) (fun _ => p_if (fun _ => p_gK (p_call (z_readTree z) (fun _ M1 z1 => p_ret z1))) (fun _ => ?_)))
  exact p_gK (p_call (z_readFact z) (fun _ M1 z1 => p_ret z1))
theorem z_readPart {E : RE} (z : Z2 M) : pw (mX2_readPart 65 M) (fun q => Z2 q.2) := by
  unfold mX2_readPart
  refine p_gF rfl (fun _ _ => p_pF (ji := 7) rfl (fun M1 h1 => ?_))
  have z1 : Z2 M1 := z.kp (fun c j y => st_ne h1 (by omega))
  refine p_gF rfl (fun _ _ => p_gF rfl (fun _ _ => p_aG (fun _ _ => p_gK (p_same pu_firstWord (fun x => p_if (fun _ => ?_) (fun _ => ?_))))))
  · exact p_gK (p_call (q_refuse z1.1 z1.2.1) (fun _ M3 z => p_ret z.1))
  · refine p_gF rfl (fun _ _ => p_gF rfl (fun _ _ => p_if (fun _ => z_rp56 (E := E) z1) (fun _ => ?_)))
    exact p_gF rfl (fun _ _ => p_gK (p_call (q_note z1.1 z1.2.1 (by decide)) (fun _ M2 z2 => z_rp56 (E := E) z2)))
theorem z_121 (z : Z2 M) : pw (mX2_read_121 65 M) (fun q => q.1 = 0 ∧ Z2 q.2) := by
  unfold mX2_read_121
  exact p_gFc (ji := 0) rfl z.1.1 (p_gF (ji := 6) rfl (fun v hv => p_it0 (fun y => z.2.2 (hv.trans y)) (p_ret ⟨rfl, z⟩)))
theorem z_110 (z : Z2 M) : pw (mX2_read_110 65 M) (fun q => q.1 = 0 ∧ Z2 q.2) := by
  unfold mX2_read_110
  exact p_gF rfl (fun _ _ => p_if (fun _ => z_121 z) (fun _ => p_gK (p_call (q_refuse z.1 z.2.1) (fun _ M1 z1 => z_121 z1.1))))
theorem z_79 {E : RE} : ∀ (fu : Nat) (t : Int) (M : Mem), Z2 M → pw (mX2_read_79 fu 65 t M) (fun q => q.1 = 0 ∧ Z2 q.2) := by
  intro fu
  induction fu with
  | zero => intro t M z; exact p_none
  | succ fu ih =>
    intro t M z
    show pw (bX2_read_79 (mX2_read_79 fu) 65 t M) _
    unfold bX2_read_79
    refine p_if (fun _ => z_110 z) (fun _ => p_gF rfl (fun _ _ => p_if (fun _ => z_110 z) (fun _ => p_gF rfl (fun _ _ => p_if (fun _ => ?_) (fun _ => z_110 z)))))
    exact p_gK (p_call (z_readPart (E := E) z) (fun _ M1 z1 => ih _ _ z1))
/-- what stands at the loop's end, as a text -/
def RE.rEnd (E : RE) (S : RS) : Option (List Row) := if E.n ≤ S.b then some S.ps else none
/-- the loop ends with a fault told, or with all rows and no token left -/
theorem q_79 {n : Nat} : ∀ (fu : Nat) (S : RS) (M : Mem), I n M → C2 E S.b M → D8 S.ps M → W8 S.ws M → (∀ x, x ∈ S.ws → ScR x.1 x.2) → S.ps.length ≤ 40 → S.ws.length ≤ S.ps.length + 1 → ∀ k : Nat, 42 ≤ k + S.ps.length → ∀ (Q : Int × Mem → Prop), (∀ q, q.1 = 0 → Z2 q.2 → (E.rLoop k S).bind E.rEnd = none → Q q) → (∀ S' M', E.rLoop k S = some S' → E.n ≤ S'.b → I n M' → C2 E S'.b M' → D8 S'.ps M' → S'.ps.length ≤ 40 → pw (mX2_read_121 65 M') Q) → pw (mX2_read_79 fu 65 (S.ps.length : Int) M) Q := by
  intro fu
  induction fu with
  | zero => intro S M _ _ _ _ _ _ _ k _ Q _ _; exact p_none
  | succ fu ih =>
    intro S M iM h d w hs hp hw k hk Q q0 q1
    obtain ⟨b, ws, ps⟩ := S
    replace h : C2 E b M := h
    replace d : D8 ps M := d
    replace w : W8 ws M := w
    replace hs : ∀ x, x ∈ ws → ScR x.1 x.2 := hs
    replace hp : ps.length ≤ 40 := hp
    replace hk : 42 ≤ k + ps.length := hk
    replace hw : ws.length ≤ ps.length + 1 := hw
    show pw (bX2_read_79 (mX2_read_79 fu) 65 (ps.length : Int) M) _
    unfold bX2_read_79
    obtain ⟨k, rfl⟩ : ∃ m, k = m + 1 := ⟨k - 1, by omega⟩
    refine p_it0 (by omega) (p_gFc (ji := 7) rfl w.1 ?_)
    cases ws with
    | nil =>
      refine p_it1 (by show ((0 : Nat) : Int) ≤ 0; decide) ?_
      unfold mX2_read_110
      have hb := h.2.2.2.2.1
      have e1 : E.rLoop (k + 1) ⟨b, [], ps⟩ = some ⟨b, [], ps⟩ := if_pos rfl
      refine p_gF (ji := 8) rfl (fun v hv => p_if (fun c => ?_) (fun c => ?_))
      · refine q1 ⟨b, [], ps⟩ M e1 ?_ iM h d hp
        obtain ⟨_, _, t⟩ := h.2.2.2
        rcases t with ⟨t, _⟩ | ⟨_, e, _⟩ | ⟨_, e, _⟩ | ⟨_, _, _, e⟩
        · exact t
        · exfalso; omega
        · exfalso; omega
        · exfalso; omega
      · have nb : ¬ E.n ≤ b := fun y => by
          obtain ⟨_, _, t⟩ := h.2.2.2
          rcases t with ⟨_, e⟩ | ⟨e, _⟩ | ⟨e, _⟩ | ⟨e, _⟩
          · exact c (hv.symm.trans e)
          · have := RE.letT e; omega
          · have := RE.digT e; omega
          · omega
        refine p_gK (p_call (q_refuse h.ac h.2.1) (fun _ M1 z1 => p_mono (z_121 z1.1) (fun q z => q0 q z.1 z.2 ?_)))
        rw [e1]
        exact if_neg nb
    | cons x ws =>
      obtain ⟨sc, bo⟩ := x
      refine p_it0 (by rw [List.length_cons]; omega) (p_gFc (ji := 4) rfl h.br (p_it1 rfl (p_gK ?_)))
      have hsc : ScR sc bo := hs (sc, bo) (List.mem_cons_self ..)
      rw [List.length_cons] at hw
      have w1 : mG M 65 7 = ((ws.length + 1 : Nat) : Int) := w.1
      have d1 : mG M 66 5 = (ps.length : Int) := d.1
      have e1 : E.rLoop (k + 1) ⟨b, (sc, bo) :: ws, ps⟩ = (E.rPart ⟨b, (sc, bo) :: ws, ps⟩).bind (E.rLoop k) := if_neg (by intro y; cases y)
      refine p_call (p_and (p_wp (s_X2_readPart (by omega) (by omega) ⟨h.ac.1, h.ac.2.1, h.ac.2.2.1⟩ iM)) (q_readPart h d w hp (by omega) hsc)) (fun r M1 g => ?_)
      obtain ⟨⟨i1, _⟩, g⟩ := g
      rcases g with ⟨g, en⟩ | ⟨S', e, c', d', w'⟩
      · refine p_mono (z_79 (E := E) fu _ _ g) (fun q z => q0 q z.1 z.2 ?_)
        rw [e1, en]; rfl
      · have ok := rPart_ok (S := ⟨b, (sc, bo) :: ws, ps⟩) rfl e hsc (fun x hx => hs x (List.mem_cons_of_mem _ hx))
        obtain ⟨o1, o2, o3⟩ := ok
        have o2 : S'.ws.length ≤ ws.length + 2 := o2
        have o3 : S'.ps.length = ps.length + 1 := o3
        have lt : ps.length < 40 := by
          by_cases y : ps.length < 40
          · exact y
          · exfalso
            have e : (if 40 ≤ ps.length then none else _) = some S' := e
            rw [if_pos (by omega)] at e; cases e
        have en : wI ((ps.length : Int) + 1) = (S'.ps.length : Int) := by rw [wI_id (x := (ps.length : Int) + 1) (by omega) (by omega)]; omega
        rw [en]
        refine ih S' M1 i1 c' d' w' o1 (by omega) (by omega) k (by omega) Q (fun q z1 z2 z3 => q0 q z1 z2 ?_) (fun S2 M2 e2 => q1 S2 M2 ?_)
        · rw [e1, e]; exact z3
        · rw [e1, e]; exact e2
end
end
section
/-! ===== the class's text as it is kept ===== -/
/-- how many parts stand in a part -/
def ari (a : Int) : Nat := if a ≤ 4 then 1 else if a ≤ 7 then 2 else 0
theorem ari_le (a : Int) : ari a ≤ 2 := by
  unfold ari
  split
  · decide
  · split <;> decide
/-- what comes behind so many parts -/
def skp : Nat → List Row → List Row
  | 0, rs => rs
  | _ + 1, [] => []
  | n + 1, r :: rs => skp (n + ari r.c0) rs
theorem skp_nil (n : Nat) : skp n [] = [] := by cases n <;> rfl
theorem skp_zero (L : List Row) : skp 0 L = L := by cases L <;> rfl
theorem skp_len : ∀ (L : List Row) (n : Nat), (skp n L).length ≤ L.length ∧ skp n L = L.drop (L.length - (skp n L).length) := by
  intro L
  induction L with
  | nil => intro n; rw [skp_nil]; exact ⟨Nat.le_refl _, rfl⟩
  | cons r rs ih =>
    intro n
    cases n with
    | zero => rw [skp_zero]; exact ⟨Nat.le_refl _, by rw [Nat.sub_self]; rfl⟩
    | succ n =>
      obtain ⟨a, b⟩ := ih (n + ari r.c0)
      have e : skp (n + 1) (r :: rs) = skp (n + ari r.c0) rs := rfl
      rw [e]
      refine ⟨by rw [List.length_cons]; omega, ?_⟩
      rw [List.length_cons, show rs.length + 1 - (skp (n + ari r.c0) rs).length = (rs.length - (skp (n + ari r.c0) rs).length) + 1 by omega]
      exact b
theorem skp_add : ∀ (L : List Row) (m n : Nat), skp (m + n) L = skp m (skp n L) := by
  intro L
  induction L with
  | nil => intro m n; rw [skp_nil, skp_nil, skp_nil]
  | cons r rs ih =>
    intro m n
    cases n with
    | zero => rfl
    | succ n =>
      show skp (m + n + ari r.c0) rs = skp m (skp (n + ari r.c0) rs)
      rw [Nat.add_assoc]
      exact ih m _
/-- the place behind a part -/
def bhv (ps : List Row) (k : Nat) : Int := ((ps.length - (skp 1 (ps.drop k)).length : Nat) : Int)
/-- a text's cells hold these rows -/
def TT (ps : List Row) (t : Int) (M : Mem) : Prop := (ps.length ≤ 40 ∧ mG M t 0 = t + 1 ∧ mG M t 1 = t + 2 ∧ mG M t 2 = t + 3 ∧ mG M t 3 = t + 4 ∧ mG M t 4 = t + 5 ∧ mG M t 5 = (ps.length : Int)) ∧ (∀ (k : Nat) (r : Row), ps[k]? = some r → mG M (t + 1) (k : Int) = r.c0 ∧ mG M (t + 2) (k : Int) = r.c1 ∧ mG M (t + 3) (k : Int) = r.c2 ∧ mG M (t + 4) (k : Int) = r.c3) ∧ ∀ k : Nat, k < ps.length → mG M (t + 5) (k : Int) = bhv ps k
theorem TT.of {ps : List Row} {t : Int} {M M' : Mem} (h : TT ps t M) (g : ∀ b j : Int, t ≤ b → b ≤ t + 5 → mG M' b j = mG M b j) : TT ps t M' := by
  obtain ⟨⟨h0, h1, h2, h3, h4, h5, h6⟩, h7, h8⟩ := h
  refine ⟨⟨h0, (g _ _ (by omega) (by omega)).trans h1, (g _ _ (by omega) (by omega)).trans h2, (g _ _ (by omega) (by omega)).trans h3, (g _ _ (by omega) (by omega)).trans h4, (g _ _ (by omega) (by omega)).trans h5, (g _ _ (by omega) (by omega)).trans h6⟩, fun k r hr => ?_, fun k hk => (g _ _ (by omega) (by omega)).trans (h8 k hk)⟩
  obtain ⟨a, b, c, d⟩ := h7 k r hr
  exact ⟨(g _ _ (by omega) (by omega)).trans a, (g _ _ (by omega) (by omega)).trans b, (g _ _ (by omega) (by omega)).trans c, (g _ _ (by omega) (by omega)).trans d⟩
theorem pu_partsInside {a : Int} {M : Mem} (h : 0 ≤ a) : pw (mX5_partsInside a M) (fun q => q.2 = M ∧ q.1 = ((ari a : Nat) : Int)) := by
  have one : a ≤ 4 → ((ari a : Nat) : Int) = 1 := fun h => by unfold ari; rw [if_pos h]; rfl
  have two : 5 ≤ a → a ≤ 7 → ((ari a : Nat) : Int) = 2 := fun h h2 => by unfold ari; rw [if_neg (by omega), if_pos h2]; rfl
  have zer : 8 ≤ a → ((ari a : Nat) : Int) = 0 := fun h => by unfold ari; rw [if_neg (by omega), if_neg (by omega)]; rfl
  unfold mX5_partsInside
  refine p_if (fun c => p_ret ⟨rfl, (one (by omega)).symm⟩) (fun c0 => ?_)
  refine p_if (fun c => p_ret ⟨rfl, (one (by omega)).symm⟩) (fun c1 => ?_)
  refine p_if (fun c => p_ret ⟨rfl, (one (by omega)).symm⟩) (fun c2 => ?_)
  refine p_if (fun c => p_ret ⟨rfl, (one (by omega)).symm⟩) (fun c3 => ?_)
  refine p_if (fun c => p_ret ⟨rfl, (one (by omega)).symm⟩) (fun c4 => ?_)
  refine p_if (fun c => p_ret ⟨rfl, (two (by omega) (by omega)).symm⟩) (fun c5 => ?_)
  refine p_if (fun c => p_ret ⟨rfl, (two (by omega) (by omega)).symm⟩) (fun c6 => ?_)
  exact p_if (fun c => p_ret ⟨rfl, (two (by omega) (by omega)).symm⟩) (fun c7 => p_ret ⟨rfl, (zer (by omega)).symm⟩)
/-- the rows of a text are those of the draft -/
def DR (ps : List Row) (M0 : Mem) : Prop := ∀ (k : Nat) (r : Row), ps[k]? = some r → 0 ≤ r.c0 ∧ mG M0 67 (k : Int) = r.c0 ∧ mG M0 68 (k : Int) = r.c1 ∧ mG M0 69 (k : Int) = r.c2 ∧ mG M0 70 (k : Int) = r.c3
theorem TB.tt {ps : List Row} {t : Int} {M0 M : Mem} (h : TB M0 t ps.length (ps.length : Int) M) (d : DR ps M0) (h2 : ps.length ≤ 40) (hb : ∀ k : Nat, k < ps.length → mG M (t + 5) (k : Int) = bhv ps k) : TT ps t M := by
  obtain ⟨a1, a2, a3, a4, a5, a6, a7, a8⟩ := h
  refine ⟨⟨h2, ?_, ?_, ?_, ?_, ?_, a6⟩, fun k r hr => ?_, hb⟩
  · rw [a5 0 (by decide) (by decide)]; omega
  · rw [a5 1 (by decide) (by decide)]; omega
  · rw [a5 2 (by decide) (by decide)]; omega
  · rw [a5 3 (by decide) (by decide)]; omega
  · rw [a5 4 (by decide) (by decide)]; omega
  · have lt : k < ps.length := by
      by_cases y : k < ps.length
      · exact y
      · rw [List.getElem?_eq_none (by omega)] at hr; cases hr
    obtain ⟨_, d1, d2, d3, d4⟩ := d k r hr
    have e0 := a8 0 k (by decide) (by decide) (by omega) (by omega)
    have e1 := a8 1 k (by decide) (by decide) (by omega) (by omega)
    have e2 := a8 2 k (by decide) (by decide) (by omega) (by omega)
    have e3 := a8 3 k (by decide) (by decide) (by omega) (by omega)
    rw [show t + 1 + 0 = t + 1 by omega, show (67 : Int) + 0 = 67 from rfl] at e0
    rw [show t + 1 + 1 = t + 2 by omega, show (67 : Int) + 1 = 68 from rfl] at e1
    rw [show t + 1 + 2 = t + 3 by omega, show (67 : Int) + 2 = 69 from rfl] at e2
    rw [show t + 1 + 3 = t + 4 by omega, show (67 : Int) + 3 = 70 from rfl] at e3
    exact ⟨e0.trans d1, e1.trans d2, e2.trans d3, e3.trans d4⟩
theorem getE {ps : List Row} {k : Nat} (h : k < ps.length) : ∃ r, ps[k]? = some r ∧ ps.drop k = r :: ps.drop (k + 1) := ⟨ps[k], List.getElem?_eq_getElem h, List.drop_eq_getElem_cons h⟩
theorem q_findBehind {ps : List Row} {M0 M : Mem} {t : Int} (h : TB M0 t ps.length (ps.length : Int) M) (d : DR ps M0) (h2 : ps.length ≤ 40) : pw (mX5_findBehind t M) (fun q => TT ps t q.2) := by
  have key : ∀ (fu : Nat) (l1 : Int) (M : Mem), TB M0 t ps.length (ps.length : Int) M → -1 ≤ l1 → l1 < (ps.length : Int) → (∀ k : Nat, k < ps.length → l1 < (k : Int) → mG M (t + 5) (k : Int) = bhv ps k) → pw (mX5_findBehind_8 fu t l1 M) (fun q => TT ps t q.2) := by
    intro fu
    induction fu with
    | zero => intro l1 M _ _ _ _; exact p_none
    | succ fu ih =>
      intro l1 M hb b0 b1 hk
      show pw (bX5_findBehind_8 (mX5_findBehind_8 fu) t l1 M) _
      unfold bX5_findBehind_8
      refine p_if (fun c => p_ret (hb.tt d h2 (fun k hk1 => hk k hk1 (by omega)))) (fun c => ?_)
      obtain ⟨p, rfl⟩ := Int.eq_ofNat_of_zero_le (a := l1) (by omega)
      have b1 : p < ps.length := by omega
      obtain ⟨r, hr, hd⟩ := getE b1
      obtain ⟨r0, d0, _⟩ := d p r hr
      have inner : ∀ (fu2 : Nat) (i j : Nat) (l2 : Int) (M : Mem), TB M0 t ps.length (ps.length : Int) M → (∀ k : Nat, k < ps.length → (p : Int) < (k : Int) → mG M (t + 5) (k : Int) = bhv ps k) → i + j = ari r.c0 → l2 = ((ps.length - (skp i (ps.drop (p + 1))).length : Nat) : Int) → pw (mX5_findBehind_26 (mX5_findBehind_8 fu) fu2 t (p : Int) l2 (j : Int) M) (fun q => TT ps t q.2) := by
        intro fu2
        induction fu2 with
        | zero => intro i j l2 M _ _ _ _; exact p_none
        | succ fu2 ih2 =>
          intro i j l2 M hb hk hij hl2
          show pw (bX5_findBehind_26 (mX5_findBehind_8 fu) (mX5_findBehind_26 (mX5_findBehind_8 fu) fu2) t (p : Int) l2 (j : Int) M) _
          obtain ⟨a1, a2, a3, a4, a5, a6, a7, a8⟩ := id hb
          have f0 : mG M t 0 = t + 1 := by rw [a5 0 (by decide) (by decide)]; omega
          have f4 : mG M t 4 = t + 5 := by rw [a5 4 (by decide) (by decide)]; omega
          have sl := skp_len (ps.drop (p + 1)) i
          have dl : (ps.drop (p + 1)).length = ps.length - (p + 1) := List.length_drop ..
          unfold bX5_findBehind_26
          refine p_if (fun e => ?_) (fun e => ?_)
          · have j0 : j = 0 := by omega
            subst j0
            refine p_gFc (ji := 4) rfl f4 (p_aS (fun M1 h1 => ?_))
            rw [wI_id (x := (p : Int) + (-1)) (by omega) (by omega)]
            refine ih _ M1 (hb.beh ⟨by omega, by omega⟩ h1) (by omega) (by omega) (fun k k1 k2 => ?_)
            by_cases ek : k = p
            · subst ek
              rw [st_eq h1, hl2]
              unfold bhv
              rw [hd]
              show _ = ((ps.length - (skp (0 + ari r.c0) (ps.drop (k + 1))).length : Nat) : Int)
              rw [show 0 + ari r.c0 = i by omega]
            · rw [st_ne h1 (fun z => ek (by omega))]; exact hk k k1 (by omega)
          · refine p_gFc (ji := 0) rfl f0 (p_aL (fun v hv => ?_))
            have k1 : (mK M (t + 1)).2 = ps.length := congrArg Prod.snd (a4 1 (by decide) (by decide))
            rw [k1] at hv
            have al := ari_le r.c0
            have w3 := wI_id (x := (j : Int) + (-1)) (by omega) (by omega)
            obtain ⟨j, rfl⟩ : ∃ m, j = m + 1 := ⟨j - 1, by omega⟩
            have w4 : wI (((j + 1 : Nat) : Int) + (-1)) = (j : Int) := by rw [w3]; omega
            refine p_if (fun e2 => ?_) (fun e2 => ?_)
            · refine p_gFc (ji := 0) rfl f0 (p_aL (fun v2 hv2 => ?_))
              rw [k1] at hv2
              unfold mX5_findBehind_53
              rw [w4]
              refine ih2 (i + 1) j v2 M hb hk (by omega) ?_
              have en : (skp i (ps.drop (p + 1))).length = 0 := by omega
              rw [Nat.add_comm i 1, skp_add, List.eq_nil_of_length_eq_zero en, skp_nil, hv2]; rfl
            · obtain ⟨m, hm⟩ := Int.eq_ofNat_of_zero_le (a := l2) (by omega)
              refine p_gFc (ji := 4) rfl f4 (p_aG (fun v2 hv2 => ?_))
              unfold mX5_findBehind_53
              rw [w4]
              have hm2 : ps.length - (skp i (ps.drop (p + 1))).length = m := by omega
              rw [hm, hk m (by omega) (by omega)] at hv2
              refine ih2 (i + 1) j v2 M hb hk (by omega) ?_
              rw [← hv2]
              unfold bhv
              have e5 : skp i (ps.drop (p + 1)) = ps.drop m := by
                rw [sl.2, List.drop_drop]
                congr 1
                omega
              rw [Nat.add_comm i 1, skp_add, e5]
      obtain ⟨a1, a2, a3, a4, a5, a6, a7, a8⟩ := id hb
      have f0 : mG M t 0 = t + 1 := by rw [a5 0 (by decide) (by decide)]; omega
      have e0 := a8 0 p (by decide) (by decide) (by omega) (by omega)
      rw [show t + 1 + 0 = t + 1 by omega, show (67 : Int) + 0 = 67 from rfl] at e0
      refine p_gFc (ji := 0) rfl f0 (p_aGc (e0.trans d0) (p_call (pu_partsInside r0) (fun q m g => ?_)))
      obtain ⟨e, g⟩ := g
      have e : m = M := e
      have g : q = ((ari r.c0 : Nat) : Int) := g
      subst e; subst g
      dsimp only
      rw [wI_id (x := (p : Int) + 1) (by omega) (by omega)]
      refine inner FU 0 (ari r.c0) _ m hb (fun k k1 k2 => hk k k1 k2) (by omega) ?_
      rw [skp_zero, List.length_drop]
      omega
  obtain ⟨a1, a2, a3, a4, a5, a6, a7, a8⟩ := id h
  have f0 : mG M t 0 = t + 1 := by rw [a5 0 (by decide) (by decide)]; omega
  unfold mX5_findBehind
  refine p_gFc (ji := 0) rfl f0 (p_aL (fun v hv => ?_))
  have k1 : (mK M (t + 1)).2 = ps.length := congrArg Prod.snd (a4 1 (by decide) (by decide))
  rw [k1] at hv
  rw [wI_id (x := v - 1) (by omega) (by omega)]
  exact key FU _ M h (by omega) (by omega) (fun k k1 k2 => by omega)
end
section
/-! ===== what a text that is read is like ===== -/
/-- a variable that is bound -/
def BV (sc bo v : Int) : Prop := (0 ≤ v ∧ v ≤ 3) ∧ ¬ bnd bo v = -1
/-- a row that is read where this is bound -/
def rowOK (nr : Int) (k1 k2 : Int → Int) (sc bo : Int) (r : Row) : Prop :=
  (0 ≤ r.c0 ∧ r.c0 ≤ 3 ∧ r.r0 = r.c0 ∧ r.r3 = r.c1 ∧ (0 ≤ r.c1 ∧ r.c1 < 10000) ∧ r.c2 = ishr sc 16 ∧ r.r2 = r.c3 ∧ (0 ≤ r.c3 ∧ r.c3 ≤ 2) ∧ (0 ≤ r.r1 ∧ r.r1 ≤ 3) ∧ ishr sc 16 < 4) ∨
  (4 ≤ r.c0 ∧ r.c0 ≤ 7 ∧ r.r0 = r.c0) ∨
  (r.c0 = 8 ∧ r.r0 = 8 ∧ BV sc bo r.r1 ∧ BV sc bo r.r2 ∧ r.c2 = slt sc r.r1 ∧ r.c3 = slt sc r.r2) ∨
  (r.c0 = 9 ∧ r.r0 = 9 ∧ r.c1 = r.r1 ∧ (0 ≤ r.r1 ∧ r.r1 < nr) ∧ k2 r.r1 = k1 r.r1 ∧ BV sc bo r.r2 ∧ BV sc bo r.r3 ∧ r.c2 = slt sc r.r2 ∧ r.c3 = slt sc r.r3) ∨
  (r.c0 = 10 ∧ r.r0 = 10 ∧ r.c1 = r.r1 ∧ (0 ≤ r.r1 ∧ r.r1 < nr) ∧ k2 r.r1 = k1 r.r1) ∨
  (r.c0 = 11 ∧ r.r0 = 11 ∧ r.c1 = r.r1 ∧ (0 ≤ r.r1 ∧ r.r1 < nr) ∧ k2 r.r1 = -1 ∧ BV sc bo r.r2 ∧ r.c2 = slt sc r.r2 ∧ r.c3 = 0) ∨
  (r.c0 = 11 ∧ r.r0 = 12 ∧ r.c1 = r.r1 ∧ (0 ≤ r.r1 ∧ r.r1 < nr) ∧ ¬ k2 r.r1 = -1 ∧ BV sc bo r.r2 ∧ BV sc bo r.r3 ∧ r.c2 = slt sc r.r2 ∧ r.c3 = slt sc r.r3)
/-- what is bound in the parts that stand in this one -/
def kids (r : Row) (x : Int × Int) : List (Int × Int) :=
  if r.c0 ≤ 3 then [(bindC x.1 (cv r.r1) r.c3 (ishr x.1 16), bindR x.2 r.r1 r.c3)] else if r.c0 = 4 then [x] else if r.c0 ≤ 7 then [x, x] else []
/-- rows that are parts, one for each of what waits -/
def ty (nr : Int) (k1 k2 : Int → Int) : List (Int × Int) → List Row → Prop
  | ws, [] => ws = []
  | [], _ :: _ => False
  | x :: ws, r :: rs => rowOK nr k1 k2 x.1 x.2 r ∧ ty nr k1 k2 (kids r x ++ ws) rs
section
variable {E : RE}
theorem relW_rg {nr : Int} (h0 : 0 ≤ nr) (w : List Int) : -1 ≤ relW nr w ∧ relW nr w < nr ∨ relW nr w = -1 := by
  have hx : ∀ x : Int, -1 ≤ x → -1 ≤ (if nr ≤ x then (-1 : Int) else x) ∧ (if nr ≤ x then (-1 : Int) else x) < nr ∨ (if nr ≤ x then (-1 : Int) else x) = -1 := fun x hx => by
    by_cases c : nr ≤ x
    · rw [if_pos c]; exact Or.inr rfl
    · rw [if_neg c]; exact Or.inl ⟨hx, by omega⟩
  unfold relW
  refine hx _ ?_
  repeat' split
  all_goals decide
theorem rv_in {bo kind b : Int} {x : Int × Int} (h : E.rv bo kind b = some x) : (0 ≤ x.1 ∧ x.1 ≤ 3) ∧ ¬ bnd bo x.1 = -1 := by
  unfold RE.rv at h
  have h : (if varW (E.wd b) = -1 then none else if bnd bo (varW (E.wd b)) = -1 then none else if ¬ kind = -1 ∧ ¬ bnd bo (varW (E.wd b)) = kind then none else some (varW (E.wd b), E.sk (E.we b))) = some x := h
  have v := varW_rg (E.wd b)
  split at h
  · cases h
  split at h
  · cases h
  split at h
  · cases h
  · obtain rfl := Option.some.inj h
    exact ⟨⟨by show 0 ≤ varW (E.wd b); omega, v.2⟩, by assumption⟩
theorem val_b {b : Int} (h0 : 0 ≤ b) (hn : E.n ≤ 400) : ∀ k : Nat, (k : Int) ≤ E.de b - b → 0 ≤ E.val b k ∧ E.val b k < 10 ^ k := by
  intro k
  induction k with
  | zero => intro _; exact ⟨by show (0 : Int) ≤ 0; decide, by show (0 : Int) < 1; decide⟩
  | succ k ih =>
    intro hk
    obtain ⟨a, c⟩ := ih (by omega)
    obtain ⟨_, d2, _⟩ := E.de_spec b h0 hn
    have g := RE.digT (d2 (b + (k : Int)) (by omega) (by omega))
    show 0 ≤ 10 * E.val b k + E.t (b + (k : Int)) - 48 ∧ 10 * E.val b k + E.t (b + (k : Int)) - 48 < 10 ^ (k + 1)
    have p : (10 : Int) ^ (k + 1) = 10 * 10 ^ k := by rw [Int.pow_succ]; omega
    rw [p]
    generalize (10 : Int) ^ k = X at c
    omega
theorem rn_in {a b : Int} {x : Int × Int} (h0 : 0 ≤ b) (hn : E.n ≤ 400) (h : E.rn a b = some x) : 0 ≤ x.1 ∧ x.1 < 10000 := by
  unfold RE.rn at h
  split at h
  · obtain rfl := Option.some.inj h; exact ⟨(show (0 : Int) ≤ 0 by decide), (show (0 : Int) < 10000 by decide)⟩
  split at h
  · rename_i c
    obtain rfl := Option.some.inj h
    obtain ⟨d1, _⟩ := E.de_spec b h0 hn
    obtain ⟨a, c2⟩ := val_b (E := E) h0 hn (E.de b - b).toNat (by omega)
    refine ⟨a, Int.lt_of_lt_of_le c2 ?_⟩
    have : (10 : Int) ^ (E.de b - b).toNat = ((10 ^ (E.de b - b).toNat : Nat) : Int) := by simp
    rw [this]
    have : (10 : Nat) ^ (E.de b - b).toNat ≤ 10 ^ 4 := Nat.pow_le_pow_right (by decide) (by omega)
    omega
  · cases h
/-- a part that is read: one row more, as it must be, and what stands in it waits -/
theorem rPart_ty {S S' : RS} {sc bo : Int} {ws : List (Int × Int)} (hnr : 0 ≤ E.nr) (hn : E.n ≤ 400) (hb : 0 ≤ S.b) (hS : S.ws = (sc, bo) :: ws) (h : E.rPart S = some S') : ∃ r, S'.ps = S.ps ++ [r] ∧ S'.ws = kids r (sc, bo) ++ ws ∧ rowOK E.nr E.k1 E.k2 sc bo r ∧ 0 ≤ S'.b := by
  obtain ⟨b, ws0, ps⟩ := S
  have hS : ws0 = (sc, bo) :: ws := hS
  have hb : 0 ≤ b := hb
  subst hS
  have h : (if 40 ≤ ps.length then none else if actW (E.wd b) = -1 then E.rFact sc bo ws ps b else if actW (E.wd b) ≤ 3 then E.rBind (actW (E.wd b)) sc bo ws ps b else if actW (E.wd b) = 8 then E.rSame sc bo ws ps b else if actW (E.wd b) = 9 then E.rReach sc bo ws ps b else if actW (E.wd b) = 10 then E.rTree ws ps b else some ⟨E.sk (E.we b), if actW (E.wd b) = 4 then (sc, bo) :: ws else (sc, bo) :: (sc, bo) :: ws, ps ++ [⟨actW (E.wd b), 0, 0, 0, actW (E.wd b), 0, 0, 0⟩]⟩) = some S' := h
  show ∃ r, S'.ps = ps ++ [r] ∧ S'.ws = kids r (sc, bo) ++ ws ∧ rowOK E.nr E.k1 E.k2 sc bo r ∧ 0 ≤ S'.b
  have nx : ∀ b : Int, 0 ≤ b → 0 ≤ E.sk (E.we b) := fun b hb => by
    have w := (E.we_spec b hb hn).1
    have s := (E.sk_spec (E.we b) (by omega) hn).1
    omega
  have nv : ∀ {bo kind b x}, 0 ≤ b → E.rv bo kind b = some x → 0 ≤ x.2 := fun {bo kind b x} hb hx => by
    unfold RE.rv at hx
    have hx : (if varW (E.wd b) = -1 then none else if bnd bo (varW (E.wd b)) = -1 then none else if ¬ kind = -1 ∧ ¬ bnd bo (varW (E.wd b)) = kind then none else some (varW (E.wd b), E.sk (E.we b))) = some x := hx
    split at hx
    · cases hx
    split at hx
    · cases hx
    split at hx
    · cases hx
    · obtain rfl := Option.some.inj hx; exact nx b hb
  have av := actW_in (E.wd b)
  have nb := nx b hb
  split at h
  · cases h
  split at h
  · unfold RE.rFact at h
    dsimp only at h
    split at h
    · cases h
    · rename_i hr
      have rg := relW_rg hnr (E.wd b)
      cases e : E.rv bo (E.k1 (relW E.nr (E.wd b))) (E.sk (E.we b)) with
      | none => rw [e] at h; cases h
      | some x =>
        rw [e] at h
        dsimp only [Option.bind] at h
        split at h
        · rename_i hk
          obtain rfl := Option.some.inj h
          refine ⟨_, rfl, rfl, Or.inr (Or.inr (Or.inr (Or.inr (Or.inr (Or.inl ⟨rfl, rfl, rfl, ⟨?_, ?_⟩, hk, (show BV sc bo x.1 from rv_in e), rfl, rfl⟩))))), nv nb e⟩
          · show 0 ≤ relW E.nr (E.wd b); omega
          · show relW E.nr (E.wd b) < E.nr; omega
        · rename_i hk
          split at h
          · cases h
          · rename_i y ey
            obtain rfl := Option.some.inj h
            refine ⟨_, rfl, rfl, Or.inr (Or.inr (Or.inr (Or.inr (Or.inr (Or.inr ⟨rfl, rfl, rfl, ⟨?_, ?_⟩, hk, (show BV sc bo x.1 from rv_in e), (show BV sc bo y.1 from rv_in ey), rfl, rfl⟩))))), nv (nv nb e) ey⟩
            · show 0 ≤ relW E.nr (E.wd b); omega
            · show relW E.nr (E.wd b) < E.nr; omega
  split at h
  · rename_i a3
    unfold RE.rBind at h
    split at h
    · cases h
    · rename_i hd
      cases e : E.rn (actW (E.wd b)) (E.sk (E.we b)) with
      | none => rw [e] at h; cases h
      | some c =>
        rw [e] at h
        dsimp only [Option.bind] at h
        split at h
        · cases h
        · split at h
          · cases h
          · rename_i hv hk
            obtain rfl := Option.some.inj h
            have v1 := varW_rg (E.wd c.2)
            have k1 := kindW_rg (E.wd (E.sk (E.we c.2)))
            have c2 : 0 ≤ c.2 := by
              unfold RE.rn at e
              split at e
              · obtain rfl := Option.some.inj e; exact nb
              split at e
              · obtain rfl := Option.some.inj e
                have w := (E.de_spec _ nb hn).1
                have s := (E.sk_spec (E.de (E.sk (E.we b))) (by omega) hn).1
                show 0 ≤ E.sk (E.de (E.sk (E.we b)))
                omega
              · cases e
            have a0 : 0 ≤ actW (E.wd b) := by omega
            refine ⟨_, rfl, ?_, Or.inl ⟨a0, a3, rfl, rfl, rn_in nb hn e, rfl, rfl, ⟨?_, ?_⟩, ⟨?_, ?_⟩, by omega⟩, nx _ (nx _ c2)⟩
            · unfold kids
              show _ = (if actW (E.wd b) ≤ 3 then _ else _) ++ ws
              rw [if_pos a3]; rfl
            · show 0 ≤ kindW (E.wd (E.sk (E.we c.2))); omega
            · show kindW (E.wd (E.sk (E.we c.2))) ≤ 2; omega
            · show 0 ≤ varW (E.wd c.2); omega
            · show varW (E.wd c.2) ≤ 3; omega
  rename_i a3
  split at h
  · rename_i a8
    unfold RE.rSame at h
    cases e : E.rv bo (-1) (E.sk (E.we b)) with
    | none => rw [e] at h; cases h
    | some x =>
      rw [e] at h
      dsimp only [Option.bind] at h
      split at h
      · cases h
      · rename_i y ey
        obtain rfl := Option.some.inj h
        exact ⟨_, rfl, rfl, Or.inr (Or.inr (Or.inl ⟨rfl, rfl, (show BV sc bo x.1 from rv_in e), (show BV sc bo y.1 from rv_in ey), rfl, rfl⟩)), nv (nv nb e) ey⟩
  have road : ∀ {b r}, 0 ≤ b → E.rRoad b = some r → (0 ≤ r.1 ∧ r.1 < E.nr) ∧ E.k2 r.1 = E.k1 r.1 ∧ 0 ≤ r.2 := fun {b r} hb hr => by
    unfold RE.rRoad at hr
    have hr : (if relW E.nr (E.wd b) = -1 then none else if ¬ E.k2 (relW E.nr (E.wd b)) = E.k1 (relW E.nr (E.wd b)) then none else some (relW E.nr (E.wd b), E.sk (E.we b))) = some r := hr
    have rg := relW_rg hnr (E.wd b)
    split at hr
    · cases hr
    split at hr
    · cases hr
    · rename_i z1 z2
      obtain rfl := Option.some.inj hr
      refine ⟨⟨?_, ?_⟩, Decidable.byContradiction z2, nx b hb⟩
      · show 0 ≤ relW E.nr (E.wd b); omega
      · show relW E.nr (E.wd b) < E.nr; omega
  split at h
  · unfold RE.rReach at h
    cases e : E.rRoad (E.sk (E.we b)) with
    | none => rw [e] at h; cases h
    | some r =>
      rw [e] at h
      dsimp only [Option.bind] at h
      obtain ⟨r1, r2, r3⟩ := road nb e
      split at h
      · cases h
      · rename_i x hx
        dsimp only at h
        split at h
        · cases h
        · rename_i y ey
          obtain rfl := Option.some.inj h
          exact ⟨_, rfl, rfl, Or.inr (Or.inr (Or.inr (Or.inl ⟨rfl, rfl, rfl, r1, r2, (show BV sc bo x.1 from rv_in hx), (show BV sc bo y.1 from rv_in ey), rfl, rfl⟩))), nv (nv r3 hx) ey⟩
  split at h
  · unfold RE.rTree at h
    cases e : E.rRoad (E.sk (E.we b)) with
    | none => rw [e] at h; cases h
    | some r =>
      rw [e] at h
      obtain ⟨r1, r2, r3⟩ := road nb e
      obtain rfl := Option.some.inj h
      exact ⟨_, rfl, rfl, Or.inr (Or.inr (Or.inr (Or.inr (Or.inl ⟨rfl, rfl, rfl, r1, r2⟩)))), r3⟩
  · rename_i a8 a9 a10
    obtain rfl := Option.some.inj h
    refine ⟨_, rfl, ?_, Or.inr (Or.inl ⟨?_, ?_, rfl⟩), nb⟩
    · unfold kids
      show (if actW (E.wd b) = 4 then (sc, bo) :: ws else (sc, bo) :: (sc, bo) :: ws) = (if actW (E.wd b) ≤ 3 then _ else if actW (E.wd b) = 4 then _ else if actW (E.wd b) ≤ 7 then _ else _) ++ ws
      rw [if_neg a3]
      by_cases e4 : actW (E.wd b) = 4
      · rw [if_pos e4, if_pos e4]; rfl
      · rw [if_neg e4, if_neg e4, if_pos (by omega)]; rfl
    · show 4 ≤ actW (E.wd b); omega
    · show actW (E.wd b) ≤ 7; omega
theorem rLoop_ty (hnr : 0 ≤ E.nr) (hn : E.n ≤ 400) : ∀ (k : Nat) (S S' : RS), 0 ≤ S.b → E.rLoop k S = some S' → ∃ qs, S'.ps = S.ps ++ qs ∧ ty E.nr E.k1 E.k2 S.ws qs := by
  intro k
  induction k with
  | zero => intro S S' _ h; cases h
  | succ k ih =>
    intro S S' hb h
    have h : (if S.ws = [] then some S else (E.rPart S).bind (E.rLoop k)) = some S' := h
    by_cases e : S.ws = []
    · rw [if_pos e] at h
      obtain rfl := Option.some.inj h
      exact ⟨[], by simp, e⟩
    · rw [if_neg e] at h
      cases hw : S.ws with
      | nil => exact absurd hw e
      | cons x ws =>
        obtain ⟨sc, bo⟩ := x
        cases e1 : E.rPart S with
        | none => rw [e1] at h; cases h
        | some S1 =>
          rw [e1] at h
          obtain ⟨r, p1, p2, p3, p4⟩ := rPart_ty hnr hn hb hw e1
          obtain ⟨qs, q1, q2⟩ := ih S1 S' p4 h
          refine ⟨r :: qs, by rw [q1, p1]; simp, p3, ?_⟩
          rw [← p2]; exact q2
theorem rText_ty (hnr : 0 ≤ E.nr) (hn : E.n ≤ 400) {ps : List Row} (h : E.rText = some ps) : ty E.nr E.k1 E.k2 [(0, 255)] ps := by
  have h : (E.rLoop 42 ⟨E.sk 0, [(0, 255)], []⟩).bind E.rEnd = some ps := h
  cases e : E.rLoop 42 ⟨E.sk 0, [(0, 255)], []⟩ with
  | none => rw [e] at h; cases h
  | some S' =>
    rw [e] at h
    obtain ⟨qs, q1, q2⟩ := rLoop_ty hnr hn 42 (⟨E.sk 0, [(0, 255)], []⟩ : RS) S' (E.sk_spec 0 (by decide) hn).1 e
    have h : (if E.n ≤ S'.b then some S'.ps else none) = some ps := h
    split at h
    · obtain rfl := Option.some.inj h
      rw [q1]; exact q2
    · cases h
theorem rowOK.c0 {nr sc bo : Int} {k1 k2 : Int → Int} {r : Row} (h : rowOK nr k1 k2 sc bo r) : 0 ≤ r.c0 ∧ r.c0 ≤ 11 := by
  unfold rowOK at h
  rcases h with h | h | h | h | h | h | h <;> omega
theorem ty.c0 {nr : Int} {k1 k2 : Int → Int} : ∀ (ps : List Row) (ws : List (Int × Int)), ty nr k1 k2 ws ps → ∀ r, r ∈ ps → 0 ≤ r.c0 := by
  intro ps
  induction ps with
  | nil => intro ws _ r hr; cases hr
  | cons p ps ih =>
    intro ws h r hr
    cases ws with
    | nil => exact absurd h id
    | cons x ws =>
      obtain ⟨h1, h2⟩ := h
      rcases List.mem_cons.mp hr with e | e
      · subst e; exact h1.c0.1
      · exact ih _ h2 r e
end
end
section
/-! ===== the class reads a tape ===== -/
section
variable {n : Nat}
theorem q_finished {ps : List Row} {M0 : Mem} (iM : I n M0) (h5 : mG M0 66 5 = (ps.length : Int)) (d : DR ps M0) (h2 : ps.length ≤ 40) : pw (mX5_finished 66 M0) (fun q => 169 < q.1 ∧ TT ps q.1 q.2) := by
  have hn : (169 : Int) ≤ (mN M0 : Int) := by have := iM.2.2.2.2.1; have := iM.2.2.2.1; omega
  obtain ⟨t, ht⟩ : ∃ t : Int, t = (mN M0 : Int) + 1 := ⟨_, rfl⟩
  have loop : ∀ (fu : Nat) (u : Int) (M : Mem), TB M0 t ps.length u M → 0 ≤ u → u ≤ (ps.length : Int) → pw (mX5_finished_14 fu 66 t u M) (fun q => 169 < q.1 ∧ TT ps q.1 q.2) := by
    intro fu
    induction fu with
    | zero => intro u M _ _ _; exact p_none
    | succ fu ih =>
      intro u M hb b0 b1
      show pw (bX5_finished_14 (mX5_finished_14 fu) 66 t u M) _
      obtain ⟨a1, a2, a3, a4, a5, a6, a7, a8⟩ := id hb
      have g0 : mG M 66 0 = 67 := ((a2 66 (by omega)).2 0).trans (rd_Draft_0 iM (a := 66) rfl)
      have g1 : mG M 66 1 = 68 := ((a2 66 (by omega)).2 1).trans (rd_Draft_1 iM (a := 66) rfl)
      have g2 : mG M 66 2 = 69 := ((a2 66 (by omega)).2 2).trans (rd_Draft_2 iM (a := 66) rfl)
      have g3 : mG M 66 3 = 70 := ((a2 66 (by omega)).2 3).trans (rd_Draft_3 iM (a := 66) rfl)
      have f0 : mG M t 0 = t + 1 := by rw [a5 0 (by decide) (by decide)]; omega
      have f1 : mG M t 1 = t + 2 := by rw [a5 1 (by decide) (by decide)]; omega
      have f2 : mG M t 2 = t + 3 := by rw [a5 2 (by decide) (by decide)]; omega
      have f3 : mG M t 3 = t + 4 := by rw [a5 3 (by decide) (by decide)]; omega
      have k1 : (mK M (t + 1)).2 = ps.length := congrArg Prod.snd (a4 1 (by decide) (by decide))
      have k67 : (mK M 67).2 = 40 := congrArg Prod.snd ((a2 67 (by omega)).1.trans (kl_67 iM))
      have t65 : u = (ps.length : Int) → pw (mX5_finished_65 t M) (fun q => 169 < q.1 ∧ TT ps q.1 q.2) := by
        intro e
        subst e
        unfold mX5_finished_65
        exact p_gK (p_call (q_findBehind hb d h2) (fun r m hm => p_ret ⟨by show 169 < t; omega, hm⟩))
      unfold bX5_finished_14
      refine p_gFc (ji := 5) rfl (((a2 66 (by omega)).2 5).trans h5) (p_if (fun c => t65 (by omega)) (fun c => ?_))
      refine p_gFc (ji := 0) rfl g0 (p_aL (fun v hv => p_if (fun c2 => ?_) (fun c2 => ?_)))
      · rw [k67] at hv; exfalso; omega
      refine p_gFc (ji := 0) rfl g0 (p_aGc ((a2 67 (by omega)).2 u) (p_gFc (ji := 1) rfl g1 (p_aGc ((a2 68 (by omega)).2 u) (p_gFc (ji := 2) rfl g2 (p_aGc ((a2 69 (by omega)).2 u) (p_gFc (ji := 3) rfl g3 (p_aGc ((a2 70 (by omega)).2 u) (p_gK ?_))))))))
      have w1 := wI_id (x := u + 1) (by omega) (by omega)
      refine p_call (P := fun q => TB M0 t ps.length (u + 1) q.2) ?_ (fun r m hm => ?_)
      · unfold mX5_write
        refine p_gFc (ji := 5) rfl a6 (p_gFc (ji := 0) rfl f0 (p_aL (fun v hv => p_if (fun c3 => ?_) (fun c3 => ?_))))
        · rw [k1] at hv; exfalso; omega
        refine p_gFc (ji := 0) rfl f0 (p_gFc (ji := 5) rfl a6 (p_aS (fun M1 h1 => ?_)))
        refine p_gFc (ji := 1) rfl ((st_ne h1 (fun z => by omega)).trans f1) (p_gFc (ji := 5) rfl ((st_ne h1 (fun z => by omega)).trans a6) (p_aS (fun M2 h2 => ?_)))
        have g2 : ∀ j, mG M2 t j = mG M t j := fun j => (st_ne h2 (fun z => by omega)).trans (st_ne h1 (fun z => by omega))
        refine p_gFc (ji := 2) rfl ((g2 _).trans f2) (p_gFc (ji := 5) rfl ((g2 _).trans a6) (p_aS (fun M3 h3 => ?_)))
        have g3 : ∀ j, mG M3 t j = mG M t j := fun j => (st_ne h3 (fun z => by omega)).trans (g2 j)
        refine p_gFc (ji := 3) rfl ((g3 _).trans f3) (p_gFc (ji := 5) rfl ((g3 _).trans a6) (p_aS (fun M4 h4 => ?_)))
        have g4 : ∀ j, mG M4 t j = mG M t j := fun j => (st_ne h4 (fun z => by omega)).trans (g3 j)
        unfold mX5_write_53
        refine p_gFc (ji := 5) rfl ((g4 _).trans a6) ?_
        rw [w1]
        exact p_pF (ji := 5) rfl (fun M5 h5 => p_ret (hb.write b0 h1 h2 h3 h4 h5))
      · dsimp only
        rw [w1]
        exact ih _ m hm (by omega) (by omega)
  unfold mX5_finished
  refine p_call (P := fun q => q.1 = t ∧ q.2 = mNew M0 (5, 0)) (p_ret ⟨ht.symm, rfl⟩) (fun v M1 h => ?_)
  obtain ⟨ev, hM1⟩ := h
  have ev : v = t := ev
  have hM1 : M1 = mNew M0 (5, 0) := hM1
  subst ev
  have kt : mK M1 v = (5, 0) := nw_kn hM1 ht
  refine p_gFc (ji := 5) rfl ((nw_g hM1 (by omega)).trans h5) (p_gK ?_)
  refine p_call (P := fun q => IB M0 v ps.length 5 q.2) ?_ (fun r m hb => ?_)
  · unfold mX5_init
    refine p_gK (p_pF (ji := 5) rfl (fun M6 h6 => ?_))
    have b0 : IB M0 v ps.length 0 M6 := by
      refine ⟨by rw [st_n h6, nw_n hM1]; omega, fun b hb => ⟨by rw [st_k h6, nw_k hM1 (by omega)], fun j => by rw [st_ne h6 (fun z => by omega), nw_g hM1 (by omega)]⟩, by rw [st_k h6]; exact kt, fun i i0 i1 => by omega, fun i i0 i1 => by omega, st_eq h6, fun i j i0 i1 => by omega⟩
    refine p_some (fun b14 e14 => ?_)
    have e14 : b14 = (ps.length : Int) := by rw [e14]; split <;> omega
    subst e14
    have stp : ∀ (k : Int) (kn : Nat) (M : Mem) (f : Int × Mem → Mem → Option (Int × Mem)), (kn : Int) = k → 0 ≤ k → k ≤ 4 → IB M0 v ps.length k M → (∀ M2 q, IB M0 v ps.length (k + 1) M2 → pw (f q M2) (fun q => IB M0 v ps.length 5 q.2)) → pw ((nA 10 40 M (ps.length : Int)).bind fun q17 => (pF 5 kn q17.2 v q17.1).bind fun M19 => f q17 M19) (fun q => IB M0 v ps.length 5 q.2) := by
      intro k kn M f ek k0 k1 hb hf
      refine p_call (P := fun q => q.1 = (mN M : Int) + 1 ∧ q.2 = mNew M (10, ps.length)) ?_ (fun a M2 h => ?_)
      · unfold nA
        exact p_if (fun _ => p_ret ⟨rfl, by show mNew M (10, ((ps.length : Int)).toNat) = _; rw [Int.toNat_natCast]⟩) (fun _ => p_none)
      · obtain ⟨ha, h2⟩ := h
        have ha : a = (mN M : Int) + 1 := ha
        have h2 : M2 = mNew M (10, ps.length) := h2
        dsimp only
        refine p_pF (ji := k) ek (fun M3 h3 => ?_)
        exact hf M3 _ (hb.step ⟨k0, k1⟩ h2 (by rw [h3, ha]))
    refine stp 0 0 M6 _ rfl (by decide) (by decide) b0 (fun Ma qa ba => ?_)
    refine stp 1 1 Ma _ rfl (by decide) (by decide) ba (fun Mb qb bb => ?_)
    refine stp 2 2 Mb _ rfl (by decide) (by decide) bb (fun Mc qc bc => ?_)
    refine stp 3 3 Mc _ rfl (by decide) (by decide) bc (fun Md qd bd => ?_)
    refine stp 4 4 Md _ rfl (by decide) (by decide) bd (fun Me qe be => ?_)
    exact p_ret be
  · have hb : IB M0 v ps.length 5 m := hb
    dsimp only
    obtain ⟨a1, a2, a3, a4, a5, a6, a7⟩ := hb
    exact loop FU 0 m ⟨a1, a2, a3, a4, a5, a6, fun j => by rw [a7 5 j (by decide) (by decide)]; decide, fun i j _ _ j0 j1 => by omega⟩ (by decide) (by omega)
/-- what the class reads of -/
def eC (M : Mem) : RE := ⟨mG M 13, mG M 3 5, mG M 4 6, mG M 6, mG M 7⟩
theorem q_read {M : Mem} (iM : I n M) : pw (mX2_read 65 3 M) (fun q => (q.1 = 0 ∧ ¬ mG q.2 3 6 = 0 ∧ (eC M).rText = none) ∨ ∃ ps, (eC M).rText = some ps ∧ 169 < q.1 ∧ TT ps q.1 q.2) := by
  have hn : (169 : Int) ≤ (n : Int) := by have := iM.2.2.2.2.1; omega
  obtain ⟨E, hE⟩ : ∃ E, E = eC M := ⟨_, rfl⟩
  rw [← hE]
  have en : E.n = mG M 3 5 := by rw [hE]; rfl
  have et : ∀ i, E.t i = mG M 13 i := fun i => by rw [hE]; rfl
  have er : E.nr = mG M 4 6 := by rw [hE]; rfl
  have e1 : ∀ i, E.k1 i = mG M 6 i := fun i => by rw [hE]; rfl
  have e2 : ∀ i, E.k2 i = mG M 7 i := fun i => by rw [hE]; rfl
  have r5 := rd_Told_5 iM (a := 3) rfl
  have r6 := rd_Shape_6 iM (a := 4) rfl
  unfold mX2_read
  refine p_pF (ji := 0) rfl (fun M1 h1 => ?_)
  have i1 : I n M1 := wr_Reader_0 iM rfl (Or.inr rfl) h1
  have e10 : mG M1 65 0 = 3 := st_eq h1
  refine p_gFc (ji := 0) rfl e10 (p_gFc (ji := 4) rfl (rd_Told_4 i1 (a := 3) rfl) (p_pF (ji := 1) rfl (fun M2 h2 => ?_)))
  have i2 : I n M2 := wr_Reader_1 i1 rfl (Or.inr rfl) h2
  have e20 : mG M2 65 0 = 3 := (st_ne h2 (fun z => absurd z.2 (by decide))).trans e10
  have g2 : ∀ b j : Int, ¬ b = 65 → mG M2 b j = mG M b j := fun b j hb => (st_ne h2 (fun z => hb z.1)).trans (st_ne h1 (fun z => hb z.1))
  refine p_gFc (ji := 0) rfl e20 (p_gFc (ji := 5) rfl ((g2 3 5 (by decide)).trans en.symm) (p_pF (ji := 2) rfl (fun M3 h3 => ?_)))
  have i3 : I n M3 := wr_Reader_2 i2 rfl (by omega) h3
  have e30 : mG M3 65 0 = 3 := (st_ne h3 (fun z => absurd z.2 (by decide))).trans e20
  refine p_gFc (ji := 0) rfl e30 (p_gFc (ji := 0) rfl (rd_Told_0 i3 (a := 3) rfl) (p_pF (ji := 3) rfl (fun M4 h4 => ?_)))
  have i4 : I n M4 := wr_Reader_3 i3 rfl (Or.inr rfl) h4
  have g4 : ∀ b j : Int, ¬ b = 65 → mG M4 b j = mG M b j := fun b j hb => (st_ne h4 (fun z => hb z.1)).trans ((st_ne h3 (fun z => hb z.1)).trans (g2 b j hb))
  have r4 : RR M4 := by
    refine ⟨(st_ne h4 (fun z => absurd z.2 (by decide))).trans e30, ?_, st_eq h4⟩
    rw [st_ne h4 (fun z => absurd z.2 (by decide)), st_ne h3 (fun z => absurd z.2 (by decide))]; exact st_eq h2
  have l4 : mG M4 65 2 = E.n := (st_ne h4 (fun z => absurd z.2 (by decide))).trans (st_eq h3)
  refine p_gFc (ji := 0) rfl r4.1 (p_gK ?_)
  refine p_call (P := fun q => I n q.2 ∧ mG q.2 3 6 = 0 ∧ (∀ b j : Int, ¬ b = 3 → mG q.2 b j = mG M4 b j)) ?_ (fun q m h => ?_)
  · unfold mX6_clearTape
    refine p_pF (ji := 5) rfl (fun M5 h5 => p_pF (ji := 6) rfl (fun M6 h6 => p_pF (ji := 7) rfl (fun M7 h7 => ?_)))
    have i5 : I n M5 := wr_Told_5 i4 rfl (by decide) h5
    have i6 : I n M6 := wr_Told_6 i5 rfl (by decide) h6
    have i7 : I n M7 := wr_Told_7 i6 rfl (by decide) h7
    refine p_ret ⟨i7, ?_, fun b j hb => ?_⟩
    · show mG M7 3 6 = 0
      rw [st_ne h7 (fun z => absurd z.2 (by decide))]; exact st_eq h6
    · show mG M7 b j = _
      rw [st_ne h7 (fun z => hb z.1), st_ne h6 (fun z => hb z.1), st_ne h5 (fun z => hb z.1)]
  obtain ⟨im, z6, gm⟩ := h
  have im : I n m := im
  have z6 : mG m 3 6 = 0 := z6
  have gm : ∀ b j : Int, ¬ b = 3 → mG m b j = mG M4 b j := gm
  have rm : RR m := RR_of r4 (gm _ _ (by decide)) (gm _ _ (by decide)) (gm _ _ (by decide))
  dsimp only
  refine p_pZ (ji := 4) rfl (fun M5 h5 => p_gFc (ji := 5) (r := 66) rfl ((st_ne h5 (fun z => absurd z.2 (by decide))).trans (rd_Reader_5 im (a := 65) rfl)) (p_pF (ji := 5) rfl (fun M6 h6 => p_pF (ji := 10) rfl (fun M7 h7 => p_pF (ji := 7) rfl (fun M8 h8 => p_gK ?_)))))
  have i5 : I n M5 := wr_Reader_4 im rfl (by decide) h5
  have i6 : I n M6 := wr_Draft_5 i5 rfl (by decide) h6
  have i7 : I n M7 := wr_Reader_10 i6 rfl (by decide) h7
  have i8 : I n M8 := wr_Reader_7 i7 rfl (by decide) h8
  have g8 : ∀ b j : Int, ¬ (b = 65 ∧ 4 ≤ j) → ¬ (b = 66 ∧ j = 5) → mG M8 b j = mG m b j := fun b j x y => by
    rw [st_ne h8 (fun z => x ⟨z.1, by omega⟩), st_ne h7 (fun z => x ⟨z.1, by omega⟩), st_ne h6 y, st_ne h5 (fun z => x ⟨z.1, by omega⟩)]
  have r8 : RR M8 := RR_of rm (g8 _ _ (by omega) (by omega)) (g8 _ _ (by omega) (by omega)) (g8 _ _ (by omega) (by omega))
  have z84 : mG M8 65 4 = 0 := by rw [st_ne h8 (fun z => absurd z.2 (by decide)), st_ne h7 (fun z => absurd z.2 (by decide)), st_ne h6 (fun z => absurd z.1 (by decide))]; exact st_eq h5
  have z87 : mG M8 65 7 = 0 := st_eq h8
  have z8a : mG M8 65 10 = 0 := (st_ne h8 (fun z => absurd z.2 (by decide))).trans (st_eq h7)
  have z85 : mG M8 66 5 = 0 := by rw [st_ne h8 (fun z => absurd z.1 (by decide)), st_ne h7 (fun z => absurd z.1 (by decide))]; exact st_eq h6
  have gg : ∀ b j : Int, ¬ b = 65 → ¬ b = 66 → ¬ b = 3 → mG M8 b j = mG M b j := fun b j x y w => (g8 b j (by omega) (by omega)).trans ((gm b j w).trans (g4 b j x))
  refine p_call (P := fun q => I n q.2 ∧ (∀ b j : Int, ¬ (b = 65 ∧ j = 7) → ¬ b = 72 → mG q.2 b j = mG M8 b j) ∧ mG q.2 65 7 = 1 ∧ mG q.2 72 0 = 0) ?_ (fun q9 m9 h => ?_)
  · refine p_mono (p_and (p_wp (s_X2_expectPart (l1 := 0) (by decide) r8 i8)) (Q := fun q => (∀ b j : Int, ¬ (b = 65 ∧ j = 7) → ¬ b = 72 → mG q.2 b j = mG M8 b j) ∧ mG q.2 65 7 = 1 ∧ mG q.2 72 0 = 0) ?_) (fun q h => ⟨h.1.1, h.2⟩)
    unfold mX2_expectPart
    refine p_gFc (ji := 7) rfl z87 (p_gFc (ji := 6) rfl (r8.ac i8).2.2.2.2.1 (p_aL (fun v hv => p_if (fun c => ?_) (fun c => ?_))))
    · have e : (mK M8 72).2 = 402 := congrArg Prod.snd (kl_72 i8)
      rw [e] at hv
      omega
    refine p_gFc (ji := 6) rfl (r8.ac i8).2.2.2.2.1 (p_gFc (ji := 7) rfl z87 (p_aS (fun M9 h9 => ?_)))
    refine p_gFc (ji := 7) rfl ((st_ne h9 (fun z => absurd z.1 (by decide))).trans z87) (p_pF (ji := 7) rfl (fun Ma ha => p_ret ⟨fun b j x y => ?_, (st_eq ha).trans rfl, ?_⟩))
    · exact (st_ne ha x).trans (st_ne h9 (fun z => y z.1))
    · exact (st_ne ha (fun z => absurd z.1 (by decide))).trans (st_eq h9)
  obtain ⟨i9, g9, z97, z90⟩ := h
  have i9 : I n m9 := i9
  have g9 : ∀ b j : Int, ¬ (b = 65 ∧ j = 7) → ¬ b = 72 → mG m9 b j = mG M8 b j := g9
  have z97 : mG m9 65 7 = 1 := z97
  have z90 : mG m9 72 0 = 0 := z90
  have r9 : RR m9 := RR_of r8 (g9 _ _ (by omega) (by decide)) (g9 _ _ (by omega) (by decide)) (g9 _ _ (by omega) (by decide))
  have ga : ∀ b j : Int, ¬ b = 65 → ¬ b = 66 → ¬ b = 3 → ¬ b = 72 → mG m9 b j = mG M b j := fun b j x y w v => (g9 b j (by omega) v).trans (gg b j x y w)
  have ce : CE E m9 := by
    refine ⟨r9.ac i9, ?_, by omega, fun i i0 i1 => (ga 13 i (by decide) (by decide) (by decide) (by decide)).trans (et i).symm, (ga 4 6 (by decide) (by decide) (by decide) (by decide)).trans er.symm, by omega, ⟨rd_Shape_1 i9 (a := 4) rfl, rd_Shape_2 i9 (a := 4) rfl⟩, fun r r0 r1 => ⟨(ga 6 r (by decide) (by decide) (by decide) (by decide)).trans (e1 r).symm, (ga 7 r (by decide) (by decide) (by decide) (by decide)).trans (e2 r).symm⟩, congrArg Prod.snd (kl_67 i9), congrArg Prod.snd (kl_72 i9)⟩
    rw [g9 65 2 (by omega) (by decide), g8 65 2 (by omega) (by omega), gm 65 2 (by decide)]; exact l4
  have f6 : mG m9 3 6 = 0 := (g9 3 6 (by omega) (by decide)).trans ((g8 3 6 (by omega) (by omega)).trans z6)
  have bf : BFI m9 := fun y => absurd ((g9 65 4 (by omega) (by decide)).trans z84) y
  refine p_gK (p_call (p_and (p_wp (s_X2_advance r9 i9)) (q_advance ce ((g9 65 10 (by omega) (by decide)).trans z8a) ⟨by decide, by omega⟩)) (fun qa ma h => ?_))
  obtain ⟨⟨ia, -⟩, af, ct⟩ := h
  have ia : I n ma := ia
  have af : AF m9 ma := af
  have ct : CTok E (E.sk 0) ma := ct
  have c2 : C2 E (E.sk 0) ma := ⟨af.ce ce, fun y => by rw [af.1 3 6 (by omega)]; exact bf (by rw [← af.1 65 4 (by omega)]; exact y), (af.1 3 6 (by omega)).trans f6, ct⟩
  have d0 : D8 [] ma := ⟨(af.1 66 5 (by omega)).trans ((g9 66 5 (by omega) (by decide)).trans z85), fun k r hr => by cases hr⟩
  have w0 : W8 [((0 : Int), (255 : Int))] ma := ⟨(af.1 65 7 (by omega)).trans z97, fun k x hx => by
    cases k with
    | zero =>
      have hx : ((0 : Int), (255 : Int)) = x := Option.some.inj hx
      subst hx
      exact (af.1 72 _ (by omega)).trans z90
    | succ k => cases hx⟩
  have tx : E.rText = (E.rLoop 42 ⟨E.sk 0, [(0, 255)], []⟩).bind E.rEnd := rfl
  refine q_79 (E := E) FU ⟨E.sk 0, [(0, 255)], []⟩ ma ia c2 d0 w0 (fun x hx => ?_) (by show 0 ≤ 40; decide) (by show 1 ≤ 0 + 1; decide) 42 (by show 42 ≤ 42 + 0; decide) _ (fun q q0 z e => Or.inl ⟨q0, z.2.2, tx.trans e⟩) (fun S' M' e hb i' c' d' hl => ?_)
  · have hx : x ∈ [((0 : Int), (255 : Int))] := hx
    rw [List.mem_singleton] at hx
    subst hx; exact ScR.start
  · have et : E.rText = some S'.ps := by
      rw [tx, e]
      exact if_pos hb
    have tyy := rText_ty (by omega) (by omega) et
    unfold mX2_read_121
    refine p_gFc (ji := 0) rfl c'.ac.1 (p_gFc (ji := 6) rfl c'.2.2.1 (p_it1 rfl (p_gFc (ji := 5) rfl c'.ac.2.2.2.1 (p_gK (p_call (q_finished (ps := S'.ps) i' d'.1 (fun k r hr => ⟨tyy.c0 _ _ r (List.mem_of_getElem? hr), d'.2 k r hr⟩) hl) (fun r m h => p_ret (Or.inr ⟨S'.ps, et, h⟩)))))))
end
end
