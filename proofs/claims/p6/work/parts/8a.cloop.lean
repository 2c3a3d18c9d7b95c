/-! ===== the class's loop over the parts ===== -/
section
variable {E : RE} {M : Mem}
theorem G8.none {q : Int × Mem} (h : G8 E none q) : Z2 q.2 := by
  rcases h with h | ⟨S, h, _⟩
  · exact h.1
  · cases h
theorem z_readBinder {E : RE} {a sc : Int} (z : Z2 M) : pw (mX2_readBinder 65 a sc M) (fun q => Z2 q.2) := by
  unfold mX2_readBinder
  refine p_same pu_depth (fun _ => p_if (fun _ => p_mono (z_rb17 (E := E) (S := none) rfl z) (fun q g => g.none)) (fun _ => ?_))
  exact p_gF rfl (fun _ _ => p_gK (p_call (q_note z.1 z.2.1 (by decide)) (fun _ M1 z1 => p_mono (z_rb17 (E := E) (S := none) rfl z1) (fun q g => g.none))))
theorem z_wr {a c0 c1 c2 c3 : Int} (ha : a = 66) (z : Z2 M) : pw (mX5_write a c0 c1 c2 c3 M) (fun q => Z2 q.2) := by subst ha; exact z_write z
theorem z_readJoint {a sc : Int} (z : Z2 M) : pw (mX2_readJoint 65 a sc M) (fun q => Z2 q.2) := by
  unfold mX2_readJoint
  refine p_gK (p_call (z_adv z) (fun _ M1 z1 => ?_))
  have z1 : Z2 M1 := z1
  exact p_gFc (ji := 5) rfl z1.1.2.2.2.1 (p_gK (p_call (z_write z1) (fun _ M2 z2 => p_gK (p_call (z_expect z2) (fun _ M3 z3 => p_ret z3)))))
theorem z_readSame {sc : Int} (z : Z2 M) : pw (mX2_readSame 65 sc M) (fun q => Z2 q.2) := by
  unfold mX2_readSame
  refine p_gK (p_call (z_adv z) (fun _ M1 z1 => p_gK (p_call (z_takeBound z1) (fun x M2 z2 => p_same pu_kindOf (fun k => p_gK (p_call (z_takeBound z2) (fun y M3 z3 => ?_)))))))
  have z3 : Z2 M3 := z3
  exact p_gFc (ji := 5) rfl z3.1.2.2.2.1 (p_same pu_slotOf (fun _ => p_same pu_slotOf (fun _ => p_gK (p_call (z_write z3) (fun _ M4 z4 => p_ret z4)))))
theorem z_rr33 {sc r s : Int} (z : Z2 M) : pw (mX2_readReach_33 65 sc r s M) (fun q => Z2 q.2) := by
  unfold mX2_readReach_33
  refine p_gK (p_call (z_takeBound z) (fun y M4 z => p_gK (p_call (z_takeBound z) (fun y2 M5 z => ?_))))
  have z : Z2 M5 := z
  exact p_gFc (ji := 5) rfl z.1.2.2.2.1 (p_same pu_slotOf (fun _ => p_same pu_slotOf (fun _ => p_gK (p_call (z_write z) (fun _ M6 z6 => p_ret z6)))))
theorem z_readReach {sc : Int} (z : Z2 M) : pw (mX2_readReach 65 sc M) (fun q => Z2 q.2) := by
  unfold mX2_readReach
  refine p_gK (p_call (z_adv z) (fun _ M1 z1 => p_gK (p_call (z_road z1) (fun r M2 z2 => ?_))))
  have z2 : Z2 M2 := z2
  refine p_gF rfl (fun s _ => p_gK (p_same pu_twice (fun _ => p_if (fun _ => z_rr33 z2) (fun _ => ?_))))
  exact p_gF rfl (fun s2 _ => p_gF rfl (fun s3 _ => p_aG (fun s4 _ => z_rr33 z2)))
theorem z_readTree (z : Z2 M) : pw (mX2_readTree 65 M) (fun q => Z2 q.2) := by
  unfold mX2_readTree
  refine p_gK (p_call (z_adv z) (fun _ M1 z1 => ?_))
  have z1 : Z2 M1 := z1
  exact p_gFc (ji := 5) rfl z1.1.2.2.2.1 (p_gK (p_call (z_road z1) (fun r M2 z2 => p_gK (p_call (z_write z2) (fun _ M3 z3 => p_ret z3)))))
theorem z_rf61 {r x y : Int} (z : Z2 M) : pw (mX2_readFact_61 65 r x y M) (fun q => Z2 q.2) := by
  unfold mX2_readFact_61
  exact p_gFc (ji := 5) rfl z.1.2.2.2.1 (p_same pu_slotOf (fun _ => p_same pu_slotOf (fun _ => p_gK (p_call (z_write z) (fun _ M6 z6 => p_ret z6)))))
theorem z_readFact {sc : Int} (z : Z2 M) : pw (mX2_readFact 65 sc M) (fun q => Z2 q.2) := by
  unfold mX2_readFact
  refine p_gK (p_call (z_rel z) (fun r M1 z1 => ?_))
  have z1 : Z2 M1 := z1
  refine p_gF rfl (fun s _ => p_gK (p_call pu_hasRelation (fun t M2 e => ?_)))
  have e : M2 = M1 := e.1
  subst e
  refine p_if (fun _ => p_ret z1) (fun _ => ?_)
  refine p_gF rfl (fun _ _ => p_gF rfl (fun _ _ => p_aG (fun _ _ => p_gK (p_call (z_takeBound z1) (fun _ M3 z3 => ?_)))))
  have z3 : Z2 M3 := z3
  refine p_gF rfl (fun s _ => p_gK (p_same pu_isOfTwo (fun _ => p_if (fun _ => z_rf61 z3) (fun _ => ?_))))
  exact p_gF rfl (fun _ _ => p_gF rfl (fun _ _ => p_aG (fun _ _ => p_gK (p_call (z_takeBound z3) (fun _ M4 z4 => z_rf61 z4)))))
theorem z_rp56 {E : RE} {sc a : Int} (z : Z2 M) : pw (mX2_readPart_56 65 sc a M) (fun q => Z2 q.2) := by
  have bd : pw ((gK 2 M 65).bind fun _ => (mX2_readBinder 65 a sc M).bind fun q119 => some ((0 : Int), q119.2)) (fun q => Z2 q.2) := p_gK (p_call (z_readBinder (E := E) z) (fun _ M1 z1 => p_ret z1))
  have jt : pw ((gK 2 M 65).bind fun _ => (mX2_readJoint 65 a sc M).bind fun q137 => (gK 2 q137.2 65).bind fun _ => (mX2_expectPart 65 sc q137.2).bind fun q142 => some ((0 : Int), q142.2)) (fun q => Z2 q.2) := p_gK (p_call (z_readJoint z) (fun _ M1 z1 => p_gK (p_call (z_expect z1) (fun _ M2 z2 => p_ret z2))))
  unfold mX2_readPart_56
  refine p_if (fun _ => bd) (fun _ => p_if (fun _ => bd) (fun _ => p_if (fun _ => bd) (fun _ => p_if (fun _ => bd) (fun _ => ?_))))
  refine p_if (fun _ => p_gK (p_call (z_readJoint z) (fun _ M1 z1 => p_ret z1))) (fun _ => p_if (fun _ => jt) (fun _ => p_if (fun _ => jt) (fun _ => p_if (fun _ => jt) (fun _ => ?_))))
  refine p_if (fun _ => p_gK (p_call (z_readSame z) (fun _ M1 z1 => p_ret z1))) (fun _ => p_if (fun _ => p_gK (p_call (z_readReach z) (fun _ M1 z1 => p_ret z1))) (fun _ => p_if (fun _ => p_gK (p_call (z_readTree z) (fun _ M1 z1 => p_ret z1))) (fun _ => ?_)))
  exact p_gK (p_call (z_readFact z) (fun _ M1 z1 => p_ret z1))
theorem z_readPart {E : RE} (z : Z2 M) : pw (mX2_readPart 65 M) (fun q => Z2 q.2) := by
  unfold mX2_readPart
  refine p_gF rfl (fun _ _ => p_pF (ji := 7) rfl (fun M1 h1 => ?_))
  have z1 : Z2 M1 := z.kp (fun c j y => st_ne h1 (by omega))
  refine p_gF rfl (fun _ _ => p_gF rfl (fun _ _ => p_aG (fun _ _ => p_gK (p_same pu_firstWord (fun x => p_if (fun _ => ?_) (fun _ => ?_))))))
  · exact p_gK (p_call (q_refuse z1.1 z1.2.1) (fun _ M3 z => p_ret z.1))
  · refine p_gF rfl (fun _ _ => p_gF rfl (fun _ _ => p_if (fun _ => z_rp56 (E := E) z1) (fun _ => ?_)))
    exact p_gF rfl (fun _ _ => p_gK (p_call (q_note z1.1 z1.2.1 (by decide)) (fun _ M2 z2 => z_rp56 (E := E) z2)))
theorem z_121 (z : Z2 M) : pw (mX2_read_121 65 M) (fun q => q.1 = 0 ∧ Z2 q.2) := by
  unfold mX2_read_121
  exact p_gFc (ji := 0) rfl z.1.1 (p_gF (ji := 6) rfl (fun v hv => p_it0 (fun y => z.2.2 (hv.trans y)) (p_ret ⟨rfl, z⟩)))
theorem z_110 (z : Z2 M) : pw (mX2_read_110 65 M) (fun q => q.1 = 0 ∧ Z2 q.2) := by
  unfold mX2_read_110
  exact p_gF rfl (fun _ _ => p_if (fun _ => z_121 z) (fun _ => p_gK (p_call (q_refuse z.1 z.2.1) (fun _ M1 z1 => z_121 z1.1))))
theorem z_79 {E : RE} : ∀ (fu : Nat) (t : Int) (M : Mem), Z2 M → pw (mX2_read_79 fu 65 t M) (fun q => q.1 = 0 ∧ Z2 q.2) := by
  intro fu
  induction fu with
  | zero => intro t M z; exact p_none
  | succ fu ih =>
    intro t M z
    show pw (bX2_read_79 (mX2_read_79 fu) 65 t M) _
    unfold bX2_read_79
    refine p_if (fun _ => z_110 z) (fun _ => p_gF rfl (fun _ _ => p_if (fun _ => z_110 z) (fun _ => p_gF rfl (fun _ _ => p_if (fun _ => ?_) (fun _ => z_110 z)))))
    exact p_gK (p_call (z_readPart (E := E) z) (fun _ M1 z1 => ih _ _ z1))
/-- what stands at the loop's end, as a text -/
def RE.rEnd (E : RE) (S : RS) : Option (List Row) := if E.n ≤ S.b then some S.ps else none
/-- the loop ends with a fault told, or with all rows and no token left -/
theorem q_79 {n : Nat} : ∀ (fu : Nat) (S : RS) (M : Mem), I n M → C2 E S.b M → D8 S.ps M → W8 S.ws M → (∀ x, x ∈ S.ws → ScR x.1 x.2) → S.ps.length ≤ 40 → S.ws.length ≤ S.ps.length + 1 → ∀ k : Nat, 42 ≤ k + S.ps.length → ∀ (Q : Int × Mem → Prop), (∀ q, q.1 = 0 → Z2 q.2 → (E.rLoop k S).bind E.rEnd = none → Q q) → (∀ S' M', E.rLoop k S = some S' → E.n ≤ S'.b → I n M' → C2 E S'.b M' → D8 S'.ps M' → S'.ps.length ≤ 40 → pw (mX2_read_121 65 M') Q) → pw (mX2_read_79 fu 65 (S.ps.length : Int) M) Q := by
  intro fu
  induction fu with
  | zero => intro S M _ _ _ _ _ _ _ k _ Q _ _; exact p_none
  | succ fu ih =>
    intro S M iM h d w hs hp hw k hk Q q0 q1
    obtain ⟨b, ws, ps⟩ := S
    replace h : C2 E b M := h
    replace d : D8 ps M := d
    replace w : W8 ws M := w
    replace hs : ∀ x, x ∈ ws → ScR x.1 x.2 := hs
    replace hp : ps.length ≤ 40 := hp
    replace hk : 42 ≤ k + ps.length := hk
    replace hw : ws.length ≤ ps.length + 1 := hw
    show pw (bX2_read_79 (mX2_read_79 fu) 65 (ps.length : Int) M) _
    unfold bX2_read_79
    obtain ⟨k, rfl⟩ : ∃ m, k = m + 1 := ⟨k - 1, by omega⟩
    refine p_it0 (by omega) (p_gFc (ji := 7) rfl w.1 ?_)
    cases ws with
    | nil =>
      refine p_it1 (by show ((0 : Nat) : Int) ≤ 0; decide) ?_
      unfold mX2_read_110
      have hb := h.2.2.2.2.1
      have e1 : E.rLoop (k + 1) ⟨b, [], ps⟩ = some ⟨b, [], ps⟩ := if_pos rfl
      refine p_gF (ji := 8) rfl (fun v hv => p_if (fun c => ?_) (fun c => ?_))
      · refine q1 ⟨b, [], ps⟩ M e1 ?_ iM h d hp
        obtain ⟨_, _, t⟩ := h.2.2.2
        rcases t with ⟨t, _⟩ | ⟨_, e, _⟩ | ⟨_, e, _⟩ | ⟨_, _, _, e⟩
        · exact t
        · exfalso; omega
        · exfalso; omega
        · exfalso; omega
      · have nb : ¬ E.n ≤ b := fun y => by
          obtain ⟨_, _, t⟩ := h.2.2.2
          rcases t with ⟨_, e⟩ | ⟨e, _⟩ | ⟨e, _⟩ | ⟨e, _⟩
          · exact c (hv.symm.trans e)
          · have := RE.letT e; omega
          · have := RE.digT e; omega
          · omega
        refine p_gK (p_call (q_refuse h.ac h.2.1) (fun _ M1 z1 => p_mono (z_121 z1.1) (fun q z => q0 q z.1 z.2 ?_)))
        rw [e1]
        exact if_neg nb
    | cons x ws =>
      obtain ⟨sc, bo⟩ := x
      refine p_it0 (by rw [List.length_cons]; omega) (p_gFc (ji := 4) rfl h.br (p_it1 rfl (p_gK ?_)))
      have hsc : ScR sc bo := hs (sc, bo) (List.mem_cons_self ..)
      rw [List.length_cons] at hw
      have w1 : mG M 65 7 = ((ws.length + 1 : Nat) : Int) := w.1
      have d1 : mG M 66 5 = (ps.length : Int) := d.1
      have e1 : E.rLoop (k + 1) ⟨b, (sc, bo) :: ws, ps⟩ = (E.rPart ⟨b, (sc, bo) :: ws, ps⟩).bind (E.rLoop k) := if_neg (by intro y; cases y)
      refine p_call (p_and (p_wp (s_X2_readPart (by omega) (by omega) ⟨h.ac.1, h.ac.2.1, h.ac.2.2.1⟩ iM)) (q_readPart h d w hp (by omega) hsc)) (fun r M1 g => ?_)
      obtain ⟨⟨i1, _⟩, g⟩ := g
      rcases g with ⟨g, en⟩ | ⟨S', e, c', d', w'⟩
      · refine p_mono (z_79 (E := E) fu _ _ g) (fun q z => q0 q z.1 z.2 ?_)
        rw [e1, en]; rfl
      · have ok := rPart_ok (S := ⟨b, (sc, bo) :: ws, ps⟩) rfl e hsc (fun x hx => hs x (List.mem_cons_of_mem _ hx))
        obtain ⟨o1, o2, o3⟩ := ok
        have o2 : S'.ws.length ≤ ws.length + 2 := o2
        have o3 : S'.ps.length = ps.length + 1 := o3
        have lt : ps.length < 40 := by
          by_cases y : ps.length < 40
          · exact y
          · exfalso
            have e : (if 40 ≤ ps.length then none else _) = some S' := e
            rw [if_pos (by omega)] at e; cases e
        have en : wI ((ps.length : Int) + 1) = (S'.ps.length : Int) := by rw [wI_id (x := (ps.length : Int) + 1) (by omega) (by omega)]; omega
        rw [en]
        refine ih S' M1 i1 c' d' w' o1 (by omega) (by omega) k (by omega) Q (fun q z1 z2 z3 => q0 q z1 z2 ?_) (fun S2 M2 e2 => q1 S2 M2 ?_)
        · rw [e1, e]; exact z3
        · rw [e1, e]; exact e2
end
