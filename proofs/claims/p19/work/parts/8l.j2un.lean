/-! ===== calls that change nothing that Rel2 sees ===== -/
theorem J2.ord {x : Option (Int × Mem)} {y : Mem → Option (Int × Mem)} (h : wp x (fun q1 => wp (y q1.2) (fun q2 => (J q2.2 ∧ EQ q1 q2) ∧ Rel2 q2.2))) : wp x (fun q1 => wp (y q1.2) (fun q2 => J2 q2.2 ∧ EQ q1 q2)) :=
  w_mono h (fun q1 h1 => w_mono h1 (fun q2 z => ⟨⟨z.1.1, z.2⟩, z.1.2⟩))
theorem sg_X8_facts : ∀ b j, W_X8_facts b j → SAFE8b b j := fun b j z => by
  unfold W_X8_facts at z
  unfold SAFE8b
  exact z.elim
theorem sg_X9_facts : ∀ b j, W_X9_facts b j → SAFE9b b j := fun b j z => by
  unfold W_X9_facts at z
  unfold SAFE9b
  exact Or.elim z (fun z => (Or.inr (Or.inr (Or.inr (Or.inr (by omega)))))) (fun z => (Or.inl (by omega)))
theorem j2_facts {M : Mem} (h : J2 M) : wp (mX8_facts 1 M) (fun q1 => wp (mX9_facts 126 q1.2) (fun q2 => J2 q2.2 ∧ EQ q1 q2)) := J2.ord (J2.un h (A := fun q1 q2 => J q2.2 ∧ EQ q1 q2) (j_factsE  h.1) (fun i => s_X8_facts i) sg_X8_facts (fun _ w i => s_X9_facts i) sg_X9_facts)
theorem sg_X8_tell : ∀ b j, W_X8_tell b j → SAFE8b b j := fun b j z => by
  unfold W_X8_tell at z
  unfold SAFE8b
  exact (Or.inr (Or.inl (by omega)))
theorem sg_X9_tell : ∀ b j, W_X9_tell b j → SAFE9b b j := fun b j z => by
  unfold W_X9_tell at z
  unfold SAFE9b
  exact Or.elim z (fun z => (Or.inr (Or.inr (Or.inl (by omega))))) (fun z => Or.elim z (fun z => (Or.inr (Or.inr (Or.inr (Or.inr (by omega)))))) (fun z => (Or.inl (by omega))))
theorem j2_tell {l1 l2 l3 l4 : Int} {M : Mem} (r_l1 : (-2147483648) ≤ l1 ∧ l1 ≤ 2147483647) (r_l2 : (-2147483648) ≤ l2 ∧ l2 ≤ 2147483647) (r_l3 : (-2147483648) ≤ l3 ∧ l3 ≤ 2147483647) (r_l4 : 0 ≤ l4 ∧ l4 ≤ 1) (h : J2 M) : wp (mX8_tell 1 l1 l2 l3 l4 M) (fun q1 => wp (mX9_tell 126 l1 l2 l3 l4 q1.2) (fun q2 => J2 q2.2)) := (J2.un h (A := fun q1 q2 => J q2.2) (j_tell r_l1 r_l2 r_l3 r_l4 h.1) (fun i => s_X8_tell r_l1 r_l2 r_l3 r_l4 i) sg_X8_tell (fun _ w i => s_X9_tell r_l1 r_l2 r_l3 r_l4 i) sg_X9_tell)
theorem sg_X8_fact : ∀ b j, W_X8_fact b j → SAFE8b b j := fun b j z => by
  unfold W_X8_fact at z
  unfold SAFE8b
  exact z.elim
theorem sg_X9_fact : ∀ b j, W_X9_fact b j → SAFE9b b j := fun b j z => by
  unfold W_X9_fact at z
  unfold SAFE9b
  exact Or.elim z (fun z => (Or.inr (Or.inr (Or.inr (Or.inr (by omega)))))) (fun z => (Or.inl (by omega)))
theorem j2_fact {l1 l2 l3 : Int} {M : Mem} (r_l1 : (-2147483648) ≤ l1 ∧ l1 ≤ 2147483647) (r_l2 : (-2147483648) ≤ l2 ∧ l2 ≤ 2147483647) (r_l3 : (-2147483648) ≤ l3 ∧ l3 ≤ 2147483647) (h : J2 M) : wp (mX8_fact 1 l1 l2 l3 M) (fun q1 => wp (mX9_fact 126 l1 l2 l3 q1.2) (fun q2 => J2 q2.2)) := (J2.un h (A := fun q1 q2 => J q2.2) (j_fact r_l1 r_l2 r_l3 h.1) (fun i => s_X8_fact r_l1 r_l2 r_l3 i) sg_X8_fact (fun _ w i => s_X9_fact r_l1 r_l2 r_l3 i) sg_X9_fact)
theorem sg_X8_apart : ∀ b j, W_X8_apart b j → SAFE8b b j := fun b j z => by
  unfold W_X8_apart at z
  unfold SAFE8b
  exact Or.elim z (fun z => (Or.inr (Or.inr (Or.inr (by omega))))) (fun z => Or.elim z (fun z => (Or.inr (Or.inr (Or.inr (by omega))))) (fun z => Or.elim z (fun z => (Or.inr (Or.inr (Or.inr (by omega))))) (fun z => (Or.inr (Or.inr (Or.inr (by omega)))))))
theorem sg_X9_apart : ∀ b j, W_X9_apart b j → SAFE9b b j := fun b j z => by
  unfold W_X9_apart at z
  unfold SAFE9b
  exact Or.elim z (fun z => (Or.inr (Or.inr (Or.inr (Or.inr (by omega)))))) (fun z => Or.elim z (fun z => (Or.inr (Or.inr (Or.inr (Or.inr (by omega)))))) (fun z => (Or.inl (by omega))))
theorem j2_apart {l1 : Int} {M : Mem} (r_l1 : (-2147483648) ≤ l1 ∧ l1 ≤ 2147483647) (h : J2 M) : wp (mX8_apart 1 l1 M) (fun q1 => wp (mX9_apart 126 l1 q1.2) (fun q2 => J2 q2.2)) := (J2.un h (A := fun q1 q2 => J q2.2) (j_apart r_l1 h.1) (fun i => s_X8_apart r_l1 i) sg_X8_apart (fun _ w i => s_X9_apart r_l1 i) sg_X9_apart)
theorem sg_X8_fault : ∀ b j, W_X8_fault b j → SAFE8b b j := fun b j z => by
  unfold W_X8_fault at z
  unfold SAFE8b
  exact z.elim
theorem sg_X9_fault : ∀ b j, W_X9_fault b j → SAFE9b b j := fun b j z => by
  unfold W_X9_fault at z
  unfold SAFE9b
  exact (Or.inl (by omega))
theorem j2_fault {l1 : Int} {M : Mem} (r_l1 : (-2147483648) ≤ l1 ∧ l1 ≤ 2147483647) (h : J2 M) : wp (mX8_fault 1 l1 M) (fun q1 => wp (mX9_fault 126 l1 q1.2) (fun q2 => J2 q2.2)) := (J2.un h (A := fun q1 q2 => J q2.2) (j_fault r_l1 h.1) (fun i => s_X8_fault r_l1 i) sg_X8_fault (fun _ w i => s_X9_fault r_l1 i) sg_X9_fault)
theorem sg_X8_day : ∀ b j, W_X8_day b j → SAFE8b b j := fun b j z => by
  unfold W_X8_day at z
  unfold SAFE8b
  exact (Or.inr (Or.inl (by omega)))
theorem sg_X9_day : ∀ b j, W_X9_day b j → SAFE9b b j := fun b j z => by
  unfold W_X9_day at z
  unfold SAFE9b
  exact Or.elim z (fun z => (Or.inr (Or.inl (by omega)))) (fun z => (Or.inl (by omega)))
theorem j2_day {l : Int} {M : Mem} (r1 : (-2147483648) ≤ l ∧ l ≤ 2147483647) (h : J2 M) : wp (mX8_day 1 l M) (fun q1 => wp (mX9_day 126 l q1.2) (fun q2 => J2 q2.2 ∧ EQ q1 q2)) := J2.ord (J2.un h (A := fun q1 q2 => J q2.2 ∧ EQ q1 q2) (j_day r1 h.1) (fun i => s_X8_day r1 i) sg_X8_day (fun _ w i => s_X9_day r1 i) sg_X9_day)
theorem sg_X8_view : ∀ b j, W_X8_view b j → SAFE8b b j := fun b j z => by
  unfold W_X8_view at z
  unfold SAFE8b
  exact (Or.inr (Or.inl (by omega)))
theorem sg_X9_view : ∀ b j, W_X9_view b j → SAFE9b b j := fun b j z => by
  unfold W_X9_view at z
  unfold SAFE9b
  exact Or.elim z (fun z => (Or.inr (Or.inl (by omega)))) (fun z => (Or.inl (by omega)))
theorem j2_view {l : Int} {M : Mem} (r1 : (-2147483648) ≤ l ∧ l ≤ 2147483647) (h : J2 M) : wp (mX8_view 1 l M) (fun q1 => wp (mX9_view 126 l q1.2) (fun q2 => J2 q2.2 ∧ EQ q1 q2)) := J2.ord (J2.un h (A := fun q1 q2 => J q2.2 ∧ EQ q1 q2) (j_view r1 h.1) (fun i => s_X8_view r1 i) sg_X8_view (fun _ w i => s_X9_view r1 i) sg_X9_view)
theorem sg_X8_so : ∀ b j, W_X8_so b j → SAFE8b b j := fun b j z => by
  unfold W_X8_so at z
  unfold SAFE8b
  exact Or.elim z (fun z => (Or.inr (Or.inr (Or.inr (by omega))))) (fun z => Or.elim z (fun z => (Or.inr (Or.inr (Or.inr (by omega))))) (fun z => Or.elim z (fun z => (Or.inr (Or.inr (Or.inr (by omega))))) (fun z => (Or.inr (Or.inr (Or.inr (by omega)))))))
theorem sg_X9_so : ∀ b j, W_X9_so b j → SAFE9b b j := fun b j z => by
  unfold W_X9_so at z
  unfold SAFE9b
  exact Or.elim z (fun z => (Or.inr (Or.inr (Or.inr (Or.inr (by omega)))))) (fun z => Or.elim z (fun z => (Or.inr (Or.inr (Or.inr (Or.inr (by omega)))))) (fun z => Or.elim z (fun z => (Or.inl (by omega))) (fun z => (Or.inl (by omega)))))
theorem j2_so {l1 : Int} {M : Mem} (r_l1 : (-2147483648) ≤ l1 ∧ l1 ≤ 2147483647) (h : J2 M) : wp (mX8_so 1 l1 M) (fun q1 => wp (mX9_so 126 l1 q1.2) (fun q2 => J2 q2.2)) := (J2.un h (A := fun q1 q2 => J q2.2) (j_so r_l1 h.1) (fun i => s_X8_so r_l1 i) sg_X8_so (fun _ w i => s_X9_so r_l1 w i) sg_X9_so)
theorem sg_X8_breaks : ∀ b j, W_X8_breaks b j → SAFE8b b j := fun b j z => by
  unfold W_X8_breaks at z
  unfold SAFE8b
  exact Or.elim z (fun z => (Or.inr (Or.inr (Or.inr (by omega))))) (fun z => Or.elim z (fun z => (Or.inr (Or.inr (Or.inr (by omega))))) (fun z => Or.elim z (fun z => (Or.inr (Or.inr (Or.inr (by omega))))) (fun z => (Or.inr (Or.inr (Or.inr (by omega)))))))
theorem sg_X9_breaks : ∀ b j, W_X9_breaks b j → SAFE9b b j := fun b j z => by
  unfold W_X9_breaks at z
  unfold SAFE9b
  exact Or.elim z (fun z => (Or.inr (Or.inr (Or.inr (Or.inr (by omega)))))) (fun z => Or.elim z (fun z => (Or.inr (Or.inr (Or.inr (Or.inr (by omega)))))) (fun z => Or.elim z (fun z => (Or.inl (by omega))) (fun z => (Or.inl (by omega)))))
theorem j2_breaks {l1 l2 : Int} {M : Mem} (r_l1 : (-2147483648) ≤ l1 ∧ l1 ≤ 2147483647) (r_l2 : (-2147483648) ≤ l2 ∧ l2 ≤ 2147483647) (h : J2 M) : wp (mX8_breaks 1 l1 l2 M) (fun q1 => wp (mX9_breaks 126 l1 l2 q1.2) (fun q2 => J2 q2.2)) := (J2.un h (A := fun q1 q2 => J q2.2) (j_breaks r_l1 r_l2 h.1) (fun i => s_X8_breaks r_l1 r_l2 i) sg_X8_breaks (fun _ w i => s_X9_breaks r_l1 r_l2 w i) sg_X9_breaks)
theorem sg_X8_worlds : ∀ b j, W_X8_worlds b j → SAFE8b b j := fun b j z => by
  unfold W_X8_worlds at z
  unfold SAFE8b
  exact Or.elim z (fun z => (Or.inr (Or.inr (Or.inr (by omega))))) (fun z => Or.elim z (fun z => (Or.inr (Or.inr (Or.inr (by omega))))) (fun z => Or.elim z (fun z => (Or.inr (Or.inr (Or.inr (by omega))))) (fun z => Or.elim z (fun z => (Or.inr (Or.inr (Or.inr (by unfold isWS at z; omega))))) (fun z => Or.elim z (fun z => (Or.inl (by omega))) (fun z => Or.elim z (fun z => (Or.inr (Or.inr (Or.inr (by omega))))) (fun z => Or.elim z (fun z => (Or.inr (Or.inr (Or.inr (by omega))))) (fun z => Or.elim z (fun z => (Or.inr (Or.inr (Or.inr (by omega))))) (fun z => Or.elim z (fun z => (Or.inr (Or.inr (Or.inr (by omega))))) (fun z => Or.elim z (fun z => (Or.inr (Or.inr (Or.inr (by omega))))) (fun z => Or.elim z (fun z => (Or.inr (Or.inr (Or.inr (by omega))))) (fun z => Or.elim z (fun z => (Or.inr (Or.inr (Or.inr (by omega))))) (fun z => Or.elim z (fun z => (Or.inr (Or.inr (Or.inr (by have z := z.1; unfold isWS at z; omega))))) (fun z => (Or.inr (Or.inr (Or.inr (by have z := z.1; unfold isWS at z; omega)))))))))))))))))
theorem sg_X9_worlds : ∀ b j, W_X9_worlds b j → SAFE9b b j := fun b j z => by
  unfold W_X9_worlds at z
  unfold SAFE9b
  exact Or.elim z (fun z => (Or.inr (Or.inr (Or.inr (Or.inr (by omega)))))) (fun z => Or.elim z (fun z => (Or.inr (Or.inr (Or.inr (Or.inr (by omega)))))) (fun z => Or.elim z (fun z => (Or.inl (by omega))) (fun z => Or.elim z (fun z => (Or.inl (by omega))) (fun z => Or.elim z (fun z => (Or.inl (by omega))) (fun z => Or.elim z (fun z => (Or.inl (by omega))) (fun z => (Or.inl (by omega))))))))
theorem j2_worlds {M : Mem}  (h : J2 M) : wp (mX8_worlds 1 M) (fun q1 => wp (mX9_worlds 126 q1.2) (fun q2 => J2 q2.2)) := (J2.un h (A := fun q1 q2 => J q2.2) (j_worlds  h.1) (fun i => s_X8_worlds i) sg_X8_worlds (fun _ w i => s_X9_worlds w i) sg_X9_worlds)
theorem sg_X8_forms : ∀ b j, W_X8_forms b j → SAFE8b b j := fun b j z => by
  unfold W_X8_forms at z
  unfold SAFE8b
  exact Or.elim z (fun z => (Or.inr (Or.inr (Or.inr (by omega))))) (fun z => Or.elim z (fun z => (Or.inr (Or.inr (Or.inr (by omega))))) (fun z => Or.elim z (fun z => (Or.inr (Or.inr (Or.inr (by omega))))) (fun z => Or.elim z (fun z => (Or.inr (Or.inr (Or.inr (by omega))))) (fun z => Or.elim z (fun z => (Or.inr (Or.inr (Or.inr (by omega))))) (fun z => Or.elim z (fun z => (Or.inr (Or.inr (Or.inr (by omega))))) (fun z => Or.elim z (fun z => (Or.inr (Or.inr (Or.inr (by omega))))) (fun z => Or.elim z (fun z => (Or.inr (Or.inr (Or.inr (by unfold isWS at z; omega))))) (fun z => Or.elim z (fun z => (Or.inl (by omega))) (fun z => Or.elim z (fun z => (Or.inr (Or.inr (Or.inr (by omega))))) (fun z => Or.elim z (fun z => (Or.inr (Or.inr (Or.inr (by omega))))) (fun z => Or.elim z (fun z => (Or.inr (Or.inr (Or.inr (by omega))))) (fun z => Or.elim z (fun z => (Or.inr (Or.inr (Or.inr (by omega))))) (fun z => Or.elim z (fun z => (Or.inr (Or.inr (Or.inr (by omega))))) (fun z => Or.elim z (fun z => (Or.inr (Or.inr (Or.inr (by omega))))) (fun z => Or.elim z (fun z => (Or.inr (Or.inr (Or.inr (by omega))))) (fun z => Or.elim z (fun z => (Or.inr (Or.inr (Or.inr (by omega))))) (fun z => Or.elim z (fun z => (Or.inr (Or.inr (Or.inr (by omega))))) (fun z => Or.elim z (fun z => (Or.inr (Or.inr (Or.inr (by omega))))) (fun z => Or.elim z (fun z => (Or.inr (Or.inr (Or.inr (by omega))))) (fun z => Or.elim z (fun z => (Or.inr (Or.inr (Or.inr (by omega))))) (fun z => Or.elim z (fun z => (Or.inr (Or.inr (Or.inr (by omega))))) (fun z => Or.elim z (fun z => (Or.inr (Or.inr (Or.inr (by omega))))) (fun z => Or.elim z (fun z => (Or.inr (Or.inr (Or.inr (by omega))))) (fun z => Or.elim z (fun z => (Or.inr (Or.inr (Or.inr (by omega))))) (fun z => Or.elim z (fun z => (Or.inr (Or.inr (Or.inr (by omega))))) (fun z => Or.elim z (fun z => (Or.inr (Or.inr (Or.inr (by have z := z.1; unfold isWS at z; omega))))) (fun z => (Or.inr (Or.inr (Or.inr (by have z := z.1; unfold isWS at z; omega)))))))))))))))))))))))))))))))
theorem sg_X9_forms : ∀ b j, W_X9_forms b j → SAFE9b b j := fun b j z => by
  unfold W_X9_forms at z
  unfold SAFE9b
  exact Or.elim z (fun z => (Or.inr (Or.inr (Or.inr (Or.inr (by omega)))))) (fun z => Or.elim z (fun z => (Or.inr (Or.inr (Or.inr (Or.inr (by omega)))))) (fun z => Or.elim z (fun z => (Or.inl (by omega))) (fun z => Or.elim z (fun z => (Or.inl (by omega))) (fun z => Or.elim z (fun z => (Or.inl (by omega))) (fun z => Or.elim z (fun z => (Or.inl (by omega))) (fun z => (Or.inl (by omega))))))))
theorem j2_forms {M : Mem}  (h : J2 M) : wp (mX8_forms 1 M) (fun q1 => wp (mX9_forms 126 q1.2) (fun q2 => J2 q2.2)) := (J2.un h (A := fun q1 q2 => J q2.2) (j_forms  h.1) (fun i => s_X8_forms i) sg_X8_forms (fun _ w i => s_X9_forms w i) sg_X9_forms)
theorem sg_X8_form : ∀ b j, W_X8_form b j → SAFE8b b j := fun b j z => by
  unfold W_X8_form at z
  unfold SAFE8b
  exact Or.elim z (fun z => (Or.inr (Or.inr (Or.inr (by omega))))) (fun z => Or.elim z (fun z => (Or.inr (Or.inr (Or.inr (by omega))))) (fun z => Or.elim z (fun z => (Or.inr (Or.inr (Or.inr (by omega))))) (fun z => Or.elim z (fun z => (Or.inr (Or.inr (Or.inr (by omega))))) (fun z => Or.elim z (fun z => (Or.inr (Or.inr (Or.inr (by omega))))) (fun z => Or.elim z (fun z => (Or.inr (Or.inr (Or.inr (by omega))))) (fun z => Or.elim z (fun z => (Or.inr (Or.inr (Or.inr (by omega))))) (fun z => Or.elim z (fun z => (Or.inr (Or.inr (Or.inr (by unfold isWS at z; omega))))) (fun z => Or.elim z (fun z => (Or.inl (by omega))) (fun z => Or.elim z (fun z => (Or.inr (Or.inr (Or.inr (by omega))))) (fun z => Or.elim z (fun z => (Or.inr (Or.inr (Or.inr (by omega))))) (fun z => Or.elim z (fun z => (Or.inr (Or.inr (Or.inr (by omega))))) (fun z => Or.elim z (fun z => (Or.inr (Or.inr (Or.inr (by omega))))) (fun z => Or.elim z (fun z => (Or.inr (Or.inr (Or.inr (by omega))))) (fun z => Or.elim z (fun z => (Or.inr (Or.inr (Or.inr (by omega))))) (fun z => Or.elim z (fun z => (Or.inr (Or.inr (Or.inr (by omega))))) (fun z => Or.elim z (fun z => (Or.inr (Or.inr (Or.inr (by omega))))) (fun z => Or.elim z (fun z => (Or.inr (Or.inr (Or.inr (by omega))))) (fun z => Or.elim z (fun z => (Or.inr (Or.inr (Or.inr (by omega))))) (fun z => Or.elim z (fun z => (Or.inr (Or.inr (Or.inr (by omega))))) (fun z => Or.elim z (fun z => (Or.inr (Or.inl (by omega)))) (fun z => Or.elim z (fun z => (Or.inr (Or.inr (Or.inr (by omega))))) (fun z => Or.elim z (fun z => (Or.inr (Or.inr (Or.inr (by omega))))) (fun z => Or.elim z (fun z => (Or.inr (Or.inr (Or.inr (by omega))))) (fun z => Or.elim z (fun z => (Or.inr (Or.inr (Or.inr (by omega))))) (fun z => Or.elim z (fun z => (Or.inr (Or.inr (Or.inr (by omega))))) (fun z => Or.elim z (fun z => (Or.inr (Or.inr (Or.inr (by omega))))) (fun z => Or.elim z (fun z => (Or.inr (Or.inr (Or.inr (by have z := z.1; unfold isWS at z; omega))))) (fun z => (Or.inr (Or.inr (Or.inr (by have z := z.1; unfold isWS at z; omega))))))))))))))))))))))))))))))))
theorem sg_X9_form : ∀ b j, W_X9_form b j → SAFE9b b j := fun b j z => by
  unfold W_X9_form at z
  unfold SAFE9b
  exact Or.elim z (fun z => (Or.inr (Or.inr (Or.inl (by omega))))) (fun z => Or.elim z (fun z => (Or.inr (Or.inr (Or.inr (Or.inr (by omega)))))) (fun z => Or.elim z (fun z => (Or.inr (Or.inr (Or.inr (Or.inr (by omega)))))) (fun z => Or.elim z (fun z => (Or.inl (by omega))) (fun z => Or.elim z (fun z => (Or.inl (by omega))) (fun z => Or.elim z (fun z => (Or.inl (by omega))) (fun z => Or.elim z (fun z => (Or.inl (by omega))) (fun z => (Or.inl (by omega)))))))))
theorem j2_form {l1 : Int} {M : Mem} (r_l1 : (-2147483648) ≤ l1 ∧ l1 ≤ 2147483647) (h : J2 M) : wp (mX8_form 1 l1 M) (fun q1 => wp (mX9_form 126 l1 q1.2) (fun q2 => J2 q2.2)) := (J2.un h (A := fun q1 q2 => J q2.2) (j_form r_l1 h.1) (fun i => s_X8_form r_l1 i) sg_X8_form (fun _ w i => s_X9_form r_l1 w i) sg_X9_form)
theorem sg_X8_name : ∀ b j, W_X8_name b j → SAFE8b b j := fun b j z => by
  unfold W_X8_name at z
  unfold SAFE8b
  exact Or.elim z (fun z => (Or.inr (Or.inr (Or.inr (by omega))))) (fun z => Or.elim z (fun z => (Or.inr (Or.inr (Or.inr (by omega))))) (fun z => Or.elim z (fun z => (Or.inr (Or.inr (Or.inr (by omega))))) (fun z => Or.elim z (fun z => (Or.inr (Or.inr (Or.inr (by omega))))) (fun z => (Or.inr (Or.inl (by omega)))))))
theorem sg_X9_name : ∀ b j, W_X9_name b j → SAFE9b b j := fun b j z => by
  unfold W_X9_name at z
  unfold SAFE9b
  exact Or.elim z (fun z => (Or.inr (Or.inr (Or.inl (by omega))))) (fun z => Or.elim z (fun z => (Or.inr (Or.inr (Or.inr (Or.inr (by omega)))))) (fun z => Or.elim z (fun z => (Or.inr (Or.inr (Or.inr (Or.inr (by omega)))))) (fun z => (Or.inl (by omega)))))
theorem j2_name {M : Mem}  (h : J2 M) : wp (mX8_name 1 M) (fun q1 => wp (mX9_name 126 q1.2) (fun q2 => J2 q2.2)) := (J2.un h (A := fun q1 q2 => J q2.2) (j_name  h.1) (fun i => s_X8_name i) sg_X8_name (fun _ w i => s_X9_name i) sg_X9_name)
theorem sg_X8_least : ∀ b j, W_X8_least b j → SAFE8b b j := fun b j z => by
  unfold W_X8_least at z
  unfold SAFE8b
  exact Or.elim z (fun z => (Or.inr (Or.inr (Or.inr (by omega))))) (fun z => Or.elim z (fun z => (Or.inr (Or.inr (Or.inr (by omega))))) (fun z => Or.elim z (fun z => (Or.inr (Or.inr (Or.inr (by omega))))) (fun z => Or.elim z (fun z => (Or.inl (by omega))) (fun z => Or.elim z (fun z => (Or.inr (Or.inr (Or.inr (by omega))))) (fun z => Or.elim z (fun z => (Or.inr (Or.inr (Or.inr (by omega))))) (fun z => Or.elim z (fun z => (Or.inr (Or.inr (Or.inr (by omega))))) (fun z => Or.elim z (fun z => (Or.inr (Or.inr (Or.inr (by omega))))) (fun z => Or.elim z (fun z => (Or.inr (Or.inr (Or.inr (by omega))))) (fun z => Or.elim z (fun z => (Or.inr (Or.inr (Or.inr (by omega))))) (fun z => (Or.inr (Or.inr (Or.inr (by omega))))))))))))))
theorem sg_X9_least : ∀ b j, W_X9_least b j → SAFE9b b j := fun b j z => by
  unfold W_X9_least at z
  unfold SAFE9b
  exact Or.elim z (fun z => (Or.inr (Or.inr (Or.inr (Or.inr (by omega)))))) (fun z => Or.elim z (fun z => (Or.inr (Or.inr (Or.inr (Or.inr (by omega)))))) (fun z => Or.elim z (fun z => (Or.inl (by omega))) (fun z => Or.elim z (fun z => (Or.inl (by omega))) (fun z => Or.elim z (fun z => (Or.inl (by omega))) (fun z => Or.elim z (fun z => (Or.inl (by omega))) (fun z => Or.elim z (fun z => (Or.inl (by omega))) (fun z => Or.elim z (fun z => (Or.inl (by omega))) (fun z => Or.elim z (fun z => (Or.inl (by omega))) (fun z => (Or.inl (by omega)))))))))))
theorem j2_least {l1 : Int} {M : Mem} (r_l1 : (-2147483648) ≤ l1 ∧ l1 ≤ 2147483647) (h : J2 M) : wp (mX8_least 1 l1 M) (fun q1 => wp (mX9_least 126 l1 q1.2) (fun q2 => J2 q2.2)) := (J2.un h (A := fun q1 q2 => J q2.2) (j_least r_l1 h.1) (fun i => s_X8_least r_l1 i) sg_X8_least (fun _ w i => s_X9_least r_l1 w i) sg_X9_least)
theorem sg_X8_core : ∀ b j, W_X8_core b j → SAFE8b b j := fun b j z => by
  unfold W_X8_core at z
  unfold SAFE8b
  exact Or.elim z (fun z => (Or.inr (Or.inr (Or.inr (by omega))))) (fun z => Or.elim z (fun z => (Or.inr (Or.inr (Or.inr (by omega))))) (fun z => Or.elim z (fun z => (Or.inr (Or.inr (Or.inr (by omega))))) (fun z => Or.elim z (fun z => (Or.inr (Or.inr (Or.inr (by unfold isWS at z; omega))))) (fun z => Or.elim z (fun z => (Or.inl (by omega))) (fun z => Or.elim z (fun z => (Or.inr (Or.inr (Or.inr (by omega))))) (fun z => Or.elim z (fun z => (Or.inr (Or.inr (Or.inr (by omega))))) (fun z => Or.elim z (fun z => (Or.inr (Or.inr (Or.inr (by omega))))) (fun z => Or.elim z (fun z => (Or.inr (Or.inr (Or.inr (by omega))))) (fun z => Or.elim z (fun z => (Or.inr (Or.inr (Or.inr (by omega))))) (fun z => Or.elim z (fun z => (Or.inr (Or.inr (Or.inr (by omega))))) (fun z => Or.elim z (fun z => (Or.inr (Or.inr (Or.inr (by omega))))) (fun z => Or.elim z (fun z => (Or.inr (Or.inr (Or.inr (by have z := z.1; unfold isWS at z; omega))))) (fun z => (Or.inr (Or.inr (Or.inr (by have z := z.1; unfold isWS at z; omega)))))))))))))))))
theorem sg_X9_core : ∀ b j, W_X9_core b j → SAFE9b b j := fun b j z => by
  unfold W_X9_core at z
  unfold SAFE9b
  exact Or.elim z (fun z => (Or.inr (Or.inr (Or.inr (Or.inr (by omega)))))) (fun z => Or.elim z (fun z => (Or.inr (Or.inr (Or.inr (Or.inr (by omega)))))) (fun z => Or.elim z (fun z => (Or.inr (Or.inr (Or.inr (Or.inr (by omega)))))) (fun z => Or.elim z (fun z => (Or.inl (by omega))) (fun z => Or.elim z (fun z => (Or.inl (by omega))) (fun z => Or.elim z (fun z => (Or.inl (by omega))) (fun z => (Or.inl (by omega))))))))
theorem j2_core {l1 : Int} {M : Mem} (r_l1 : (-2147483648) ≤ l1 ∧ l1 ≤ 2147483647) (h : J2 M) : wp (mX8_core 1 l1 M) (fun q1 => wp (mX9_core 126 l1 q1.2) (fun q2 => J2 q2.2)) := (J2.un h (A := fun q1 q2 => J q2.2) (j_core r_l1 h.1) (fun i => s_X8_core r_l1 i) sg_X8_core (fun _ w i => s_X9_core r_l1 w i) sg_X9_core)
theorem sg_X8_sure : ∀ b j, W_X8_sure b j → SAFE8b b j := fun b j z => by
  unfold W_X8_sure at z
  unfold SAFE8b
  exact Or.elim z (fun z => (Or.inr (Or.inr (Or.inr (by omega))))) (fun z => Or.elim z (fun z => (Or.inr (Or.inr (Or.inr (by omega))))) (fun z => Or.elim z (fun z => (Or.inr (Or.inr (Or.inr (by omega))))) (fun z => Or.elim z (fun z => (Or.inr (Or.inr (Or.inr (by unfold isWS at z; omega))))) (fun z => Or.elim z (fun z => (Or.inl (by omega))) (fun z => Or.elim z (fun z => (Or.inr (Or.inr (Or.inr (by omega))))) (fun z => Or.elim z (fun z => (Or.inr (Or.inr (Or.inr (by omega))))) (fun z => Or.elim z (fun z => (Or.inr (Or.inr (Or.inr (by omega))))) (fun z => Or.elim z (fun z => (Or.inr (Or.inr (Or.inr (by omega))))) (fun z => Or.elim z (fun z => (Or.inr (Or.inr (Or.inr (by omega))))) (fun z => Or.elim z (fun z => (Or.inr (Or.inr (Or.inr (by omega))))) (fun z => Or.elim z (fun z => (Or.inr (Or.inr (Or.inr (by omega))))) (fun z => Or.elim z (fun z => (Or.inr (Or.inr (Or.inr (by have z := z.1; unfold isWS at z; omega))))) (fun z => (Or.inr (Or.inr (Or.inr (by have z := z.1; unfold isWS at z; omega)))))))))))))))))
theorem sg_X9_sure : ∀ b j, W_X9_sure b j → SAFE9b b j := fun b j z => by
  unfold W_X9_sure at z
  unfold SAFE9b
  exact Or.elim z (fun z => (Or.inr (Or.inr (Or.inr (Or.inr (by omega)))))) (fun z => Or.elim z (fun z => (Or.inr (Or.inr (Or.inr (Or.inr (by omega)))))) (fun z => Or.elim z (fun z => (Or.inr (Or.inr (Or.inr (Or.inr (by omega)))))) (fun z => Or.elim z (fun z => (Or.inl (by omega))) (fun z => Or.elim z (fun z => (Or.inl (by omega))) (fun z => Or.elim z (fun z => (Or.inl (by omega))) (fun z => Or.elim z (fun z => (Or.inl (by omega))) (fun z => Or.elim z (fun z => (Or.inl (by omega))) (fun z => (Or.inl (by omega))))))))))
theorem j2_sure {l1 l2 l3 : Int} {M : Mem} (r_l1 : (-2147483648) ≤ l1 ∧ l1 ≤ 2147483647) (r_l2 : (-2147483648) ≤ l2 ∧ l2 ≤ 2147483647) (r_l3 : (-2147483648) ≤ l3 ∧ l3 ≤ 2147483647) (h : J2 M) : wp (mX8_sure 1 l1 l2 l3 M) (fun q1 => wp (mX9_sure 126 l1 l2 l3 q1.2) (fun q2 => J2 q2.2)) := (J2.un h (A := fun q1 q2 => J q2.2) (j_sure r_l1 r_l2 r_l3 h.1) (fun i => s_X8_sure r_l1 r_l2 r_l3 i) sg_X8_sure (fun _ w i => s_X9_sure r_l1 r_l2 r_l3 w i) sg_X9_sure)
theorem sg_X8_cause : ∀ b j, W_X8_cause b j → SAFE8b b j := fun b j z => by
  unfold W_X8_cause at z
  unfold SAFE8b
  exact Or.elim z (fun z => (Or.inr (Or.inr (Or.inr (by omega))))) (fun z => Or.elim z (fun z => (Or.inr (Or.inr (Or.inr (by omega))))) (fun z => Or.elim z (fun z => (Or.inr (Or.inr (Or.inr (by omega))))) (fun z => Or.elim z (fun z => (Or.inr (Or.inr (Or.inr (by omega))))) (fun z => Or.elim z (fun z => (Or.inr (Or.inr (Or.inr (by unfold isWS at z; omega))))) (fun z => Or.elim z (fun z => (Or.inl (by omega))) (fun z => Or.elim z (fun z => (Or.inr (Or.inr (Or.inr (by omega))))) (fun z => Or.elim z (fun z => (Or.inr (Or.inr (Or.inr (by omega))))) (fun z => Or.elim z (fun z => (Or.inr (Or.inr (Or.inr (by omega))))) (fun z => Or.elim z (fun z => (Or.inr (Or.inr (Or.inr (by omega))))) (fun z => Or.elim z (fun z => (Or.inr (Or.inr (Or.inr (by omega))))) (fun z => Or.elim z (fun z => (Or.inr (Or.inr (Or.inr (by omega))))) (fun z => Or.elim z (fun z => (Or.inr (Or.inr (Or.inr (by omega))))) (fun z => Or.elim z (fun z => (Or.inr (Or.inr (Or.inr (by omega))))) (fun z => Or.elim z (fun z => (Or.inr (Or.inr (Or.inr (by omega))))) (fun z => Or.elim z (fun z => (Or.inr (Or.inr (Or.inr (by have z := z.1; unfold isWS at z; omega))))) (fun z => (Or.inr (Or.inr (Or.inr (by have z := z.1; unfold isWS at z; omega))))))))))))))))))))
theorem sg_X9_cause : ∀ b j, W_X9_cause b j → SAFE9b b j := fun b j z => by
  unfold W_X9_cause at z
  unfold SAFE9b
  exact Or.elim z (fun z => (Or.inr (Or.inr (Or.inr (Or.inr (by omega)))))) (fun z => Or.elim z (fun z => (Or.inr (Or.inr (Or.inr (Or.inr (by omega)))))) (fun z => Or.elim z (fun z => (Or.inr (Or.inr (Or.inr (Or.inr (by omega)))))) (fun z => Or.elim z (fun z => (Or.inl (by omega))) (fun z => Or.elim z (fun z => (Or.inl (by omega))) (fun z => Or.elim z (fun z => (Or.inl (by omega))) (fun z => Or.elim z (fun z => (Or.inl (by omega))) (fun z => Or.elim z (fun z => (Or.inl (by omega))) (fun z => (Or.inl (by omega))))))))))
theorem j2_cause {l1 l2 l3 l4 : Int} {M : Mem} (r_l1 : (-2147483648) ≤ l1 ∧ l1 ≤ 2147483647) (r_l2 : (-2147483648) ≤ l2 ∧ l2 ≤ 2147483647) (r_l3 : (-2147483648) ≤ l3 ∧ l3 ≤ 2147483647) (r_l4 : (-2147483648) ≤ l4 ∧ l4 ≤ 2147483647) (h : J2 M) : wp (mX8_cause 1 l1 l2 l3 l4 M) (fun q1 => wp (mX9_cause 126 l1 l2 l3 l4 q1.2) (fun q2 => J2 q2.2)) := (J2.un h (A := fun q1 q2 => J q2.2) (j_cause r_l1 r_l2 r_l3 r_l4 h.1) (fun i => s_X8_cause r_l1 r_l2 r_l3 r_l4 i) sg_X8_cause (fun _ w i => s_X9_cause r_l1 r_l2 r_l3 r_l4 w i) sg_X9_cause)
theorem sg_X8_without : ∀ b j, W_X8_without b j → SAFE8b b j := fun b j z => by
  unfold W_X8_without at z
  unfold SAFE8b
  exact Or.elim z (fun z => (Or.inr (Or.inr (Or.inr (by omega))))) (fun z => Or.elim z (fun z => (Or.inr (Or.inr (Or.inr (by omega))))) (fun z => Or.elim z (fun z => (Or.inr (Or.inr (Or.inr (by omega))))) (fun z => Or.elim z (fun z => (Or.inr (Or.inr (Or.inr (by omega))))) (fun z => Or.elim z (fun z => (Or.inr (Or.inr (Or.inr (by unfold isWS at z; omega))))) (fun z => Or.elim z (fun z => (Or.inl (by omega))) (fun z => Or.elim z (fun z => (Or.inr (Or.inr (Or.inr (by omega))))) (fun z => Or.elim z (fun z => (Or.inr (Or.inr (Or.inr (by omega))))) (fun z => Or.elim z (fun z => (Or.inr (Or.inr (Or.inr (by omega))))) (fun z => Or.elim z (fun z => (Or.inr (Or.inr (Or.inr (by omega))))) (fun z => Or.elim z (fun z => (Or.inr (Or.inr (Or.inr (by omega))))) (fun z => Or.elim z (fun z => (Or.inr (Or.inr (Or.inr (by omega))))) (fun z => Or.elim z (fun z => (Or.inr (Or.inr (Or.inr (by omega))))) (fun z => Or.elim z (fun z => (Or.inr (Or.inr (Or.inr (by omega))))) (fun z => Or.elim z (fun z => (Or.inr (Or.inr (Or.inr (by omega))))) (fun z => Or.elim z (fun z => (Or.inr (Or.inr (Or.inr (by have z := z.1; unfold isWS at z; omega))))) (fun z => (Or.inr (Or.inr (Or.inr (by have z := z.1; unfold isWS at z; omega))))))))))))))))))))
theorem sg_X9_without : ∀ b j, W_X9_without b j → SAFE9b b j := fun b j z => by
  unfold W_X9_without at z
  unfold SAFE9b
  exact Or.elim z (fun z => (Or.inr (Or.inr (Or.inr (Or.inr (by omega)))))) (fun z => Or.elim z (fun z => (Or.inr (Or.inr (Or.inr (Or.inr (by omega)))))) (fun z => Or.elim z (fun z => (Or.inl (by omega))) (fun z => Or.elim z (fun z => (Or.inl (by omega))) (fun z => Or.elim z (fun z => (Or.inl (by omega))) (fun z => Or.elim z (fun z => (Or.inl (by omega))) (fun z => (Or.inl (by omega))))))))
theorem j2_without {l1 : Int} {M : Mem} (r_l1 : (-2147483648) ≤ l1 ∧ l1 ≤ 2147483647) (h : J2 M) : wp (mX8_without 1 l1 M) (fun q1 => wp (mX9_without 126 l1 q1.2) (fun q2 => J2 q2.2)) := (J2.un h (A := fun q1 q2 => J q2.2) (j_without r_l1 h.1) (fun i => s_X8_without r_l1 i) sg_X8_without (fun _ w i => s_X9_without r_l1 w i) sg_X9_without)
theorem sg_X8_questions : ∀ b j, W_X8_questions b j → SAFE8b b j := fun b j z => by
  unfold W_X8_questions at z
  unfold SAFE8b
  exact Or.elim z (fun z => (Or.inr (Or.inr (Or.inr (by omega))))) (fun z => Or.elim z (fun z => (Or.inr (Or.inr (Or.inr (by omega))))) (fun z => Or.elim z (fun z => (Or.inr (Or.inr (Or.inr (by omega))))) (fun z => Or.elim z (fun z => (Or.inr (Or.inr (Or.inr (by omega))))) (fun z => Or.elim z (fun z => (Or.inr (Or.inr (Or.inr (by unfold isWS at z; omega))))) (fun z => Or.elim z (fun z => (Or.inl (by omega))) (fun z => Or.elim z (fun z => (Or.inr (Or.inr (Or.inr (by omega))))) (fun z => Or.elim z (fun z => (Or.inr (Or.inr (Or.inr (by omega))))) (fun z => Or.elim z (fun z => (Or.inr (Or.inr (Or.inr (by omega))))) (fun z => Or.elim z (fun z => (Or.inr (Or.inr (Or.inr (by omega))))) (fun z => Or.elim z (fun z => (Or.inr (Or.inr (Or.inr (by omega))))) (fun z => Or.elim z (fun z => (Or.inr (Or.inr (Or.inr (by omega))))) (fun z => Or.elim z (fun z => (Or.inr (Or.inr (Or.inr (by omega))))) (fun z => Or.elim z (fun z => (Or.inr (Or.inr (Or.inr (by have z := z.1; unfold isWS at z; omega))))) (fun z => (Or.inr (Or.inr (Or.inr (by have z := z.1; unfold isWS at z; omega))))))))))))))))))
theorem sg_X9_questions : ∀ b j, W_X9_questions b j → SAFE9b b j := fun b j z => by
  unfold W_X9_questions at z
  unfold SAFE9b
  exact Or.elim z (fun z => (Or.inr (Or.inr (Or.inr (Or.inr (by omega)))))) (fun z => Or.elim z (fun z => (Or.inr (Or.inr (Or.inr (Or.inr (by omega)))))) (fun z => Or.elim z (fun z => (Or.inr (Or.inr (Or.inr (Or.inr (by omega)))))) (fun z => Or.elim z (fun z => (Or.inl (by omega))) (fun z => Or.elim z (fun z => (Or.inl (by omega))) (fun z => Or.elim z (fun z => (Or.inl (by omega))) (fun z => Or.elim z (fun z => (Or.inl (by omega))) (fun z => (Or.inl (by omega)))))))))
theorem j2_questions {M : Mem}  (h : J2 M) : wp (mX8_questions 1 M) (fun q1 => wp (mX9_questions 126 q1.2) (fun q2 => J2 q2.2)) := (J2.un h (A := fun q1 q2 => J q2.2) (j_questions  h.1) (fun i => s_X8_questions i) sg_X8_questions (fun _ w i => s_X9_questions w i) sg_X9_questions)
theorem sg_X8_settle : ∀ b j, W_X8_settle b j → SAFE8b b j := fun b j z => by
  unfold W_X8_settle at z
  unfold SAFE8b
  exact Or.elim z (fun z => (Or.inr (Or.inr (Or.inr (by omega))))) (fun z => Or.elim z (fun z => (Or.inr (Or.inr (Or.inr (by omega))))) (fun z => Or.elim z (fun z => (Or.inr (Or.inr (Or.inr (by omega))))) (fun z => Or.elim z (fun z => (Or.inr (Or.inr (Or.inr (by unfold isWS at z; omega))))) (fun z => Or.elim z (fun z => (Or.inl (by omega))) (fun z => Or.elim z (fun z => (Or.inr (Or.inr (Or.inr (by omega))))) (fun z => Or.elim z (fun z => (Or.inr (Or.inr (Or.inr (by omega))))) (fun z => Or.elim z (fun z => (Or.inr (Or.inr (Or.inr (by omega))))) (fun z => Or.elim z (fun z => (Or.inr (Or.inr (Or.inr (by omega))))) (fun z => Or.elim z (fun z => (Or.inr (Or.inr (Or.inr (by omega))))) (fun z => Or.elim z (fun z => (Or.inr (Or.inr (Or.inr (by omega))))) (fun z => Or.elim z (fun z => (Or.inr (Or.inr (Or.inr (by omega))))) (fun z => Or.elim z (fun z => (Or.inr (Or.inr (Or.inr (by have z := z.1; unfold isWS at z; omega))))) (fun z => (Or.inr (Or.inr (Or.inr (by have z := z.1; unfold isWS at z; omega)))))))))))))))))
theorem sg_X9_settle : ∀ b j, W_X9_settle b j → SAFE9b b j := fun b j z => by
  unfold W_X9_settle at z
  unfold SAFE9b
  exact Or.elim z (fun z => (Or.inr (Or.inr (Or.inr (Or.inr (by omega)))))) (fun z => Or.elim z (fun z => (Or.inr (Or.inr (Or.inr (Or.inr (by omega)))))) (fun z => Or.elim z (fun z => (Or.inr (Or.inr (Or.inr (Or.inr (by omega)))))) (fun z => Or.elim z (fun z => (Or.inl (by omega))) (fun z => Or.elim z (fun z => (Or.inl (by omega))) (fun z => Or.elim z (fun z => (Or.inl (by omega))) (fun z => Or.elim z (fun z => (Or.inl (by omega))) (fun z => Or.elim z (fun z => (Or.inl (by omega))) (fun z => (Or.inl (by omega))))))))))
theorem j2_settle {l1 : Int} {M : Mem} (r_l1 : (-2147483648) ≤ l1 ∧ l1 ≤ 2147483647) (h : J2 M) : wp (mX8_settle 1 l1 M) (fun q1 => wp (mX9_settle 126 l1 q1.2) (fun q2 => J2 q2.2)) := (J2.un h (A := fun q1 q2 => J q2.2) (j_settle r_l1 h.1) (fun i => s_X8_settle r_l1 i) sg_X8_settle (fun _ w i => s_X9_settle r_l1 w i) sg_X9_settle)
theorem sg_X8_near : ∀ b j, W_X8_near b j → SAFE8b b j := fun b j z => by
  unfold W_X8_near at z
  unfold SAFE8b
  exact Or.elim z (fun z => (Or.inr (Or.inr (Or.inr (by omega))))) (fun z => Or.elim z (fun z => (Or.inr (Or.inr (Or.inr (by omega))))) (fun z => Or.elim z (fun z => (Or.inr (Or.inr (Or.inr (by omega))))) (fun z => Or.elim z (fun z => (Or.inr (Or.inr (Or.inr (by unfold isWS at z; omega))))) (fun z => Or.elim z (fun z => (Or.inl (by omega))) (fun z => Or.elim z (fun z => (Or.inr (Or.inr (Or.inr (by omega))))) (fun z => Or.elim z (fun z => (Or.inr (Or.inr (Or.inr (by omega))))) (fun z => Or.elim z (fun z => (Or.inr (Or.inr (Or.inr (by omega))))) (fun z => Or.elim z (fun z => (Or.inr (Or.inl (by omega)))) (fun z => Or.elim z (fun z => (Or.inr (Or.inr (Or.inr (by omega))))) (fun z => Or.elim z (fun z => (Or.inr (Or.inr (Or.inr (by omega))))) (fun z => Or.elim z (fun z => (Or.inr (Or.inr (Or.inr (by omega))))) (fun z => Or.elim z (fun z => (Or.inr (Or.inr (Or.inr (by omega))))) (fun z => Or.elim z (fun z => (Or.inr (Or.inr (Or.inr (by have z := z.1; unfold isWS at z; omega))))) (fun z => (Or.inr (Or.inr (Or.inr (by have z := z.1; unfold isWS at z; omega))))))))))))))))))
theorem sg_X9_near : ∀ b j, W_X9_near b j → SAFE9b b j := fun b j z => by
  unfold W_X9_near at z
  unfold SAFE9b
  exact Or.elim z (fun z => (Or.inr (Or.inr (Or.inl (by omega))))) (fun z => Or.elim z (fun z => (Or.inr (Or.inr (Or.inr (Or.inr (by omega)))))) (fun z => Or.elim z (fun z => (Or.inr (Or.inr (Or.inr (Or.inr (by omega)))))) (fun z => Or.elim z (fun z => (Or.inl (by omega))) (fun z => Or.elim z (fun z => (Or.inl (by omega))) (fun z => Or.elim z (fun z => (Or.inl (by omega))) (fun z => Or.elim z (fun z => (Or.inl (by omega))) (fun z => (Or.inl (by omega)))))))))
theorem j2_near {M : Mem}  (h : J2 M) : wp (mX8_near 1 M) (fun q1 => wp (mX9_near 126 q1.2) (fun q2 => J2 q2.2)) := (J2.un h (A := fun q1 q2 => J q2.2) (j_near  h.1) (fun i => s_X8_near i) sg_X8_near (fun _ w i => s_X9_near w i) sg_X9_near)
theorem sg_X8_holds : ∀ b j, W_X8_holds b j → SAFE8b b j := fun b j z => by
  unfold W_X8_holds at z
  unfold SAFE8b
  exact Or.elim z (fun z => (Or.inr (Or.inr (Or.inr (by omega))))) (fun z => Or.elim z (fun z => (Or.inr (Or.inr (Or.inr (by omega))))) (fun z => Or.elim z (fun z => (Or.inr (Or.inr (Or.inr (by omega))))) (fun z => Or.elim z (fun z => (Or.inr (Or.inr (Or.inr (by omega))))) (fun z => Or.elim z (fun z => (Or.inr (Or.inr (Or.inr (by omega))))) (fun z => Or.elim z (fun z => (Or.inr (Or.inr (Or.inr (by omega))))) (fun z => Or.elim z (fun z => (Or.inr (Or.inr (Or.inr (by omega))))) (fun z => Or.elim z (fun z => (Or.inr (Or.inr (Or.inr (by unfold isWS at z; omega))))) (fun z => Or.elim z (fun z => (Or.inl (by omega))) (fun z => Or.elim z (fun z => (Or.inr (Or.inr (Or.inr (by omega))))) (fun z => Or.elim z (fun z => (Or.inr (Or.inr (Or.inr (by omega))))) (fun z => Or.elim z (fun z => (Or.inr (Or.inr (Or.inr (by omega))))) (fun z => Or.elim z (fun z => (Or.inr (Or.inr (Or.inr (by omega))))) (fun z => Or.elim z (fun z => (Or.inr (Or.inr (Or.inr (by omega))))) (fun z => Or.elim z (fun z => (Or.inr (Or.inr (Or.inr (by omega))))) (fun z => Or.elim z (fun z => (Or.inr (Or.inr (Or.inr (by omega))))) (fun z => Or.elim z (fun z => (Or.inr (Or.inr (Or.inr (by omega))))) (fun z => Or.elim z (fun z => (Or.inr (Or.inr (Or.inr (by omega))))) (fun z => Or.elim z (fun z => (Or.inr (Or.inr (Or.inr (by omega))))) (fun z => Or.elim z (fun z => (Or.inr (Or.inr (Or.inr (by omega))))) (fun z => Or.elim z (fun z => (Or.inr (Or.inr (Or.inr (by omega))))) (fun z => Or.elim z (fun z => (Or.inr (Or.inr (Or.inr (by omega))))) (fun z => Or.elim z (fun z => (Or.inr (Or.inr (Or.inr (by omega))))) (fun z => Or.elim z (fun z => (Or.inr (Or.inr (Or.inr (by omega))))) (fun z => Or.elim z (fun z => (Or.inr (Or.inr (Or.inr (by omega))))) (fun z => Or.elim z (fun z => (Or.inr (Or.inr (Or.inr (by omega))))) (fun z => Or.elim z (fun z => (Or.inr (Or.inr (Or.inr (by have z := z.1; unfold isWS at z; omega))))) (fun z => (Or.inr (Or.inr (Or.inr (by have z := z.1; unfold isWS at z; omega)))))))))))))))))))))))))))))))
theorem sg_X9_holds : ∀ b j, W_X9_holds b j → SAFE9b b j := fun b j z => by
  unfold W_X9_holds at z
  unfold SAFE9b
  exact Or.elim z (fun z => (Or.inr (Or.inr (Or.inr (Or.inr (by omega)))))) (fun z => Or.elim z (fun z => (Or.inr (Or.inr (Or.inr (Or.inr (by omega)))))) (fun z => Or.elim z (fun z => (Or.inl (by omega))) (fun z => Or.elim z (fun z => (Or.inl (by omega))) (fun z => Or.elim z (fun z => (Or.inl (by omega))) (fun z => Or.elim z (fun z => (Or.inl (by omega))) (fun z => (Or.inl (by omega))))))))
theorem j2_holds {l1 : Int} {M : Mem} (r_l1 : (-2147483648) ≤ l1 ∧ l1 ≤ 2147483647) (h : J2 M) : wp (mX8_holds 1 l1 M) (fun q1 => wp (mX9_holds 126 l1 q1.2) (fun q2 => J2 q2.2)) := (J2.un h (A := fun q1 q2 => J q2.2) (j_holds r_l1 h.1) (fun i => s_X8_holds r_l1 i) sg_X8_holds (fun _ w i => s_X9_holds r_l1 w i) sg_X9_holds)
theorem sg_X8_against : ∀ b j, W_X8_against b j → SAFE8b b j := fun b j z => by
  unfold W_X8_against at z
  unfold SAFE8b
  exact Or.elim z (fun z => (Or.inr (Or.inr (Or.inr (by omega))))) (fun z => Or.elim z (fun z => (Or.inr (Or.inr (Or.inr (by omega))))) (fun z => Or.elim z (fun z => (Or.inr (Or.inr (Or.inr (by omega))))) (fun z => Or.elim z (fun z => (Or.inr (Or.inr (Or.inr (by omega))))) (fun z => Or.elim z (fun z => (Or.inr (Or.inr (Or.inr (by omega))))) (fun z => Or.elim z (fun z => (Or.inr (Or.inr (Or.inr (by omega))))) (fun z => Or.elim z (fun z => (Or.inr (Or.inr (Or.inr (by omega))))) (fun z => Or.elim z (fun z => (Or.inr (Or.inr (Or.inr (by unfold isWS at z; omega))))) (fun z => Or.elim z (fun z => (Or.inl (by omega))) (fun z => Or.elim z (fun z => (Or.inr (Or.inr (Or.inr (by omega))))) (fun z => Or.elim z (fun z => (Or.inr (Or.inr (Or.inr (by omega))))) (fun z => Or.elim z (fun z => (Or.inr (Or.inr (Or.inr (by omega))))) (fun z => Or.elim z (fun z => (Or.inr (Or.inr (Or.inr (by omega))))) (fun z => Or.elim z (fun z => (Or.inr (Or.inr (Or.inr (by omega))))) (fun z => Or.elim z (fun z => (Or.inr (Or.inr (Or.inr (by omega))))) (fun z => Or.elim z (fun z => (Or.inr (Or.inr (Or.inr (by omega))))) (fun z => Or.elim z (fun z => (Or.inr (Or.inr (Or.inr (by omega))))) (fun z => Or.elim z (fun z => (Or.inr (Or.inr (Or.inr (by omega))))) (fun z => Or.elim z (fun z => (Or.inr (Or.inr (Or.inr (by omega))))) (fun z => Or.elim z (fun z => (Or.inr (Or.inr (Or.inr (by omega))))) (fun z => Or.elim z (fun z => (Or.inr (Or.inl (by omega)))) (fun z => Or.elim z (fun z => (Or.inr (Or.inr (Or.inr (by omega))))) (fun z => Or.elim z (fun z => (Or.inr (Or.inr (Or.inr (by omega))))) (fun z => Or.elim z (fun z => (Or.inr (Or.inr (Or.inr (by omega))))) (fun z => Or.elim z (fun z => (Or.inr (Or.inr (Or.inr (by omega))))) (fun z => Or.elim z (fun z => (Or.inr (Or.inr (Or.inr (by omega))))) (fun z => Or.elim z (fun z => (Or.inr (Or.inr (Or.inr (by omega))))) (fun z => Or.elim z (fun z => (Or.inr (Or.inr (Or.inr (by have z := z.1; unfold isWS at z; omega))))) (fun z => (Or.inr (Or.inr (Or.inr (by have z := z.1; unfold isWS at z; omega))))))))))))))))))))))))))))))))
theorem sg_X9_against : ∀ b j, W_X9_against b j → SAFE9b b j := fun b j z => by
  unfold W_X9_against at z
  unfold SAFE9b
  exact Or.elim z (fun z => (Or.inr (Or.inr (Or.inl (by omega))))) (fun z => Or.elim z (fun z => (Or.inr (Or.inr (Or.inr (Or.inr (by omega)))))) (fun z => Or.elim z (fun z => (Or.inr (Or.inr (Or.inr (Or.inr (by omega)))))) (fun z => Or.elim z (fun z => (Or.inl (by omega))) (fun z => Or.elim z (fun z => (Or.inl (by omega))) (fun z => Or.elim z (fun z => (Or.inl (by omega))) (fun z => Or.elim z (fun z => (Or.inl (by omega))) (fun z => (Or.inl (by omega)))))))))
theorem j2_against {M : Mem}  (h : J2 M) : wp (mX8_against 1 M) (fun q1 => wp (mX9_against 126 q1.2) (fun q2 => J2 q2.2)) := (J2.un h (A := fun q1 q2 => J q2.2) (j_against  h.1) (fun i => s_X8_against i) sg_X8_against (fun _ w i => s_X9_against w i) sg_X9_against)
theorem sg_X8_many : ∀ b j, W_X8_many b j → SAFE8b b j := fun b j z => by
  unfold W_X8_many at z
  unfold SAFE8b
  exact z.elim
theorem sg_X9_many : ∀ b j, W_X9_many b j → SAFE9b b j := fun b j z => by
  unfold W_X9_many at z
  unfold SAFE9b
  exact (Or.inl (by omega))
theorem j2_many {l1 : Int} {M : Mem} (r_l1 : (-2147483648) ≤ l1 ∧ l1 ≤ 2147483647) (h : J2 M) : wp (mX8_many 1 l1 M) (fun q1 => wp (mX9_many 126 l1 q1.2) (fun q2 => J2 q2.2)) := (J2.un h (A := fun q1 q2 => J q2.2) (j_many r_l1 h.1) (fun i => s_X8_many r_l1 i) sg_X8_many (fun _ w i => s_X9_many r_l1 i) sg_X9_many)
