section
/-! ===== calls that change nothing that Rel sees ===== -/
theorem sf_X8_facts : ∀ b j, W_X8_facts b j → SAFE8 b j := fun b j z => by
  unfold W_X8_facts at z
  unfold SAFE8
  exact z.elim
theorem sf_X9_facts : ∀ b j, W_X9_facts b j → SAFE9 b j := fun b j z => by
  unfold W_X9_facts at z
  unfold SAFE9
  exact Or.elim z (fun z => (Or.inr (Or.inr (Or.inr (Or.inr (Or.inr (by omega))))))) (fun z => (Or.inl (by omega)))
theorem j_facts {M : Mem}  (h : J M) : wp (mX8_facts 1 M) (fun q1 => wp (mX9_facts 126 q1.2) (fun q2 => J q2.2)) :=
  h.un (fun i => s_X8_facts  i) sf_X8_facts (fun _ w i => s_X9_facts   i) sf_X9_facts
theorem sf_X8_tell : ∀ b j, W_X8_tell b j → SAFE8 b j := fun b j z => by
  unfold W_X8_tell at z
  unfold SAFE8
  exact (Or.inr (Or.inl ⟨z.1, by omega⟩))
theorem sf_X9_tell : ∀ b j, W_X9_tell b j → SAFE9 b j := fun b j z => by
  unfold W_X9_tell at z
  unfold SAFE9
  exact Or.elim z (fun z => (Or.inr (Or.inr (Or.inl (by omega))))) (fun z => Or.elim z (fun z => (Or.inr (Or.inr (Or.inr (Or.inr (Or.inr (by omega))))))) (fun z => (Or.inl (by omega))))
theorem j_tell {l1 l2 l3 l4 : Int} {M : Mem} (r_l1 : (-2147483648) ≤ l1 ∧ l1 ≤ 2147483647) (r_l2 : (-2147483648) ≤ l2 ∧ l2 ≤ 2147483647) (r_l3 : (-2147483648) ≤ l3 ∧ l3 ≤ 2147483647) (r_l4 : 0 ≤ l4 ∧ l4 ≤ 1) (h : J M) : wp (mX8_tell 1 l1 l2 l3 l4 M) (fun q1 => wp (mX9_tell 126 l1 l2 l3 l4 q1.2) (fun q2 => J q2.2)) :=
  h.un (fun i => s_X8_tell r_l1 r_l2 r_l3 r_l4 i) sf_X8_tell (fun _ w i => s_X9_tell r_l1 r_l2 r_l3 r_l4  i) sf_X9_tell
theorem sf_X8_fact : ∀ b j, W_X8_fact b j → SAFE8 b j := fun b j z => by
  unfold W_X8_fact at z
  unfold SAFE8
  exact z.elim
theorem sf_X9_fact : ∀ b j, W_X9_fact b j → SAFE9 b j := fun b j z => by
  unfold W_X9_fact at z
  unfold SAFE9
  exact Or.elim z (fun z => (Or.inr (Or.inr (Or.inr (Or.inr (Or.inr (by omega))))))) (fun z => (Or.inl (by omega)))
theorem j_fact {l1 l2 l3 : Int} {M : Mem} (r_l1 : (-2147483648) ≤ l1 ∧ l1 ≤ 2147483647) (r_l2 : (-2147483648) ≤ l2 ∧ l2 ≤ 2147483647) (r_l3 : (-2147483648) ≤ l3 ∧ l3 ≤ 2147483647) (h : J M) : wp (mX8_fact 1 l1 l2 l3 M) (fun q1 => wp (mX9_fact 126 l1 l2 l3 q1.2) (fun q2 => J q2.2)) :=
  h.un (fun i => s_X8_fact r_l1 r_l2 r_l3 i) sf_X8_fact (fun _ w i => s_X9_fact r_l1 r_l2 r_l3  i) sf_X9_fact
theorem sf_X8_keep : ∀ b j, W_X8_keep b j → SAFE8 b j := fun b j z => by
  unfold W_X8_keep at z
  unfold SAFE8
  exact (Or.inr (Or.inr ⟨by omega, by omega⟩))
theorem sf_X9_keep : ∀ b j, W_X9_keep b j → SAFE9 b j := fun b j z => by
  unfold W_X9_keep at z
  unfold SAFE9
  exact Or.elim z (fun z => (Or.inr (Or.inr (Or.inr (Or.inr (Or.inr (by omega))))))) (fun z => (Or.inl (by omega)))
theorem j_keep {l1 : Int} {M : Mem} (r_l1 : (-2147483648) ≤ l1 ∧ l1 ≤ 2147483647) (h : J M) : wp (mX8_keep 1 l1 M) (fun q1 => wp (mX9_keep 126 l1 q1.2) (fun q2 => J q2.2)) :=
  h.un (fun i => s_X8_keep r_l1 i) sf_X8_keep (fun _ w i => s_X9_keep r_l1  i) sf_X9_keep
theorem sf_X8_apart : ∀ b j, W_X8_apart b j → SAFE8 b j := fun b j z => by
  unfold W_X8_apart at z
  unfold SAFE8
  exact Or.elim z (fun z => (Or.inr (Or.inr ⟨by omega, by omega⟩))) (fun z => Or.elim z (fun z => (Or.inr (Or.inr ⟨by omega, by omega⟩))) (fun z => Or.elim z (fun z => (Or.inr (Or.inr ⟨by omega, by omega⟩))) (fun z => (Or.inr (Or.inr ⟨by omega, by omega⟩)))))
theorem sf_X9_apart : ∀ b j, W_X9_apart b j → SAFE9 b j := fun b j z => by
  unfold W_X9_apart at z
  unfold SAFE9
  exact Or.elim z (fun z => (Or.inr (Or.inr (Or.inr (Or.inr (Or.inr (by omega))))))) (fun z => Or.elim z (fun z => (Or.inr (Or.inr (Or.inr (Or.inr (Or.inr (by omega))))))) (fun z => (Or.inl (by omega))))
theorem j_apart {l1 : Int} {M : Mem} (r_l1 : (-2147483648) ≤ l1 ∧ l1 ≤ 2147483647) (h : J M) : wp (mX8_apart 1 l1 M) (fun q1 => wp (mX9_apart 126 l1 q1.2) (fun q2 => J q2.2)) :=
  h.un (fun i => s_X8_apart r_l1 i) sf_X8_apart (fun _ w i => s_X9_apart r_l1  i) sf_X9_apart
theorem sf_X8_fault : ∀ b j, W_X8_fault b j → SAFE8 b j := fun b j z => by
  unfold W_X8_fault at z
  unfold SAFE8
  exact z.elim
theorem sf_X9_fault : ∀ b j, W_X9_fault b j → SAFE9 b j := fun b j z => by
  unfold W_X9_fault at z
  unfold SAFE9
  exact (Or.inl (by omega))
theorem j_fault {l1 : Int} {M : Mem} (r_l1 : (-2147483648) ≤ l1 ∧ l1 ≤ 2147483647) (h : J M) : wp (mX8_fault 1 l1 M) (fun q1 => wp (mX9_fault 126 l1 q1.2) (fun q2 => J q2.2)) :=
  h.un (fun i => s_X8_fault r_l1 i) sf_X8_fault (fun _ w i => s_X9_fault r_l1  i) sf_X9_fault
theorem sf_X8_strike : ∀ b j, W_X8_strike b j → SAFE8 b j := fun b j z => by
  unfold W_X8_strike at z
  unfold SAFE8
  exact (Or.inr (Or.inr ⟨by omega, by omega⟩))
theorem sf_X9_strike : ∀ b j, W_X9_strike b j → SAFE9 b j := fun b j z => by
  unfold W_X9_strike at z
  unfold SAFE9
  exact Or.elim z (fun z => (Or.inr (Or.inr (Or.inr (Or.inl (by omega)))))) (fun z => (Or.inl (by omega)))
theorem j_strike {l1 : Int} {M : Mem} (r_l1 : (-2147483648) ≤ l1 ∧ l1 ≤ 2147483647) (h : J M) : wp (mX8_strike 1 l1 M) (fun q1 => wp (mX9_strike 126 l1 q1.2) (fun q2 => J q2.2)) :=
  h.un (fun i => s_X8_strike r_l1 i) sf_X8_strike (fun _ w i => s_X9_strike r_l1  i) sf_X9_strike
theorem sf_X8_so : ∀ b j, W_X8_so b j → SAFE8 b j := fun b j z => by
  unfold W_X8_so at z
  unfold SAFE8
  exact Or.elim z (fun z => (Or.inr (Or.inr ⟨by omega, by omega⟩))) (fun z => Or.elim z (fun z => (Or.inr (Or.inr ⟨by omega, by omega⟩))) (fun z => Or.elim z (fun z => (Or.inr (Or.inr ⟨by omega, by omega⟩))) (fun z => (Or.inr (Or.inr ⟨by omega, by omega⟩)))))
theorem sf_X9_so : ∀ b j, W_X9_so b j → SAFE9 b j := fun b j z => by
  unfold W_X9_so at z
  unfold SAFE9
  exact Or.elim z (fun z => (Or.inr (Or.inr (Or.inr (Or.inr (Or.inr (by omega))))))) (fun z => Or.elim z (fun z => (Or.inr (Or.inr (Or.inr (Or.inr (Or.inr (by omega))))))) (fun z => Or.elim z (fun z => (Or.inl (by omega))) (fun z => (Or.inl (by omega)))))
theorem j_so {l1 : Int} {M : Mem} (r_l1 : (-2147483648) ≤ l1 ∧ l1 ≤ 2147483647) (h : J M) : wp (mX8_so 1 l1 M) (fun q1 => wp (mX9_so 126 l1 q1.2) (fun q2 => J q2.2)) :=
  h.un (fun i => s_X8_so r_l1 i) sf_X8_so (fun _ w i => s_X9_so r_l1 w i) sf_X9_so
theorem sf_X8_breaks : ∀ b j, W_X8_breaks b j → SAFE8 b j := fun b j z => by
  unfold W_X8_breaks at z
  unfold SAFE8
  exact Or.elim z (fun z => (Or.inr (Or.inr ⟨by omega, by omega⟩))) (fun z => Or.elim z (fun z => (Or.inr (Or.inr ⟨by omega, by omega⟩))) (fun z => Or.elim z (fun z => (Or.inr (Or.inr ⟨by omega, by omega⟩))) (fun z => (Or.inr (Or.inr ⟨by omega, by omega⟩)))))
theorem sf_X9_breaks : ∀ b j, W_X9_breaks b j → SAFE9 b j := fun b j z => by
  unfold W_X9_breaks at z
  unfold SAFE9
  exact Or.elim z (fun z => (Or.inr (Or.inr (Or.inr (Or.inr (Or.inr (by omega))))))) (fun z => Or.elim z (fun z => (Or.inr (Or.inr (Or.inr (Or.inr (Or.inr (by omega))))))) (fun z => Or.elim z (fun z => (Or.inl (by omega))) (fun z => (Or.inl (by omega)))))
theorem j_breaks {l1 l2 : Int} {M : Mem} (r_l1 : (-2147483648) ≤ l1 ∧ l1 ≤ 2147483647) (r_l2 : (-2147483648) ≤ l2 ∧ l2 ≤ 2147483647) (h : J M) : wp (mX8_breaks 1 l1 l2 M) (fun q1 => wp (mX9_breaks 126 l1 l2 q1.2) (fun q2 => J q2.2)) :=
  h.un (fun i => s_X8_breaks r_l1 r_l2 i) sf_X8_breaks (fun _ w i => s_X9_breaks r_l1 r_l2 w i) sf_X9_breaks
theorem sf_X8_worlds : ∀ b j, W_X8_worlds b j → SAFE8 b j := fun b j z => by
  unfold W_X8_worlds at z
  unfold SAFE8
  exact Or.elim z (fun z => (Or.inr (Or.inr ⟨by omega, by omega⟩))) (fun z => Or.elim z (fun z => (Or.inr (Or.inr ⟨by omega, by omega⟩))) (fun z => Or.elim z (fun z => (Or.inr (Or.inr ⟨by omega, by omega⟩))) (fun z => Or.elim z (fun z => (Or.inr (Or.inr (by unfold isWS at z; omega)))) (fun z => Or.elim z (fun z => (Or.inl (by omega))) (fun z => Or.elim z (fun z => (Or.inr (Or.inr ⟨by omega, by omega⟩))) (fun z => Or.elim z (fun z => (Or.inr (Or.inr ⟨by omega, by omega⟩))) (fun z => Or.elim z (fun z => (Or.inr (Or.inr ⟨by omega, by omega⟩))) (fun z => Or.elim z (fun z => (Or.inr (Or.inr ⟨by omega, by omega⟩))) (fun z => Or.elim z (fun z => (Or.inr (Or.inr ⟨by omega, by omega⟩))) (fun z => Or.elim z (fun z => (Or.inr (Or.inr ⟨by omega, by omega⟩))) (fun z => Or.elim z (fun z => (Or.inr (Or.inr ⟨by omega, by omega⟩))) (fun z => Or.elim z (fun z => (Or.inr (Or.inr (by unfold isWS at z; omega)))) (fun z => (Or.inr (Or.inr (by unfold isWS at z; omega))))))))))))))))
theorem sf_X9_worlds : ∀ b j, W_X9_worlds b j → SAFE9 b j := fun b j z => by
  unfold W_X9_worlds at z
  unfold SAFE9
  exact Or.elim z (fun z => (Or.inr (Or.inr (Or.inr (Or.inr (Or.inr (by omega))))))) (fun z => Or.elim z (fun z => (Or.inr (Or.inr (Or.inr (Or.inr (Or.inr (by omega))))))) (fun z => Or.elim z (fun z => (Or.inl (by omega))) (fun z => Or.elim z (fun z => (Or.inl (by omega))) (fun z => Or.elim z (fun z => (Or.inl (by omega))) (fun z => Or.elim z (fun z => (Or.inl (by omega))) (fun z => (Or.inl (by omega))))))))
theorem j_worlds {M : Mem}  (h : J M) : wp (mX8_worlds 1 M) (fun q1 => wp (mX9_worlds 126 q1.2) (fun q2 => J q2.2)) :=
  h.un (fun i => s_X8_worlds  i) sf_X8_worlds (fun _ w i => s_X9_worlds  w i) sf_X9_worlds
theorem sf_X8_forms : ∀ b j, W_X8_forms b j → SAFE8 b j := fun b j z => by
  unfold W_X8_forms at z
  unfold SAFE8
  exact Or.elim z (fun z => (Or.inr (Or.inr ⟨by omega, by omega⟩))) (fun z => Or.elim z (fun z => (Or.inr (Or.inr ⟨by omega, by omega⟩))) (fun z => Or.elim z (fun z => (Or.inr (Or.inr ⟨by omega, by omega⟩))) (fun z => Or.elim z (fun z => (Or.inr (Or.inr ⟨by omega, by omega⟩))) (fun z => Or.elim z (fun z => (Or.inr (Or.inr ⟨by omega, by omega⟩))) (fun z => Or.elim z (fun z => (Or.inr (Or.inr ⟨by omega, by omega⟩))) (fun z => Or.elim z (fun z => (Or.inr (Or.inr ⟨by omega, by omega⟩))) (fun z => Or.elim z (fun z => (Or.inr (Or.inr (by unfold isWS at z; omega)))) (fun z => Or.elim z (fun z => (Or.inl (by omega))) (fun z => Or.elim z (fun z => (Or.inr (Or.inr ⟨by omega, by omega⟩))) (fun z => Or.elim z (fun z => (Or.inr (Or.inr ⟨by omega, by omega⟩))) (fun z => Or.elim z (fun z => (Or.inr (Or.inr ⟨by omega, by omega⟩))) (fun z => Or.elim z (fun z => (Or.inr (Or.inr ⟨by omega, by omega⟩))) (fun z => Or.elim z (fun z => (Or.inr (Or.inr ⟨by omega, by omega⟩))) (fun z => Or.elim z (fun z => (Or.inr (Or.inr ⟨by omega, by omega⟩))) (fun z => Or.elim z (fun z => (Or.inr (Or.inr ⟨by omega, by omega⟩))) (fun z => Or.elim z (fun z => (Or.inr (Or.inr ⟨by omega, by omega⟩))) (fun z => Or.elim z (fun z => (Or.inr (Or.inr ⟨by omega, by omega⟩))) (fun z => Or.elim z (fun z => (Or.inr (Or.inr ⟨by omega, by omega⟩))) (fun z => Or.elim z (fun z => (Or.inr (Or.inr ⟨by omega, by omega⟩))) (fun z => Or.elim z (fun z => (Or.inr (Or.inr ⟨by omega, by omega⟩))) (fun z => Or.elim z (fun z => (Or.inr (Or.inr ⟨by omega, by omega⟩))) (fun z => Or.elim z (fun z => (Or.inr (Or.inr ⟨by omega, by omega⟩))) (fun z => Or.elim z (fun z => (Or.inr (Or.inr ⟨by omega, by omega⟩))) (fun z => Or.elim z (fun z => (Or.inr (Or.inr ⟨by omega, by omega⟩))) (fun z => Or.elim z (fun z => (Or.inr (Or.inr ⟨by omega, by omega⟩))) (fun z => Or.elim z (fun z => (Or.inr (Or.inr (by unfold isWS at z; omega)))) (fun z => (Or.inr (Or.inr (by unfold isWS at z; omega))))))))))))))))))))))))))))))
theorem sf_X9_forms : ∀ b j, W_X9_forms b j → SAFE9 b j := fun b j z => by
  unfold W_X9_forms at z
  unfold SAFE9
  exact Or.elim z (fun z => (Or.inr (Or.inr (Or.inr (Or.inr (Or.inr (by omega))))))) (fun z => Or.elim z (fun z => (Or.inr (Or.inr (Or.inr (Or.inr (Or.inr (by omega))))))) (fun z => Or.elim z (fun z => (Or.inl (by omega))) (fun z => Or.elim z (fun z => (Or.inl (by omega))) (fun z => Or.elim z (fun z => (Or.inl (by omega))) (fun z => Or.elim z (fun z => (Or.inl (by omega))) (fun z => (Or.inl (by omega))))))))
theorem j_forms {M : Mem}  (h : J M) : wp (mX8_forms 1 M) (fun q1 => wp (mX9_forms 126 q1.2) (fun q2 => J q2.2)) :=
  h.un (fun i => s_X8_forms  i) sf_X8_forms (fun _ w i => s_X9_forms  w i) sf_X9_forms
theorem sf_X8_form : ∀ b j, W_X8_form b j → SAFE8 b j := fun b j z => by
  unfold W_X8_form at z
  unfold SAFE8
  exact Or.elim z (fun z => (Or.inr (Or.inr ⟨by omega, by omega⟩))) (fun z => Or.elim z (fun z => (Or.inr (Or.inr ⟨by omega, by omega⟩))) (fun z => Or.elim z (fun z => (Or.inr (Or.inr ⟨by omega, by omega⟩))) (fun z => Or.elim z (fun z => (Or.inr (Or.inr ⟨by omega, by omega⟩))) (fun z => Or.elim z (fun z => (Or.inr (Or.inr ⟨by omega, by omega⟩))) (fun z => Or.elim z (fun z => (Or.inr (Or.inr ⟨by omega, by omega⟩))) (fun z => Or.elim z (fun z => (Or.inr (Or.inr ⟨by omega, by omega⟩))) (fun z => Or.elim z (fun z => (Or.inr (Or.inr (by unfold isWS at z; omega)))) (fun z => Or.elim z (fun z => (Or.inl (by omega))) (fun z => Or.elim z (fun z => (Or.inr (Or.inr ⟨by omega, by omega⟩))) (fun z => Or.elim z (fun z => (Or.inr (Or.inr ⟨by omega, by omega⟩))) (fun z => Or.elim z (fun z => (Or.inr (Or.inr ⟨by omega, by omega⟩))) (fun z => Or.elim z (fun z => (Or.inr (Or.inr ⟨by omega, by omega⟩))) (fun z => Or.elim z (fun z => (Or.inr (Or.inr ⟨by omega, by omega⟩))) (fun z => Or.elim z (fun z => (Or.inr (Or.inr ⟨by omega, by omega⟩))) (fun z => Or.elim z (fun z => (Or.inr (Or.inr ⟨by omega, by omega⟩))) (fun z => Or.elim z (fun z => (Or.inr (Or.inr ⟨by omega, by omega⟩))) (fun z => Or.elim z (fun z => (Or.inr (Or.inr ⟨by omega, by omega⟩))) (fun z => Or.elim z (fun z => (Or.inr (Or.inr ⟨by omega, by omega⟩))) (fun z => Or.elim z (fun z => (Or.inr (Or.inr ⟨by omega, by omega⟩))) (fun z => Or.elim z (fun z => (Or.inr (Or.inl ⟨z.1, by omega⟩))) (fun z => Or.elim z (fun z => (Or.inr (Or.inr ⟨by omega, by omega⟩))) (fun z => Or.elim z (fun z => (Or.inr (Or.inr ⟨by omega, by omega⟩))) (fun z => Or.elim z (fun z => (Or.inr (Or.inr ⟨by omega, by omega⟩))) (fun z => Or.elim z (fun z => (Or.inr (Or.inr ⟨by omega, by omega⟩))) (fun z => Or.elim z (fun z => (Or.inr (Or.inr ⟨by omega, by omega⟩))) (fun z => Or.elim z (fun z => (Or.inr (Or.inr ⟨by omega, by omega⟩))) (fun z => Or.elim z (fun z => (Or.inr (Or.inr (by unfold isWS at z; omega)))) (fun z => (Or.inr (Or.inr (by unfold isWS at z; omega)))))))))))))))))))))))))))))))
theorem sf_X9_form : ∀ b j, W_X9_form b j → SAFE9 b j := fun b j z => by
  unfold W_X9_form at z
  unfold SAFE9
  exact Or.elim z (fun z => (Or.inr (Or.inr (Or.inl (by omega))))) (fun z => Or.elim z (fun z => (Or.inr (Or.inr (Or.inr (Or.inr (Or.inr (by omega))))))) (fun z => Or.elim z (fun z => (Or.inr (Or.inr (Or.inr (Or.inr (Or.inr (by omega))))))) (fun z => Or.elim z (fun z => (Or.inl (by omega))) (fun z => Or.elim z (fun z => (Or.inl (by omega))) (fun z => Or.elim z (fun z => (Or.inl (by omega))) (fun z => Or.elim z (fun z => (Or.inl (by omega))) (fun z => (Or.inl (by omega)))))))))
theorem j_form {l1 : Int} {M : Mem} (r_l1 : (-2147483648) ≤ l1 ∧ l1 ≤ 2147483647) (h : J M) : wp (mX8_form 1 l1 M) (fun q1 => wp (mX9_form 126 l1 q1.2) (fun q2 => J q2.2)) :=
  h.un (fun i => s_X8_form r_l1 i) sf_X8_form (fun _ w i => s_X9_form r_l1 w i) sf_X9_form
theorem sf_X8_name : ∀ b j, W_X8_name b j → SAFE8 b j := fun b j z => by
  unfold W_X8_name at z
  unfold SAFE8
  exact Or.elim z (fun z => (Or.inr (Or.inr ⟨by omega, by omega⟩))) (fun z => Or.elim z (fun z => (Or.inr (Or.inr ⟨by omega, by omega⟩))) (fun z => Or.elim z (fun z => (Or.inr (Or.inr ⟨by omega, by omega⟩))) (fun z => Or.elim z (fun z => (Or.inr (Or.inr ⟨by omega, by omega⟩))) (fun z => (Or.inr (Or.inl ⟨z.1, by omega⟩))))))
theorem sf_X9_name : ∀ b j, W_X9_name b j → SAFE9 b j := fun b j z => by
  unfold W_X9_name at z
  unfold SAFE9
  exact Or.elim z (fun z => (Or.inr (Or.inr (Or.inl (by omega))))) (fun z => Or.elim z (fun z => (Or.inr (Or.inr (Or.inr (Or.inr (Or.inr (by omega))))))) (fun z => Or.elim z (fun z => (Or.inr (Or.inr (Or.inr (Or.inr (Or.inr (by omega))))))) (fun z => (Or.inl (by omega)))))
theorem j_name {M : Mem}  (h : J M) : wp (mX8_name 1 M) (fun q1 => wp (mX9_name 126 q1.2) (fun q2 => J q2.2)) :=
  h.un (fun i => s_X8_name  i) sf_X8_name (fun _ w i => s_X9_name   i) sf_X9_name
theorem sf_X8_least : ∀ b j, W_X8_least b j → SAFE8 b j := fun b j z => by
  unfold W_X8_least at z
  unfold SAFE8
  exact Or.elim z (fun z => (Or.inr (Or.inr ⟨by omega, by omega⟩))) (fun z => Or.elim z (fun z => (Or.inr (Or.inr ⟨by omega, by omega⟩))) (fun z => Or.elim z (fun z => (Or.inr (Or.inr ⟨by omega, by omega⟩))) (fun z => Or.elim z (fun z => (Or.inl (by omega))) (fun z => Or.elim z (fun z => (Or.inr (Or.inr ⟨by omega, by omega⟩))) (fun z => Or.elim z (fun z => (Or.inr (Or.inr ⟨by omega, by omega⟩))) (fun z => Or.elim z (fun z => (Or.inr (Or.inr ⟨by omega, by omega⟩))) (fun z => Or.elim z (fun z => (Or.inr (Or.inr ⟨by omega, by omega⟩))) (fun z => Or.elim z (fun z => (Or.inr (Or.inr ⟨by omega, by omega⟩))) (fun z => Or.elim z (fun z => (Or.inr (Or.inr ⟨by omega, by omega⟩))) (fun z => (Or.inr (Or.inr ⟨by omega, by omega⟩))))))))))))
theorem sf_X9_least : ∀ b j, W_X9_least b j → SAFE9 b j := fun b j z => by
  unfold W_X9_least at z
  unfold SAFE9
  exact Or.elim z (fun z => (Or.inr (Or.inr (Or.inr (Or.inr (Or.inr (by omega))))))) (fun z => Or.elim z (fun z => (Or.inr (Or.inr (Or.inr (Or.inr (Or.inr (by omega))))))) (fun z => Or.elim z (fun z => (Or.inl (by omega))) (fun z => Or.elim z (fun z => (Or.inl (by omega))) (fun z => Or.elim z (fun z => (Or.inl (by omega))) (fun z => Or.elim z (fun z => (Or.inl (by omega))) (fun z => Or.elim z (fun z => (Or.inl (by omega))) (fun z => Or.elim z (fun z => (Or.inl (by omega))) (fun z => Or.elim z (fun z => (Or.inl (by omega))) (fun z => (Or.inl (by omega)))))))))))
theorem j_least {l1 : Int} {M : Mem} (r_l1 : (-2147483648) ≤ l1 ∧ l1 ≤ 2147483647) (h : J M) : wp (mX8_least 1 l1 M) (fun q1 => wp (mX9_least 126 l1 q1.2) (fun q2 => J q2.2)) :=
  h.un (fun i => s_X8_least r_l1 i) sf_X8_least (fun _ w i => s_X9_least r_l1 w i) sf_X9_least
theorem sf_X8_core : ∀ b j, W_X8_core b j → SAFE8 b j := fun b j z => by
  unfold W_X8_core at z
  unfold SAFE8
  exact Or.elim z (fun z => (Or.inr (Or.inr ⟨by omega, by omega⟩))) (fun z => Or.elim z (fun z => (Or.inr (Or.inr ⟨by omega, by omega⟩))) (fun z => Or.elim z (fun z => (Or.inr (Or.inr ⟨by omega, by omega⟩))) (fun z => Or.elim z (fun z => (Or.inr (Or.inr (by unfold isWS at z; omega)))) (fun z => Or.elim z (fun z => (Or.inl (by omega))) (fun z => Or.elim z (fun z => (Or.inr (Or.inr ⟨by omega, by omega⟩))) (fun z => Or.elim z (fun z => (Or.inr (Or.inr ⟨by omega, by omega⟩))) (fun z => Or.elim z (fun z => (Or.inr (Or.inr ⟨by omega, by omega⟩))) (fun z => Or.elim z (fun z => (Or.inr (Or.inr ⟨by omega, by omega⟩))) (fun z => Or.elim z (fun z => (Or.inr (Or.inr ⟨by omega, by omega⟩))) (fun z => Or.elim z (fun z => (Or.inr (Or.inr ⟨by omega, by omega⟩))) (fun z => Or.elim z (fun z => (Or.inr (Or.inr ⟨by omega, by omega⟩))) (fun z => Or.elim z (fun z => (Or.inr (Or.inr (by unfold isWS at z; omega)))) (fun z => (Or.inr (Or.inr (by unfold isWS at z; omega))))))))))))))))
theorem sf_X9_core : ∀ b j, W_X9_core b j → SAFE9 b j := fun b j z => by
  unfold W_X9_core at z
  unfold SAFE9
  exact Or.elim z (fun z => (Or.inr (Or.inr (Or.inr (Or.inr (Or.inr (by omega))))))) (fun z => Or.elim z (fun z => (Or.inr (Or.inr (Or.inr (Or.inr (Or.inr (by omega))))))) (fun z => Or.elim z (fun z => (Or.inr (Or.inr (Or.inr (Or.inr (Or.inr (by omega))))))) (fun z => Or.elim z (fun z => (Or.inl (by omega))) (fun z => Or.elim z (fun z => (Or.inl (by omega))) (fun z => Or.elim z (fun z => (Or.inl (by omega))) (fun z => (Or.inl (by omega))))))))
theorem j_core {l1 : Int} {M : Mem} (r_l1 : (-2147483648) ≤ l1 ∧ l1 ≤ 2147483647) (h : J M) : wp (mX8_core 1 l1 M) (fun q1 => wp (mX9_core 126 l1 q1.2) (fun q2 => J q2.2)) :=
  h.un (fun i => s_X8_core r_l1 i) sf_X8_core (fun _ w i => s_X9_core r_l1 w i) sf_X9_core
theorem sf_X8_sure : ∀ b j, W_X8_sure b j → SAFE8 b j := fun b j z => by
  unfold W_X8_sure at z
  unfold SAFE8
  exact Or.elim z (fun z => (Or.inr (Or.inr ⟨by omega, by omega⟩))) (fun z => Or.elim z (fun z => (Or.inr (Or.inr ⟨by omega, by omega⟩))) (fun z => Or.elim z (fun z => (Or.inr (Or.inr ⟨by omega, by omega⟩))) (fun z => Or.elim z (fun z => (Or.inr (Or.inr (by unfold isWS at z; omega)))) (fun z => Or.elim z (fun z => (Or.inl (by omega))) (fun z => Or.elim z (fun z => (Or.inr (Or.inr ⟨by omega, by omega⟩))) (fun z => Or.elim z (fun z => (Or.inr (Or.inr ⟨by omega, by omega⟩))) (fun z => Or.elim z (fun z => (Or.inr (Or.inr ⟨by omega, by omega⟩))) (fun z => Or.elim z (fun z => (Or.inr (Or.inr ⟨by omega, by omega⟩))) (fun z => Or.elim z (fun z => (Or.inr (Or.inr ⟨by omega, by omega⟩))) (fun z => Or.elim z (fun z => (Or.inr (Or.inr ⟨by omega, by omega⟩))) (fun z => Or.elim z (fun z => (Or.inr (Or.inr ⟨by omega, by omega⟩))) (fun z => Or.elim z (fun z => (Or.inr (Or.inr (by unfold isWS at z; omega)))) (fun z => (Or.inr (Or.inr (by unfold isWS at z; omega))))))))))))))))
theorem sf_X9_sure : ∀ b j, W_X9_sure b j → SAFE9 b j := fun b j z => by
  unfold W_X9_sure at z
  unfold SAFE9
  exact Or.elim z (fun z => (Or.inr (Or.inr (Or.inr (Or.inr (Or.inr (by omega))))))) (fun z => Or.elim z (fun z => (Or.inr (Or.inr (Or.inr (Or.inr (Or.inr (by omega))))))) (fun z => Or.elim z (fun z => (Or.inr (Or.inr (Or.inr (Or.inr (Or.inr (by omega))))))) (fun z => Or.elim z (fun z => (Or.inl (by omega))) (fun z => Or.elim z (fun z => (Or.inl (by omega))) (fun z => Or.elim z (fun z => (Or.inl (by omega))) (fun z => Or.elim z (fun z => (Or.inl (by omega))) (fun z => Or.elim z (fun z => (Or.inl (by omega))) (fun z => (Or.inl (by omega))))))))))
theorem j_sure {l1 l2 l3 : Int} {M : Mem} (r_l1 : (-2147483648) ≤ l1 ∧ l1 ≤ 2147483647) (r_l2 : (-2147483648) ≤ l2 ∧ l2 ≤ 2147483647) (r_l3 : (-2147483648) ≤ l3 ∧ l3 ≤ 2147483647) (h : J M) : wp (mX8_sure 1 l1 l2 l3 M) (fun q1 => wp (mX9_sure 126 l1 l2 l3 q1.2) (fun q2 => J q2.2)) :=
  h.un (fun i => s_X8_sure r_l1 r_l2 r_l3 i) sf_X8_sure (fun _ w i => s_X9_sure r_l1 r_l2 r_l3 w i) sf_X9_sure
theorem sf_X8_cause : ∀ b j, W_X8_cause b j → SAFE8 b j := fun b j z => by
  unfold W_X8_cause at z
  unfold SAFE8
  exact Or.elim z (fun z => (Or.inr (Or.inr ⟨by omega, by omega⟩))) (fun z => Or.elim z (fun z => (Or.inr (Or.inr ⟨by omega, by omega⟩))) (fun z => Or.elim z (fun z => (Or.inr (Or.inr ⟨by omega, by omega⟩))) (fun z => Or.elim z (fun z => (Or.inr (Or.inr ⟨by omega, by omega⟩))) (fun z => Or.elim z (fun z => (Or.inr (Or.inr (by unfold isWS at z; omega)))) (fun z => Or.elim z (fun z => (Or.inl (by omega))) (fun z => Or.elim z (fun z => (Or.inr (Or.inr ⟨by omega, by omega⟩))) (fun z => Or.elim z (fun z => (Or.inr (Or.inr ⟨by omega, by omega⟩))) (fun z => Or.elim z (fun z => (Or.inr (Or.inr ⟨by omega, by omega⟩))) (fun z => Or.elim z (fun z => (Or.inr (Or.inr ⟨by omega, by omega⟩))) (fun z => Or.elim z (fun z => (Or.inr (Or.inr ⟨by omega, by omega⟩))) (fun z => Or.elim z (fun z => (Or.inr (Or.inr ⟨by omega, by omega⟩))) (fun z => Or.elim z (fun z => (Or.inr (Or.inr ⟨by omega, by omega⟩))) (fun z => Or.elim z (fun z => (Or.inr (Or.inr ⟨by omega, by omega⟩))) (fun z => Or.elim z (fun z => (Or.inr (Or.inr ⟨by omega, by omega⟩))) (fun z => Or.elim z (fun z => (Or.inr (Or.inr (by unfold isWS at z; omega)))) (fun z => (Or.inr (Or.inr (by unfold isWS at z; omega)))))))))))))))))))
theorem sf_X9_cause : ∀ b j, W_X9_cause b j → SAFE9 b j := fun b j z => by
  unfold W_X9_cause at z
  unfold SAFE9
  exact Or.elim z (fun z => (Or.inr (Or.inr (Or.inr (Or.inr (Or.inr (by omega))))))) (fun z => Or.elim z (fun z => (Or.inr (Or.inr (Or.inr (Or.inr (Or.inr (by omega))))))) (fun z => Or.elim z (fun z => (Or.inr (Or.inr (Or.inr (Or.inr (Or.inr (by omega))))))) (fun z => Or.elim z (fun z => (Or.inl (by omega))) (fun z => Or.elim z (fun z => (Or.inl (by omega))) (fun z => Or.elim z (fun z => (Or.inl (by omega))) (fun z => Or.elim z (fun z => (Or.inl (by omega))) (fun z => Or.elim z (fun z => (Or.inl (by omega))) (fun z => (Or.inl (by omega))))))))))
theorem j_cause {l1 l2 l3 l4 : Int} {M : Mem} (r_l1 : (-2147483648) ≤ l1 ∧ l1 ≤ 2147483647) (r_l2 : (-2147483648) ≤ l2 ∧ l2 ≤ 2147483647) (r_l3 : (-2147483648) ≤ l3 ∧ l3 ≤ 2147483647) (r_l4 : (-2147483648) ≤ l4 ∧ l4 ≤ 2147483647) (h : J M) : wp (mX8_cause 1 l1 l2 l3 l4 M) (fun q1 => wp (mX9_cause 126 l1 l2 l3 l4 q1.2) (fun q2 => J q2.2)) :=
  h.un (fun i => s_X8_cause r_l1 r_l2 r_l3 r_l4 i) sf_X8_cause (fun _ w i => s_X9_cause r_l1 r_l2 r_l3 r_l4 w i) sf_X9_cause
theorem sf_X8_without : ∀ b j, W_X8_without b j → SAFE8 b j := fun b j z => by
  unfold W_X8_without at z
  unfold SAFE8
  exact Or.elim z (fun z => (Or.inr (Or.inr ⟨by omega, by omega⟩))) (fun z => Or.elim z (fun z => (Or.inr (Or.inr ⟨by omega, by omega⟩))) (fun z => Or.elim z (fun z => (Or.inr (Or.inr ⟨by omega, by omega⟩))) (fun z => Or.elim z (fun z => (Or.inr (Or.inr ⟨by omega, by omega⟩))) (fun z => Or.elim z (fun z => (Or.inr (Or.inr (by unfold isWS at z; omega)))) (fun z => Or.elim z (fun z => (Or.inl (by omega))) (fun z => Or.elim z (fun z => (Or.inr (Or.inr ⟨by omega, by omega⟩))) (fun z => Or.elim z (fun z => (Or.inr (Or.inr ⟨by omega, by omega⟩))) (fun z => Or.elim z (fun z => (Or.inr (Or.inr ⟨by omega, by omega⟩))) (fun z => Or.elim z (fun z => (Or.inr (Or.inr ⟨by omega, by omega⟩))) (fun z => Or.elim z (fun z => (Or.inr (Or.inr ⟨by omega, by omega⟩))) (fun z => Or.elim z (fun z => (Or.inr (Or.inr ⟨by omega, by omega⟩))) (fun z => Or.elim z (fun z => (Or.inr (Or.inr ⟨by omega, by omega⟩))) (fun z => Or.elim z (fun z => (Or.inr (Or.inr ⟨by omega, by omega⟩))) (fun z => Or.elim z (fun z => (Or.inr (Or.inr ⟨by omega, by omega⟩))) (fun z => Or.elim z (fun z => (Or.inr (Or.inr (by unfold isWS at z; omega)))) (fun z => (Or.inr (Or.inr (by unfold isWS at z; omega)))))))))))))))))))
theorem sf_X9_without : ∀ b j, W_X9_without b j → SAFE9 b j := fun b j z => by
  unfold W_X9_without at z
  unfold SAFE9
  exact Or.elim z (fun z => (Or.inr (Or.inr (Or.inr (Or.inr (Or.inr (by omega))))))) (fun z => Or.elim z (fun z => (Or.inr (Or.inr (Or.inr (Or.inr (Or.inr (by omega))))))) (fun z => Or.elim z (fun z => (Or.inl (by omega))) (fun z => Or.elim z (fun z => (Or.inl (by omega))) (fun z => Or.elim z (fun z => (Or.inl (by omega))) (fun z => Or.elim z (fun z => (Or.inl (by omega))) (fun z => (Or.inl (by omega))))))))
theorem j_without {l1 : Int} {M : Mem} (r_l1 : (-2147483648) ≤ l1 ∧ l1 ≤ 2147483647) (h : J M) : wp (mX8_without 1 l1 M) (fun q1 => wp (mX9_without 126 l1 q1.2) (fun q2 => J q2.2)) :=
  h.un (fun i => s_X8_without r_l1 i) sf_X8_without (fun _ w i => s_X9_without r_l1 w i) sf_X9_without
theorem sf_X8_questions : ∀ b j, W_X8_questions b j → SAFE8 b j := fun b j z => by
  unfold W_X8_questions at z
  unfold SAFE8
  exact Or.elim z (fun z => (Or.inr (Or.inr ⟨by omega, by omega⟩))) (fun z => Or.elim z (fun z => (Or.inr (Or.inr ⟨by omega, by omega⟩))) (fun z => Or.elim z (fun z => (Or.inr (Or.inr ⟨by omega, by omega⟩))) (fun z => Or.elim z (fun z => (Or.inr (Or.inr ⟨by omega, by omega⟩))) (fun z => Or.elim z (fun z => (Or.inr (Or.inr (by unfold isWS at z; omega)))) (fun z => Or.elim z (fun z => (Or.inl (by omega))) (fun z => Or.elim z (fun z => (Or.inr (Or.inr ⟨by omega, by omega⟩))) (fun z => Or.elim z (fun z => (Or.inr (Or.inr ⟨by omega, by omega⟩))) (fun z => Or.elim z (fun z => (Or.inr (Or.inr ⟨by omega, by omega⟩))) (fun z => Or.elim z (fun z => (Or.inr (Or.inr ⟨by omega, by omega⟩))) (fun z => Or.elim z (fun z => (Or.inr (Or.inr ⟨by omega, by omega⟩))) (fun z => Or.elim z (fun z => (Or.inr (Or.inr ⟨by omega, by omega⟩))) (fun z => Or.elim z (fun z => (Or.inr (Or.inr ⟨by omega, by omega⟩))) (fun z => Or.elim z (fun z => (Or.inr (Or.inr (by unfold isWS at z; omega)))) (fun z => (Or.inr (Or.inr (by unfold isWS at z; omega)))))))))))))))))
theorem sf_X9_questions : ∀ b j, W_X9_questions b j → SAFE9 b j := fun b j z => by
  unfold W_X9_questions at z
  unfold SAFE9
  exact Or.elim z (fun z => (Or.inr (Or.inr (Or.inr (Or.inr (Or.inr (by omega))))))) (fun z => Or.elim z (fun z => (Or.inr (Or.inr (Or.inr (Or.inr (Or.inr (by omega))))))) (fun z => Or.elim z (fun z => (Or.inr (Or.inr (Or.inr (Or.inr (Or.inr (by omega))))))) (fun z => Or.elim z (fun z => (Or.inl (by omega))) (fun z => Or.elim z (fun z => (Or.inl (by omega))) (fun z => Or.elim z (fun z => (Or.inl (by omega))) (fun z => Or.elim z (fun z => (Or.inl (by omega))) (fun z => (Or.inl (by omega)))))))))
theorem j_questions {M : Mem}  (h : J M) : wp (mX8_questions 1 M) (fun q1 => wp (mX9_questions 126 q1.2) (fun q2 => J q2.2)) :=
  h.un (fun i => s_X8_questions  i) sf_X8_questions (fun _ w i => s_X9_questions  w i) sf_X9_questions
theorem sf_X8_settle : ∀ b j, W_X8_settle b j → SAFE8 b j := fun b j z => by
  unfold W_X8_settle at z
  unfold SAFE8
  exact Or.elim z (fun z => (Or.inr (Or.inr ⟨by omega, by omega⟩))) (fun z => Or.elim z (fun z => (Or.inr (Or.inr ⟨by omega, by omega⟩))) (fun z => Or.elim z (fun z => (Or.inr (Or.inr ⟨by omega, by omega⟩))) (fun z => Or.elim z (fun z => (Or.inr (Or.inr (by unfold isWS at z; omega)))) (fun z => Or.elim z (fun z => (Or.inl (by omega))) (fun z => Or.elim z (fun z => (Or.inr (Or.inr ⟨by omega, by omega⟩))) (fun z => Or.elim z (fun z => (Or.inr (Or.inr ⟨by omega, by omega⟩))) (fun z => Or.elim z (fun z => (Or.inr (Or.inr ⟨by omega, by omega⟩))) (fun z => Or.elim z (fun z => (Or.inr (Or.inr ⟨by omega, by omega⟩))) (fun z => Or.elim z (fun z => (Or.inr (Or.inr ⟨by omega, by omega⟩))) (fun z => Or.elim z (fun z => (Or.inr (Or.inr ⟨by omega, by omega⟩))) (fun z => Or.elim z (fun z => (Or.inr (Or.inr ⟨by omega, by omega⟩))) (fun z => Or.elim z (fun z => (Or.inr (Or.inr (by unfold isWS at z; omega)))) (fun z => (Or.inr (Or.inr (by unfold isWS at z; omega))))))))))))))))
theorem sf_X9_settle : ∀ b j, W_X9_settle b j → SAFE9 b j := fun b j z => by
  unfold W_X9_settle at z
  unfold SAFE9
  exact Or.elim z (fun z => (Or.inr (Or.inr (Or.inr (Or.inr (Or.inr (by omega))))))) (fun z => Or.elim z (fun z => (Or.inr (Or.inr (Or.inr (Or.inr (Or.inr (by omega))))))) (fun z => Or.elim z (fun z => (Or.inr (Or.inr (Or.inr (Or.inr (Or.inr (by omega))))))) (fun z => Or.elim z (fun z => (Or.inl (by omega))) (fun z => Or.elim z (fun z => (Or.inl (by omega))) (fun z => Or.elim z (fun z => (Or.inl (by omega))) (fun z => Or.elim z (fun z => (Or.inl (by omega))) (fun z => Or.elim z (fun z => (Or.inl (by omega))) (fun z => (Or.inl (by omega))))))))))
theorem j_settle {l1 : Int} {M : Mem} (r_l1 : (-2147483648) ≤ l1 ∧ l1 ≤ 2147483647) (h : J M) : wp (mX8_settle 1 l1 M) (fun q1 => wp (mX9_settle 126 l1 q1.2) (fun q2 => J q2.2)) :=
  h.un (fun i => s_X8_settle r_l1 i) sf_X8_settle (fun _ w i => s_X9_settle r_l1 w i) sf_X9_settle
theorem sf_X8_near : ∀ b j, W_X8_near b j → SAFE8 b j := fun b j z => by
  unfold W_X8_near at z
  unfold SAFE8
  exact Or.elim z (fun z => (Or.inr (Or.inr ⟨by omega, by omega⟩))) (fun z => Or.elim z (fun z => (Or.inr (Or.inr ⟨by omega, by omega⟩))) (fun z => Or.elim z (fun z => (Or.inr (Or.inr ⟨by omega, by omega⟩))) (fun z => Or.elim z (fun z => (Or.inr (Or.inr (by unfold isWS at z; omega)))) (fun z => Or.elim z (fun z => (Or.inl (by omega))) (fun z => Or.elim z (fun z => (Or.inr (Or.inr ⟨by omega, by omega⟩))) (fun z => Or.elim z (fun z => (Or.inr (Or.inr ⟨by omega, by omega⟩))) (fun z => Or.elim z (fun z => (Or.inr (Or.inr ⟨by omega, by omega⟩))) (fun z => Or.elim z (fun z => (Or.inr (Or.inl ⟨z.1, by omega⟩))) (fun z => Or.elim z (fun z => (Or.inr (Or.inr ⟨by omega, by omega⟩))) (fun z => Or.elim z (fun z => (Or.inr (Or.inr ⟨by omega, by omega⟩))) (fun z => Or.elim z (fun z => (Or.inr (Or.inr ⟨by omega, by omega⟩))) (fun z => Or.elim z (fun z => (Or.inr (Or.inr ⟨by omega, by omega⟩))) (fun z => Or.elim z (fun z => (Or.inr (Or.inr (by unfold isWS at z; omega)))) (fun z => (Or.inr (Or.inr (by unfold isWS at z; omega)))))))))))))))))
theorem sf_X9_near : ∀ b j, W_X9_near b j → SAFE9 b j := fun b j z => by
  unfold W_X9_near at z
  unfold SAFE9
  exact Or.elim z (fun z => (Or.inr (Or.inr (Or.inl (by omega))))) (fun z => Or.elim z (fun z => (Or.inr (Or.inr (Or.inr (Or.inr (Or.inr (by omega))))))) (fun z => Or.elim z (fun z => (Or.inr (Or.inr (Or.inr (Or.inr (Or.inr (by omega))))))) (fun z => Or.elim z (fun z => (Or.inl (by omega))) (fun z => Or.elim z (fun z => (Or.inl (by omega))) (fun z => Or.elim z (fun z => (Or.inl (by omega))) (fun z => Or.elim z (fun z => (Or.inl (by omega))) (fun z => (Or.inl (by omega)))))))))
theorem j_near {M : Mem}  (h : J M) : wp (mX8_near 1 M) (fun q1 => wp (mX9_near 126 q1.2) (fun q2 => J q2.2)) :=
  h.un (fun i => s_X8_near  i) sf_X8_near (fun _ w i => s_X9_near  w i) sf_X9_near
theorem sf_X8_holds : ∀ b j, W_X8_holds b j → SAFE8 b j := fun b j z => by
  unfold W_X8_holds at z
  unfold SAFE8
  exact Or.elim z (fun z => (Or.inr (Or.inr ⟨by omega, by omega⟩))) (fun z => Or.elim z (fun z => (Or.inr (Or.inr ⟨by omega, by omega⟩))) (fun z => Or.elim z (fun z => (Or.inr (Or.inr ⟨by omega, by omega⟩))) (fun z => Or.elim z (fun z => (Or.inr (Or.inr ⟨by omega, by omega⟩))) (fun z => Or.elim z (fun z => (Or.inr (Or.inr ⟨by omega, by omega⟩))) (fun z => Or.elim z (fun z => (Or.inr (Or.inr ⟨by omega, by omega⟩))) (fun z => Or.elim z (fun z => (Or.inr (Or.inr ⟨by omega, by omega⟩))) (fun z => Or.elim z (fun z => (Or.inr (Or.inr (by unfold isWS at z; omega)))) (fun z => Or.elim z (fun z => (Or.inl (by omega))) (fun z => Or.elim z (fun z => (Or.inr (Or.inr ⟨by omega, by omega⟩))) (fun z => Or.elim z (fun z => (Or.inr (Or.inr ⟨by omega, by omega⟩))) (fun z => Or.elim z (fun z => (Or.inr (Or.inr ⟨by omega, by omega⟩))) (fun z => Or.elim z (fun z => (Or.inr (Or.inr ⟨by omega, by omega⟩))) (fun z => Or.elim z (fun z => (Or.inr (Or.inr ⟨by omega, by omega⟩))) (fun z => Or.elim z (fun z => (Or.inr (Or.inr ⟨by omega, by omega⟩))) (fun z => Or.elim z (fun z => (Or.inr (Or.inr ⟨by omega, by omega⟩))) (fun z => Or.elim z (fun z => (Or.inr (Or.inr ⟨by omega, by omega⟩))) (fun z => Or.elim z (fun z => (Or.inr (Or.inr ⟨by omega, by omega⟩))) (fun z => Or.elim z (fun z => (Or.inr (Or.inr ⟨by omega, by omega⟩))) (fun z => Or.elim z (fun z => (Or.inr (Or.inr ⟨by omega, by omega⟩))) (fun z => Or.elim z (fun z => (Or.inr (Or.inr ⟨by omega, by omega⟩))) (fun z => Or.elim z (fun z => (Or.inr (Or.inr ⟨by omega, by omega⟩))) (fun z => Or.elim z (fun z => (Or.inr (Or.inr ⟨by omega, by omega⟩))) (fun z => Or.elim z (fun z => (Or.inr (Or.inr ⟨by omega, by omega⟩))) (fun z => Or.elim z (fun z => (Or.inr (Or.inr ⟨by omega, by omega⟩))) (fun z => Or.elim z (fun z => (Or.inr (Or.inr ⟨by omega, by omega⟩))) (fun z => Or.elim z (fun z => (Or.inr (Or.inr (by unfold isWS at z; omega)))) (fun z => (Or.inr (Or.inr (by unfold isWS at z; omega))))))))))))))))))))))))))))))
theorem sf_X9_holds : ∀ b j, W_X9_holds b j → SAFE9 b j := fun b j z => by
  unfold W_X9_holds at z
  unfold SAFE9
  exact Or.elim z (fun z => (Or.inr (Or.inr (Or.inr (Or.inr (Or.inr (by omega))))))) (fun z => Or.elim z (fun z => (Or.inr (Or.inr (Or.inr (Or.inr (Or.inr (by omega))))))) (fun z => Or.elim z (fun z => (Or.inl (by omega))) (fun z => Or.elim z (fun z => (Or.inl (by omega))) (fun z => Or.elim z (fun z => (Or.inl (by omega))) (fun z => Or.elim z (fun z => (Or.inl (by omega))) (fun z => (Or.inl (by omega))))))))
theorem j_holds {l1 : Int} {M : Mem} (r_l1 : (-2147483648) ≤ l1 ∧ l1 ≤ 2147483647) (h : J M) : wp (mX8_holds 1 l1 M) (fun q1 => wp (mX9_holds 126 l1 q1.2) (fun q2 => J q2.2)) :=
  h.un (fun i => s_X8_holds r_l1 i) sf_X8_holds (fun _ w i => s_X9_holds r_l1 w i) sf_X9_holds
theorem sf_X8_against : ∀ b j, W_X8_against b j → SAFE8 b j := fun b j z => by
  unfold W_X8_against at z
  unfold SAFE8
  exact Or.elim z (fun z => (Or.inr (Or.inr ⟨by omega, by omega⟩))) (fun z => Or.elim z (fun z => (Or.inr (Or.inr ⟨by omega, by omega⟩))) (fun z => Or.elim z (fun z => (Or.inr (Or.inr ⟨by omega, by omega⟩))) (fun z => Or.elim z (fun z => (Or.inr (Or.inr ⟨by omega, by omega⟩))) (fun z => Or.elim z (fun z => (Or.inr (Or.inr ⟨by omega, by omega⟩))) (fun z => Or.elim z (fun z => (Or.inr (Or.inr ⟨by omega, by omega⟩))) (fun z => Or.elim z (fun z => (Or.inr (Or.inr ⟨by omega, by omega⟩))) (fun z => Or.elim z (fun z => (Or.inr (Or.inr (by unfold isWS at z; omega)))) (fun z => Or.elim z (fun z => (Or.inl (by omega))) (fun z => Or.elim z (fun z => (Or.inr (Or.inr ⟨by omega, by omega⟩))) (fun z => Or.elim z (fun z => (Or.inr (Or.inr ⟨by omega, by omega⟩))) (fun z => Or.elim z (fun z => (Or.inr (Or.inr ⟨by omega, by omega⟩))) (fun z => Or.elim z (fun z => (Or.inr (Or.inr ⟨by omega, by omega⟩))) (fun z => Or.elim z (fun z => (Or.inr (Or.inr ⟨by omega, by omega⟩))) (fun z => Or.elim z (fun z => (Or.inr (Or.inr ⟨by omega, by omega⟩))) (fun z => Or.elim z (fun z => (Or.inr (Or.inr ⟨by omega, by omega⟩))) (fun z => Or.elim z (fun z => (Or.inr (Or.inr ⟨by omega, by omega⟩))) (fun z => Or.elim z (fun z => (Or.inr (Or.inr ⟨by omega, by omega⟩))) (fun z => Or.elim z (fun z => (Or.inr (Or.inr ⟨by omega, by omega⟩))) (fun z => Or.elim z (fun z => (Or.inr (Or.inr ⟨by omega, by omega⟩))) (fun z => Or.elim z (fun z => (Or.inr (Or.inl ⟨z.1, by omega⟩))) (fun z => Or.elim z (fun z => (Or.inr (Or.inr ⟨by omega, by omega⟩))) (fun z => Or.elim z (fun z => (Or.inr (Or.inr ⟨by omega, by omega⟩))) (fun z => Or.elim z (fun z => (Or.inr (Or.inr ⟨by omega, by omega⟩))) (fun z => Or.elim z (fun z => (Or.inr (Or.inr ⟨by omega, by omega⟩))) (fun z => Or.elim z (fun z => (Or.inr (Or.inr ⟨by omega, by omega⟩))) (fun z => Or.elim z (fun z => (Or.inr (Or.inr ⟨by omega, by omega⟩))) (fun z => Or.elim z (fun z => (Or.inr (Or.inr (by unfold isWS at z; omega)))) (fun z => (Or.inr (Or.inr (by unfold isWS at z; omega)))))))))))))))))))))))))))))))
theorem sf_X9_against : ∀ b j, W_X9_against b j → SAFE9 b j := fun b j z => by
  unfold W_X9_against at z
  unfold SAFE9
  exact Or.elim z (fun z => (Or.inr (Or.inr (Or.inl (by omega))))) (fun z => Or.elim z (fun z => (Or.inr (Or.inr (Or.inr (Or.inr (Or.inr (by omega))))))) (fun z => Or.elim z (fun z => (Or.inr (Or.inr (Or.inr (Or.inr (Or.inr (by omega))))))) (fun z => Or.elim z (fun z => (Or.inl (by omega))) (fun z => Or.elim z (fun z => (Or.inl (by omega))) (fun z => Or.elim z (fun z => (Or.inl (by omega))) (fun z => Or.elim z (fun z => (Or.inl (by omega))) (fun z => (Or.inl (by omega)))))))))
theorem j_against {M : Mem}  (h : J M) : wp (mX8_against 1 M) (fun q1 => wp (mX9_against 126 q1.2) (fun q2 => J q2.2)) :=
  h.un (fun i => s_X8_against  i) sf_X8_against (fun _ w i => s_X9_against  w i) sf_X9_against
theorem sf_X8_many : ∀ b j, W_X8_many b j → SAFE8 b j := fun b j z => by
  unfold W_X8_many at z
  unfold SAFE8
  exact z.elim
theorem sf_X9_many : ∀ b j, W_X9_many b j → SAFE9 b j := fun b j z => by
  unfold W_X9_many at z
  unfold SAFE9
  exact (Or.inl (by omega))
theorem j_many {l1 : Int} {M : Mem} (r_l1 : (-2147483648) ≤ l1 ∧ l1 ≤ 2147483647) (h : J M) : wp (mX8_many 1 l1 M) (fun q1 => wp (mX9_many 126 l1 q1.2) (fun q2 => J q2.2)) :=
  h.un (fun i => s_X8_many r_l1 i) sf_X8_many (fun _ w i => s_X9_many r_l1  i) sf_X9_many
end
section
/-! ===== calls that change what Rel sees ===== -/
theorem J.hn {M : Mem} (h : J M) : (169 : Int) ≤ ((mN M : Nat) : Int) := by have := h.1.2.2.2.2.1; omega
theorem SR.z {M : Mem} (h : SR 0 M) : (∀ k : Int, 0 ≤ k → k < 3 → mG M 5 k = mG M 133 k) ∧ mG M 4 6 = mG M 134 0 ∧ (∀ r : Int, 0 ≤ r → r < mG M 134 0 → mG M 6 r = mG M 135 r ∧ mG M 7 r = mG M 136 r) ∧ LO 4 M ∧ mG M 3 5 = mG M 128 0 ∧ mG M 3 13 = mG M 131 0 ∧ mG M 3 14 = mG M 132 0 ∧ mG M 3 18 = mG M 146 0 := by
  obtain ⟨h1, h2, h3, h4, h5⟩ := h
  refine ⟨fun k k0 k1 => ?_, h2, fun r r0 r1 => ?_, h4, h5⟩
  · have := h1 k k0 k1
    rw [show 3 * (0 : Int) + k = k by omega] at this; exact this
  · have := h3 r r0 r1
    rw [show 4 * (0 : Int) + r = r by omega] at this; exact this
theorem SR.mz {M : Mem} (h1 : ∀ k : Int, 0 ≤ k → k < 3 → mG M 5 k = mG M 133 k) (h2 : mG M 4 6 = mG M 134 0) (h3 : ∀ r : Int, 0 ≤ r → r < mG M 134 0 → mG M 6 r = mG M 135 r ∧ mG M 7 r = mG M 136 r) (h4 : LO 4 M) (h5 : mG M 3 5 = mG M 128 0) (h6 : mG M 3 13 = mG M 131 0) (h7 : mG M 3 14 = mG M 132 0) (h8 : mG M 3 18 = mG M 146 0) : SR 0 M := by
  refine ⟨fun k k0 k1 => ?_, h2, fun r r0 r1 => ?_, h4, h5, h6, h7, h8⟩
  · rw [show 3 * (0 : Int) + k = k by omega]; exact h1 k k0 k1
  · rw [show 4 * (0 : Int) + r = r by omega]; exact h3 r r0 r1
theorem wf8 {n : Nat} {W : Int → Int → Prop} {M M' : Mem} (iM : I n M) (h : WF M) (k : Keep n W M M') (hw : ∀ b j, W b j → b ≤ 125) : WF M' := h.kp iM k (fun b j z => by have := hw b j z; omega)
def EQ (q1 q2 : Int × Mem) : Prop := q1.1 = q2.1
/-- cells of neither the images nor their slots -/
theorem SD1 {i b j : Int} (hi : 1 ≤ i) (h : SD i b j) : (b = 133 ∧ 3 ≤ j) ∨ ((b = 134 ∨ b = 128 ∨ b = 131 ∨ b = 132 ∨ b = 146) ∧ 1 ≤ j) ∨ ((b = 135 ∨ b = 136) ∧ 4 ≤ j) := by
  unfold SD at h
  rcases h with h | h | h
  · exact Or.inl ⟨h.1, by omega⟩
  · exact Or.inr (Or.inl ⟨h.1, by omega⟩)
  · exact Or.inr (Or.inr ⟨h.1, by omega⟩)
theorem SD1b {i b j : Int} (hi : 1 ≤ i) (h : SD i b j) : 128 ≤ b ∧ b ≤ 146 ∧ ¬ b = 137 ∧ (b = 133 → 3 ≤ j) ∧ (b = 134 → 1 ≤ j) ∧ (b = 128 → 1 ≤ j) ∧ (b = 131 → 1 ≤ j) ∧ (b = 132 → 1 ≤ j) ∧ (b = 146 → 1 ≤ j) ∧ (b = 135 → 4 ≤ j) ∧ (b = 136 → 4 ≤ j) := by
  rcases SD1 hi h with z | z | z
  · omega
  · omega
  · omega
theorem j_size {l1 l2 : Int} {M : Mem} (r1 : (-2147483648) ≤ l1 ∧ l1 ≤ 2147483647) (r2 : (-2147483648) ≤ l2 ∧ l2 ≤ 2147483647) (h : J M) : wp (mX8_size 1 l1 l2 M) (fun q1 => wp (mX9_size 126 l1 l2 q1.2) (fun q2 => J q2.2 ∧ EQ q1 q2)) := by
  obtain ⟨iM, wf, rel⟩ := h
  refine w_mono (w_pw (s_X8_size r1 r2 iM) (pl_size iM)) ?_
  rintro ⟨a, M1⟩ ⟨⟨i1, k1, -, -⟩, h1⟩
  have i1 : I (mN M) M1 := i1
  have k1 : Keep (mN M) W_X8_size M M1 := k1
  have w1 := wf8 iM wf k1 (fun b j z => by unfold W_X8_size at z; omega)
  refine w_mono (w_pw (s_X9_size r1 r2 i1) (pr_size i1)) ?_
  rintro ⟨b, M2⟩ ⟨⟨i2, k2, -, -⟩, h2⟩
  have i2 : I (mN M) M2 := i2
  have k2 : Keep (mN M) W_X9_size M1 M2 := k2
  have w2 := w1.kp i1 k2 (fun b j z => by unfold W_X9_size at z; omega)
  have hn : (169 : Int) ≤ ((mN M : Nat) : Int) := by have := iM.2.2.2.2.1; omega
  have s0 := (rel.1 0 (by decide) (by decide) (Or.inl rfl)).z
  have e9 : ∀ b j : Int, 126 ≤ b → b ≤ 169 → mG M1 b j = mG M b j := fun b j b0 b1 => k1.2.2 b j (by omega) (fun z => by unfold W_X8_size at z; omega)
  have hC : C_size l1 l2 M ↔ (0 ≤ l1 ∧ l1 ≤ 2 ∧ 1 ≤ l2 ∧ l2 ≤ 3 ∧ ¬ mG M1 133 l1 = l2) := by
    unfold C_size
    constructor
    · rintro ⟨x1, x2, x3, x4, x5⟩
      exact ⟨x1, x2, x3, x4, by rw [e9 133 l1 (by decide) (by decide), ← s0.1 l1 x1 (by omega)]; exact x5⟩
    · rintro ⟨x1, x2, x3, x4, x5⟩
      exact ⟨x1, x2, x3, x4, by rw [s0.1 l1 x1 (by omega), ← e9 133 l1 (by decide) (by decide)]; exact x5⟩
  rcases h1 with ⟨p1, p2, p3⟩ | ⟨p1, p2, p3, p4, p5⟩
  · have p1 : a = 0 := p1
    have p3 : M1 = M := p3
    subst p3
    rcases h2 with ⟨q1, q2, q3⟩ | ⟨q1, q2, q3, q4⟩
    · exact ⟨J.mk i2 w2 (rel.fr iM (fun b j z => q3 b j (by unfold RC at z; omega))), p1.trans (Eq.symm q1)⟩
    · exact absurd (hC.mpr q2) p2
  · have p1 : a = 1 := p1
    have p4 : mG M1 5 l1 = l2 := p4
    have p5 : ∀ b j : Int, ¬ (b = 5 ∧ j = l1) → ¬ (b = 4 ∧ j = 7) → ¬ (8 ≤ b ∧ b ≤ 10) → ¬ (b = 3 ∧ j = 1) → ¬ b = 12 → ¬ b = 2 → ¬ b = 24 → mG M1 b j = mG M b j := p5
    rcases h2 with ⟨q1, q2, q3⟩ | ⟨q1, q2, q3, q4⟩
    · exact absurd (hC.mp p2) q2
    · have q3 : mG M2 133 l1 = l2 := q3
      have q4 : ∀ b j : Int, ¬ b = 126 → ¬ (b = 133 ∧ j = l1) → ¬ b = 137 → ¬ b = 151 → mG M2 b j = mG M1 b j := q4
      have e8 : ∀ b j : Int, b ≤ 125 → mG M2 b j = mG M1 b j := fun b j hb => q4 b j (by omega) (by omega) (by omega) (by omega)
      have x2 := q2.1
      have x3 := q2.2.1
      have ex : ∀ b j : Int, 126 ≤ b → b ≤ 169 → ¬ b = 126 → ¬ (b = 133 ∧ j = l1) → ¬ b = 137 → ¬ b = 151 → mG M2 b j = mG M b j := fun b j b0 b1 x y z w => (q4 b j x y z w).trans (e9 b j b0 b1)
      have ec : ∀ b j : Int, b ≤ 125 → ¬ (b = 5 ∧ j = l1) → ¬ (b = 4 ∧ j = 7) → ¬ (8 ≤ b ∧ b ≤ 10) → ¬ (b = 3 ∧ j = 1) → ¬ b = 12 → ¬ b = 2 → ¬ b = 24 → mG M2 b j = mG M b j := fun b j hb x y z w u v t => (e8 b j hb).trans (p5 b j x y z w u v t)
      refine ⟨J.mk i2 w2 (rel.r0 iM (SR.mz (fun k k0 k1 => ?_) ?_ (fun r r0 r1' => ?_) (p3.of (fun b j b0 b1 => e8 b j (by omega))) ?_ ?_ ?_ ?_) (fun b j b0 b1 => ec b j b1 (by omega) (by omega) (by omega) (by omega) (by omega) (by omega) (by omega)) (fun i b j hi hi4 z => ?_) (fun j => ex 169 j (by decide) (by decide) (by decide) (by omega) (by decide) (by decide))), p1.trans (Eq.symm q1)⟩
      · by_cases e : k = l1
        · subst e; rw [e8 5 k (by decide), p4, q3]
        · rw [ec 5 k (by decide) (by omega) (by omega) (by omega) (by omega) (by decide) (by decide) (by decide), ex 133 k (by decide) (by decide) (by decide) (by omega) (by decide) (by decide)]; exact s0.1 k k0 k1
      · rw [ec 4 6 (by decide) (by omega) (by omega) (by omega) (by omega) (by decide) (by decide) (by decide), ex 134 0 (by decide) (by decide) (by decide) (by omega) (by decide) (by decide)]; exact s0.2.1
      · rw [ex 134 0 (by decide) (by decide) (by decide) (by omega) (by decide) (by decide)] at r1'
        rw [ec 6 r (by decide) (by omega) (by omega) (by omega) (by omega) (by decide) (by decide) (by decide), ec 7 r (by decide) (by omega) (by omega) (by omega) (by omega) (by decide) (by decide) (by decide), ex 135 r (by decide) (by decide) (by decide) (by omega) (by decide) (by decide), ex 136 r (by decide) (by decide) (by decide) (by omega) (by decide) (by decide)]
        exact s0.2.2.1 r r0 r1'
      · rw [ec 3 5 (by decide) (by omega) (by omega) (by omega) (by omega) (by decide) (by decide) (by decide), ex 128 0 (by decide) (by decide) (by decide) (by omega) (by decide) (by decide)]; exact s0.2.2.2.2.1
      · rw [ec 3 13 (by decide) (by omega) (by omega) (by omega) (by omega) (by decide) (by decide) (by decide), ex 131 0 (by decide) (by decide) (by decide) (by omega) (by decide) (by decide)]; exact s0.2.2.2.2.2.1
      · rw [ec 3 14 (by decide) (by omega) (by omega) (by omega) (by omega) (by decide) (by decide) (by decide), ex 132 0 (by decide) (by decide) (by decide) (by omega) (by decide) (by decide)]; exact s0.2.2.2.2.2.2.1
      · rw [ec 3 18 (by decide) (by omega) (by omega) (by omega) (by omega) (by decide) (by decide) (by decide), ex 146 0 (by decide) (by decide) (by decide) (by omega) (by decide) (by decide)]; exact s0.2.2.2.2.2.2.2
      · have z := SD1b hi z
        exact ex b j (by omega) (by omega) (by omega) (by omega) (by omega) (by omega)
theorem j_relation {l1 l2 : Int} {M : Mem} (r1 : (-2147483648) ≤ l1 ∧ l1 ≤ 2147483647) (r2 : (-2147483648) ≤ l2 ∧ l2 ≤ 2147483647) (h : J M) : wp (mX8_relation 1 l1 l2 M) (fun q1 => wp (mX9_relation 126 l1 l2 q1.2) (fun q2 => J q2.2 ∧ EQ q1 q2)) := by
  obtain ⟨iM, wf, rel⟩ := h
  refine w_mono (w_pw (s_X8_relation r1 r2 iM) (pl_relation iM)) ?_
  rintro ⟨a, M1⟩ ⟨⟨i1, k1, -, -⟩, h1⟩
  have i1 : I (mN M) M1 := i1
  have k1 : Keep (mN M) W_X8_relation M M1 := k1
  have w1 := wf8 iM wf k1 (fun b j z => by unfold W_X8_relation at z; omega)
  refine w_mono (w_pw (s_X9_relation r1 r2 i1) (pr_relation i1)) ?_
  rintro ⟨b, M2⟩ ⟨⟨i2, k2, -, -⟩, h2⟩
  have i2 : I (mN M) M2 := i2
  have k2 : Keep (mN M) W_X9_relation M1 M2 := k2
  have w2 := w1.kp i1 k2 (fun b j z => by unfold W_X9_relation at z; omega)
  have hn : (169 : Int) ≤ ((mN M : Nat) : Int) := by have := iM.2.2.2.2.1; omega
  have s0 := (rel.1 0 (by decide) (by decide) (Or.inl rfl)).z
  have e9 : ∀ b j : Int, 126 ≤ b → b ≤ 169 → mG M1 b j = mG M b j := fun b j b0 b1 => k1.2.2 b j (by omega) (fun z => by unfold W_X8_relation at z; omega)
  have e134 : mG M1 134 0 = mG M 4 6 := (e9 134 0 (by decide) (by decide)).trans s0.2.1.symm
  have rr := rd_Shape_6 iM (a := 4) rfl
  rw [e134] at h2
  rcases h1 with ⟨p1, p2, p3⟩ | ⟨p1, p2, p3, p4, p5, p6, p7⟩
  · have p1 : a = -1 := p1
    have p3 : M1 = M := p3
    subst p3
    rcases h2 with ⟨q1, q2, q3⟩ | ⟨q1, q2, q3⟩
    · exact ⟨J.mk i2 w2 (rel.fr iM (fun b j z => q3 b j (by unfold RC at z; omega))), p1.trans (Eq.symm q1)⟩
    · exact absurd q2 p2
  · obtain ⟨R, hR⟩ : ∃ R, mG M 4 6 = R := ⟨_, rfl⟩
    rw [hR] at p1 p4 p5 p6 p7 h2 e134 rr
    have p1 : a = R := p1
    have p4 : mG M1 4 6 = R + 1 := p4
    have p5 : mG M1 6 R = l1 := p5
    have p6 : mG M1 7 R = l2 := p6
    have p7 : ∀ b j : Int, ¬ (b = 6 ∧ j = R) → ¬ (b = 7 ∧ j = R) → ¬ (b = 4 ∧ j = 6) → ¬ (b = 4 ∧ j = 7) → ¬ (8 ≤ b ∧ b ≤ 10) → ¬ (b = 3 ∧ j = 1) → ¬ b = 12 → ¬ b = 2 → ¬ b = 24 → mG M1 b j = mG M b j := p7
    rcases h2 with ⟨q1, q2, q3⟩ | ⟨q1, q2, q3, q4, q5, q6⟩
    · unfold C_rel at p2
      rw [hR] at p2
      exact absurd p2 q2
    · have q3 : mG M2 134 0 = R + 1 := q3
      have q4 : mG M2 135 R = l1 := q4
      have q5 : mG M2 136 R = l2 := q5
      have q6 : ∀ b j : Int, ¬ b = 126 → ¬ (b = 134 ∧ j = 0) → ¬ (b = 135 ∧ j = R) → ¬ (b = 136 ∧ j = R) → ¬ b = 137 → ¬ b = 151 → mG M2 b j = mG M1 b j := q6
      have e8 : ∀ b j : Int, b ≤ 125 → mG M2 b j = mG M1 b j := fun b j hb => q6 b j (by omega) (by omega) (by omega) (by omega) (by omega) (by omega)
      have hR4 := q2.1
      have ex : ∀ b j : Int, 126 ≤ b → b ≤ 169 → ¬ b = 126 → ¬ (b = 134 ∧ j = 0) → ¬ (b = 135 ∧ j = R) → ¬ (b = 136 ∧ j = R) → ¬ b = 137 → ¬ b = 151 → mG M2 b j = mG M b j := fun b j b0 b1 x y z w u v => (q6 b j x y z w u v).trans (e9 b j b0 b1)
      have ec : ∀ b j : Int, b ≤ 125 → ¬ (b = 6 ∧ j = R) → ¬ (b = 7 ∧ j = R) → ¬ (b = 4 ∧ j = 6) → ¬ (b = 4 ∧ j = 7) → ¬ (8 ≤ b ∧ b ≤ 10) → ¬ (b = 3 ∧ j = 1) → ¬ b = 12 → ¬ b = 2 → ¬ b = 24 → mG M2 b j = mG M b j := fun b j hb x1 x2 x3 x4 x5 x6 x7 x8 x9 => (e8 b j hb).trans (p7 b j x1 x2 x3 x4 x5 x6 x7 x8 x9)
      refine ⟨J.mk i2 w2 (rel.r0 iM (SR.mz (fun k k0 k1 => ?_) ?_ (fun r r0 r1' => ?_) (p3.of (fun b j b0 b1 => e8 b j (by omega))) ?_ ?_ ?_ ?_) (fun b j b0 b1 => ec b j b1 (by omega) (by omega) (by omega) (by omega) (by omega) (by omega) (by omega) (by omega) (by omega)) (fun i b j hi hi4 z => ?_) (fun j => ex 169 j (by decide) (by decide) (by decide) (by omega) (by omega) (by omega) (by decide) (by decide))), p1.trans (Eq.symm q1)⟩
      · rw [ec 5 k (by decide) (by omega) (by omega) (by omega) (by omega) (by omega) (by omega) (by decide) (by decide) (by decide), ex 133 k (by decide) (by decide) (by decide) (by omega) (by omega) (by omega) (by decide) (by decide)]; exact s0.1 k k0 k1
      · rw [e8 4 6 (by decide), p4, q3]
      · rw [q3] at r1'
        by_cases e : r = R
        · subst e; rw [e8 6 r (by decide), e8 7 r (by decide), p5, p6, q4, q5]; exact ⟨rfl, rfl⟩
        · rw [ec 6 r (by decide) (by omega) (by omega) (by omega) (by omega) (by omega) (by omega) (by decide) (by decide) (by decide), ec 7 r (by decide) (by omega) (by omega) (by omega) (by omega) (by omega) (by omega) (by decide) (by decide) (by decide), ex 135 r (by decide) (by decide) (by decide) (by omega) (by omega) (by omega) (by decide) (by decide), ex 136 r (by decide) (by decide) (by decide) (by omega) (by omega) (by omega) (by decide) (by decide)]
          exact s0.2.2.1 r r0 (by rw [← s0.2.1, hR]; omega)
      · rw [ec 3 5 (by decide) (by omega) (by omega) (by omega) (by omega) (by omega) (by omega) (by decide) (by decide) (by decide), ex 128 0 (by decide) (by decide) (by decide) (by omega) (by omega) (by omega) (by decide) (by decide)]; exact s0.2.2.2.2.1
      · rw [ec 3 13 (by decide) (by omega) (by omega) (by omega) (by omega) (by omega) (by omega) (by decide) (by decide) (by decide), ex 131 0 (by decide) (by decide) (by decide) (by omega) (by omega) (by omega) (by decide) (by decide)]; exact s0.2.2.2.2.2.1
      · rw [ec 3 14 (by decide) (by omega) (by omega) (by omega) (by omega) (by omega) (by omega) (by decide) (by decide) (by decide), ex 132 0 (by decide) (by decide) (by decide) (by omega) (by omega) (by omega) (by decide) (by decide)]; exact s0.2.2.2.2.2.2.1
      · rw [ec 3 18 (by decide) (by omega) (by omega) (by omega) (by omega) (by omega) (by omega) (by decide) (by decide) (by decide), ex 146 0 (by decide) (by decide) (by decide) (by omega) (by omega) (by omega) (by decide) (by decide)]; exact s0.2.2.2.2.2.2.2
      · have z := SD1b hi z
        exact ex b j (by omega) (by omega) (by omega) (by omega) (by omega) (by omega) (by omega) (by omega)
/-- slot 0's scalars alone have changed: what stays -/
theorem Rel.sc {n : Nat} {M M1 M2 : Mem} (iM : I n M) (rel : Rel M) (e8 : ∀ b j : Int, (4 ≤ b ∧ b ≤ 10) ∨ (74 ≤ b ∧ b ≤ 125) → mG M2 b j = mG M b j) (e9 : ∀ b j : Int, (133 ≤ b ∧ b ≤ 136) ∨ b = 169 ∨ ((b = 128 ∨ b = 131 ∨ b = 132 ∨ b = 146) ∧ 1 ≤ j) → mG M2 b j = mG M b j) (h5 : mG M2 3 5 = mG M2 128 0) (h6 : mG M2 3 13 = mG M2 131 0) (h7 : mG M2 3 14 = mG M2 132 0) (h8 : mG M2 3 18 = mG M2 146 0) : Rel M2 := by
  have s0 := (rel.1 0 (by decide) (by decide) (Or.inl rfl)).z
  refine rel.r0 iM (SR.mz (fun k k0 k1 => ?_) ?_ (fun r r0 r1 => ?_) (s0.2.2.2.1.of (fun b j b0 b1 => e8 b j (Or.inl ⟨b0, by omega⟩))) h5 h6 h7 h8) (fun b j b0 b1 => e8 b j (Or.inr ⟨b0, b1⟩)) (fun i b j hi hi4 z => ?_) (fun j => e9 169 j (Or.inr (Or.inl rfl)))
  · rw [e8 5 k (by decide), e9 133 k (Or.inl (by decide))]; exact s0.1 k k0 k1
  · rw [e8 4 6 (by decide), e9 134 0 (by decide)]; exact s0.2.1
  · rw [e9 134 0 (by decide)] at r1
    rw [e8 6 r (by decide), e8 7 r (by decide), e9 135 r (Or.inl (by decide)), e9 136 r (Or.inl (by decide))]
    exact s0.2.2.1 r r0 r1
  · refine e9 b j ?_
    rcases SD1 hi z with z | z | z
    · exact Or.inl (by omega)
    · rcases z with ⟨z1 | z1 | z1 | z1 | z1, z2⟩
      · exact Or.inl (by omega)
      · exact Or.inr (Or.inr ⟨Or.inl z1, z2⟩)
      · exact Or.inr (Or.inr ⟨Or.inr (Or.inl z1), z2⟩)
      · exact Or.inr (Or.inr ⟨Or.inr (Or.inr (Or.inl z1)), z2⟩)
      · exact Or.inr (Or.inr ⟨Or.inr (Or.inr (Or.inr z1)), z2⟩)
    · exact Or.inl (by omega)
end
