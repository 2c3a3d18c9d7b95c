/-! ===== calls that change nothing that Rel sees ===== -/
theorem sf_X8_facts : ∀ b j, W_X8_facts b j → SAFE8 b j := fun b j z => by
  unfold W_X8_facts at z
  unfold SAFE8
  exact z.elim
theorem sf_X9_facts : ∀ b j, W_X9_facts b j → SAFE9 b j := fun b j z => by
  unfold W_X9_facts at z
  unfold SAFE9
  exact Or.elim z (fun z => (Or.inr (Or.inr (Or.inr (Or.inr (Or.inr (by omega))))))) (fun z => (Or.inl (by omega)))
theorem j_facts {M : Mem}  (h : J M) : wp (mX8_facts 1 M) (fun q1 => wp (mX9_facts 126 q1.2) (fun q2 => J q2.2)) :=
  h.un (fun i => s_X8_facts  i) sf_X8_facts (fun _ w i => s_X9_facts   i) sf_X9_facts
theorem sf_X8_tell : ∀ b j, W_X8_tell b j → SAFE8 b j := fun b j z => by
  unfold W_X8_tell at z
  unfold SAFE8
  exact (Or.inr (Or.inl ⟨z.1, by omega⟩))
theorem sf_X9_tell : ∀ b j, W_X9_tell b j → SAFE9 b j := fun b j z => by
  unfold W_X9_tell at z
  unfold SAFE9
  exact Or.elim z (fun z => (Or.inr (Or.inr (Or.inl (by omega))))) (fun z => Or.elim z (fun z => (Or.inr (Or.inr (Or.inr (Or.inr (Or.inr (by omega))))))) (fun z => (Or.inl (by omega))))
theorem j_tell {l1 l2 l3 l4 : Int} {M : Mem} (r_l1 : (-2147483648) ≤ l1 ∧ l1 ≤ 2147483647) (r_l2 : (-2147483648) ≤ l2 ∧ l2 ≤ 2147483647) (r_l3 : (-2147483648) ≤ l3 ∧ l3 ≤ 2147483647) (r_l4 : 0 ≤ l4 ∧ l4 ≤ 1) (h : J M) : wp (mX8_tell 1 l1 l2 l3 l4 M) (fun q1 => wp (mX9_tell 126 l1 l2 l3 l4 q1.2) (fun q2 => J q2.2)) :=
  h.un (fun i => s_X8_tell r_l1 r_l2 r_l3 r_l4 i) sf_X8_tell (fun _ w i => s_X9_tell r_l1 r_l2 r_l3 r_l4  i) sf_X9_tell
theorem sf_X8_fact : ∀ b j, W_X8_fact b j → SAFE8 b j := fun b j z => by
  unfold W_X8_fact at z
  unfold SAFE8
  exact z.elim
theorem sf_X9_fact : ∀ b j, W_X9_fact b j → SAFE9 b j := fun b j z => by
  unfold W_X9_fact at z
  unfold SAFE9
  exact Or.elim z (fun z => (Or.inr (Or.inr (Or.inr (Or.inr (Or.inr (by omega))))))) (fun z => (Or.inl (by omega)))
theorem j_fact {l1 l2 l3 : Int} {M : Mem} (r_l1 : (-2147483648) ≤ l1 ∧ l1 ≤ 2147483647) (r_l2 : (-2147483648) ≤ l2 ∧ l2 ≤ 2147483647) (r_l3 : (-2147483648) ≤ l3 ∧ l3 ≤ 2147483647) (h : J M) : wp (mX8_fact 1 l1 l2 l3 M) (fun q1 => wp (mX9_fact 126 l1 l2 l3 q1.2) (fun q2 => J q2.2)) :=
  h.un (fun i => s_X8_fact r_l1 r_l2 r_l3 i) sf_X8_fact (fun _ w i => s_X9_fact r_l1 r_l2 r_l3  i) sf_X9_fact
theorem sf_X8_keep : ∀ b j, W_X8_keep b j → SAFE8 b j := fun b j z => by
  unfold W_X8_keep at z
  unfold SAFE8
  exact (Or.inr (Or.inr ⟨by omega, by omega⟩))
theorem sf_X9_keep : ∀ b j, W_X9_keep b j → SAFE9 b j := fun b j z => by
  unfold W_X9_keep at z
  unfold SAFE9
  exact Or.elim z (fun z => (Or.inr (Or.inr (Or.inr (Or.inr (Or.inr (by omega))))))) (fun z => (Or.inl (by omega)))
theorem j_keep {l1 : Int} {M : Mem} (r_l1 : (-2147483648) ≤ l1 ∧ l1 ≤ 2147483647) (h : J M) : wp (mX8_keep 1 l1 M) (fun q1 => wp (mX9_keep 126 l1 q1.2) (fun q2 => J q2.2)) :=
  h.un (fun i => s_X8_keep r_l1 i) sf_X8_keep (fun _ w i => s_X9_keep r_l1  i) sf_X9_keep
theorem sf_X8_apart : ∀ b j, W_X8_apart b j → SAFE8 b j := fun b j z => by
  unfold W_X8_apart at z
  unfold SAFE8
  exact Or.elim z (fun z => (Or.inr (Or.inr ⟨by omega, by omega⟩))) (fun z => Or.elim z (fun z => (Or.inr (Or.inr ⟨by omega, by omega⟩))) (fun z => Or.elim z (fun z => (Or.inr (Or.inr ⟨by omega, by omega⟩))) (fun z => (Or.inr (Or.inr ⟨by omega, by omega⟩)))))
theorem sf_X9_apart : ∀ b j, W_X9_apart b j → SAFE9 b j := fun b j z => by
  unfold W_X9_apart at z
  unfold SAFE9
  exact Or.elim z (fun z => (Or.inr (Or.inr (Or.inr (Or.inr (Or.inr (by omega))))))) (fun z => Or.elim z (fun z => (Or.inr (Or.inr (Or.inr (Or.inr (Or.inr (by omega))))))) (fun z => (Or.inl (by omega))))
theorem j_apart {l1 : Int} {M : Mem} (r_l1 : (-2147483648) ≤ l1 ∧ l1 ≤ 2147483647) (h : J M) : wp (mX8_apart 1 l1 M) (fun q1 => wp (mX9_apart 126 l1 q1.2) (fun q2 => J q2.2)) :=
  h.un (fun i => s_X8_apart r_l1 i) sf_X8_apart (fun _ w i => s_X9_apart r_l1  i) sf_X9_apart
theorem sf_X8_fault : ∀ b j, W_X8_fault b j → SAFE8 b j := fun b j z => by
  unfold W_X8_fault at z
  unfold SAFE8
  exact z.elim
theorem sf_X9_fault : ∀ b j, W_X9_fault b j → SAFE9 b j := fun b j z => by
  unfold W_X9_fault at z
  unfold SAFE9
  exact (Or.inl (by omega))
theorem j_fault {l1 : Int} {M : Mem} (r_l1 : (-2147483648) ≤ l1 ∧ l1 ≤ 2147483647) (h : J M) : wp (mX8_fault 1 l1 M) (fun q1 => wp (mX9_fault 126 l1 q1.2) (fun q2 => J q2.2)) :=
  h.un (fun i => s_X8_fault r_l1 i) sf_X8_fault (fun _ w i => s_X9_fault r_l1  i) sf_X9_fault
theorem sf_X8_strike : ∀ b j, W_X8_strike b j → SAFE8 b j := fun b j z => by
  unfold W_X8_strike at z
  unfold SAFE8
  exact (Or.inr (Or.inr ⟨by omega, by omega⟩))
theorem sf_X9_strike : ∀ b j, W_X9_strike b j → SAFE9 b j := fun b j z => by
  unfold W_X9_strike at z
  unfold SAFE9
  exact Or.elim z (fun z => (Or.inr (Or.inr (Or.inr (Or.inl (by omega)))))) (fun z => (Or.inl (by omega)))
theorem j_strike {l1 : Int} {M : Mem} (r_l1 : (-2147483648) ≤ l1 ∧ l1 ≤ 2147483647) (h : J M) : wp (mX8_strike 1 l1 M) (fun q1 => wp (mX9_strike 126 l1 q1.2) (fun q2 => J q2.2)) :=
  h.un (fun i => s_X8_strike r_l1 i) sf_X8_strike (fun _ w i => s_X9_strike r_l1  i) sf_X9_strike
theorem sf_X8_so : ∀ b j, W_X8_so b j → SAFE8 b j := fun b j z => by
  unfold W_X8_so at z
  unfold SAFE8
  exact Or.elim z (fun z => (Or.inr (Or.inr ⟨by omega, by omega⟩))) (fun z => Or.elim z (fun z => (Or.inr (Or.inr ⟨by omega, by omega⟩))) (fun z => Or.elim z (fun z => (Or.inr (Or.inr ⟨by omega, by omega⟩))) (fun z => (Or.inr (Or.inr ⟨by omega, by omega⟩)))))
theorem sf_X9_so : ∀ b j, W_X9_so b j → SAFE9 b j := fun b j z => by
  unfold W_X9_so at z
  unfold SAFE9
  exact Or.elim z (fun z => (Or.inr (Or.inr (Or.inr (Or.inr (Or.inr (by omega))))))) (fun z => Or.elim z (fun z => (Or.inr (Or.inr (Or.inr (Or.inr (Or.inr (by omega))))))) (fun z => Or.elim z (fun z => (Or.inl (by omega))) (fun z => (Or.inl (by omega)))))
theorem j_so {l1 : Int} {M : Mem} (r_l1 : (-2147483648) ≤ l1 ∧ l1 ≤ 2147483647) (h : J M) : wp (mX8_so 1 l1 M) (fun q1 => wp (mX9_so 126 l1 q1.2) (fun q2 => J q2.2)) :=
  h.un (fun i => s_X8_so r_l1 i) sf_X8_so (fun _ w i => s_X9_so r_l1 w i) sf_X9_so
theorem sf_X8_breaks : ∀ b j, W_X8_breaks b j → SAFE8 b j := fun b j z => by
  unfold W_X8_breaks at z
  unfold SAFE8
  exact Or.elim z (fun z => (Or.inr (Or.inr ⟨by omega, by omega⟩))) (fun z => Or.elim z (fun z => (Or.inr (Or.inr ⟨by omega, by omega⟩))) (fun z => Or.elim z (fun z => (Or.inr (Or.inr ⟨by omega, by omega⟩))) (fun z => (Or.inr (Or.inr ⟨by omega, by omega⟩)))))
theorem sf_X9_breaks : ∀ b j, W_X9_breaks b j → SAFE9 b j := fun b j z => by
  unfold W_X9_breaks at z
  unfold SAFE9
  exact Or.elim z (fun z => (Or.inr (Or.inr (Or.inr (Or.inr (Or.inr (by omega))))))) (fun z => Or.elim z (fun z => (Or.inr (Or.inr (Or.inr (Or.inr (Or.inr (by omega))))))) (fun z => Or.elim z (fun z => (Or.inl (by omega))) (fun z => (Or.inl (by omega)))))
theorem j_breaks {l1 l2 : Int} {M : Mem} (r_l1 : (-2147483648) ≤ l1 ∧ l1 ≤ 2147483647) (r_l2 : (-2147483648) ≤ l2 ∧ l2 ≤ 2147483647) (h : J M) : wp (mX8_breaks 1 l1 l2 M) (fun q1 => wp (mX9_breaks 126 l1 l2 q1.2) (fun q2 => J q2.2)) :=
  h.un (fun i => s_X8_breaks r_l1 r_l2 i) sf_X8_breaks (fun _ w i => s_X9_breaks r_l1 r_l2 w i) sf_X9_breaks
theorem sf_X8_worlds : ∀ b j, W_X8_worlds b j → SAFE8 b j := fun b j z => by
  unfold W_X8_worlds at z
  unfold SAFE8
  exact Or.elim z (fun z => (Or.inr (Or.inr ⟨by omega, by omega⟩))) (fun z => Or.elim z (fun z => (Or.inr (Or.inr ⟨by omega, by omega⟩))) (fun z => Or.elim z (fun z => (Or.inr (Or.inr ⟨by omega, by omega⟩))) (fun z => Or.elim z (fun z => (Or.inr (Or.inr (by unfold isWS at z; omega)))) (fun z => Or.elim z (fun z => (Or.inl (by omega))) (fun z => Or.elim z (fun z => (Or.inr (Or.inr ⟨by omega, by omega⟩))) (fun z => Or.elim z (fun z => (Or.inr (Or.inr ⟨by omega, by omega⟩))) (fun z => Or.elim z (fun z => (Or.inr (Or.inr ⟨by omega, by omega⟩))) (fun z => Or.elim z (fun z => (Or.inr (Or.inr ⟨by omega, by omega⟩))) (fun z => Or.elim z (fun z => (Or.inr (Or.inr ⟨by omega, by omega⟩))) (fun z => Or.elim z (fun z => (Or.inr (Or.inr ⟨by omega, by omega⟩))) (fun z => Or.elim z (fun z => (Or.inr (Or.inr ⟨by omega, by omega⟩))) (fun z => Or.elim z (fun z => (Or.inr (Or.inr (by unfold isWS at z; omega)))) (fun z => (Or.inr (Or.inr (by unfold isWS at z; omega))))))))))))))))
theorem sf_X9_worlds : ∀ b j, W_X9_worlds b j → SAFE9 b j := fun b j z => by
  unfold W_X9_worlds at z
  unfold SAFE9
  exact Or.elim z (fun z => (Or.inr (Or.inr (Or.inr (Or.inr (Or.inr (by omega))))))) (fun z => Or.elim z (fun z => (Or.inr (Or.inr (Or.inr (Or.inr (Or.inr (by omega))))))) (fun z => Or.elim z (fun z => (Or.inl (by omega))) (fun z => Or.elim z (fun z => (Or.inl (by omega))) (fun z => Or.elim z (fun z => (Or.inl (by omega))) (fun z => Or.elim z (fun z => (Or.inl (by omega))) (fun z => (Or.inl (by omega))))))))
theorem j_worlds {M : Mem}  (h : J M) : wp (mX8_worlds 1 M) (fun q1 => wp (mX9_worlds 126 q1.2) (fun q2 => J q2.2)) :=
  h.un (fun i => s_X8_worlds  i) sf_X8_worlds (fun _ w i => s_X9_worlds  w i) sf_X9_worlds
theorem sf_X8_forms : ∀ b j, W_X8_forms b j → SAFE8 b j := fun b j z => by
  unfold W_X8_forms at z
  unfold SAFE8
  exact Or.elim z (fun z => (Or.inr (Or.inr ⟨by omega, by omega⟩))) (fun z => Or.elim z (fun z => (Or.inr (Or.inr ⟨by omega, by omega⟩))) (fun z => Or.elim z (fun z => (Or.inr (Or.inr ⟨by omega, by omega⟩))) (fun z => Or.elim z (fun z => (Or.inr (Or.inr ⟨by omega, by omega⟩))) (fun z => Or.elim z (fun z => (Or.inr (Or.inr ⟨by omega, by omega⟩))) (fun z => Or.elim z (fun z => (Or.inr (Or.inr ⟨by omega, by omega⟩))) (fun z => Or.elim z (fun z => (Or.inr (Or.inr ⟨by omega, by omega⟩))) (fun z => Or.elim z (fun z => (Or.inr (Or.inr (by unfold isWS at z; omega)))) (fun z => Or.elim z (fun z => (Or.inl (by omega))) (fun z => Or.elim z (fun z => (Or.inr (Or.inr ⟨by omega, by omega⟩))) (fun z => Or.elim z (fun z => (Or.inr (Or.inr ⟨by omega, by omega⟩))) (fun z => Or.elim z (fun z => (Or.inr (Or.inr ⟨by omega, by omega⟩))) (fun z => Or.elim z (fun z => (Or.inr (Or.inr ⟨by omega, by omega⟩))) (fun z => Or.elim z (fun z => (Or.inr (Or.inr ⟨by omega, by omega⟩))) (fun z => Or.elim z (fun z => (Or.inr (Or.inr ⟨by omega, by omega⟩))) (fun z => Or.elim z (fun z => (Or.inr (Or.inr ⟨by omega, by omega⟩))) (fun z => Or.elim z (fun z => (Or.inr (Or.inr ⟨by omega, by omega⟩))) (fun z => Or.elim z (fun z => (Or.inr (Or.inr ⟨by omega, by omega⟩))) (fun z => Or.elim z (fun z => (Or.inr (Or.inr ⟨by omega, by omega⟩))) (fun z => Or.elim z (fun z => (Or.inr (Or.inr ⟨by omega, by omega⟩))) (fun z => Or.elim z (fun z => (Or.inr (Or.inr ⟨by omega, by omega⟩))) (fun z => Or.elim z (fun z => (Or.inr (Or.inr ⟨by omega, by omega⟩))) (fun z => Or.elim z (fun z => (Or.inr (Or.inr ⟨by omega, by omega⟩))) (fun z => Or.elim z (fun z => (Or.inr (Or.inr ⟨by omega, by omega⟩))) (fun z => Or.elim z (fun z => (Or.inr (Or.inr ⟨by omega, by omega⟩))) (fun z => Or.elim z (fun z => (Or.inr (Or.inr ⟨by omega, by omega⟩))) (fun z => Or.elim z (fun z => (Or.inr (Or.inr (by unfold isWS at z; omega)))) (fun z => (Or.inr (Or.inr (by unfold isWS at z; omega))))))))))))))))))))))))))))))
theorem sf_X9_forms : ∀ b j, W_X9_forms b j → SAFE9 b j := fun b j z => by
  unfold W_X9_forms at z
  unfold SAFE9
  exact Or.elim z (fun z => (Or.inr (Or.inr (Or.inr (Or.inr (Or.inr (by omega))))))) (fun z => Or.elim z (fun z => (Or.inr (Or.inr (Or.inr (Or.inr (Or.inr (by omega))))))) (fun z => Or.elim z (fun z => (Or.inl (by omega))) (fun z => Or.elim z (fun z => (Or.inl (by omega))) (fun z => Or.elim z (fun z => (Or.inl (by omega))) (fun z => Or.elim z (fun z => (Or.inl (by omega))) (fun z => (Or.inl (by omega))))))))
theorem j_forms {M : Mem}  (h : J M) : wp (mX8_forms 1 M) (fun q1 => wp (mX9_forms 126 q1.2) (fun q2 => J q2.2)) :=
  h.un (fun i => s_X8_forms  i) sf_X8_forms (fun _ w i => s_X9_forms  w i) sf_X9_forms
theorem sf_X8_form : ∀ b j, W_X8_form b j → SAFE8 b j := fun b j z => by
  unfold W_X8_form at z
  unfold SAFE8
  exact Or.elim z (fun z => (Or.inr (Or.inr ⟨by omega, by omega⟩))) (fun z => Or.elim z (fun z => (Or.inr (Or.inr ⟨by omega, by omega⟩))) (fun z => Or.elim z (fun z => (Or.inr (Or.inr ⟨by omega, by omega⟩))) (fun z => Or.elim z (fun z => (Or.inr (Or.inr ⟨by omega, by omega⟩))) (fun z => Or.elim z (fun z => (Or.inr (Or.inr ⟨by omega, by omega⟩))) (fun z => Or.elim z (fun z => (Or.inr (Or.inr ⟨by omega, by omega⟩))) (fun z => Or.elim z (fun z => (Or.inr (Or.inr ⟨by omega, by omega⟩))) (fun z => Or.elim z (fun z => (Or.inr (Or.inr (by unfold isWS at z; omega)))) (fun z => Or.elim z (fun z => (Or.inl (by omega))) (fun z => Or.elim z (fun z => (Or.inr (Or.inr ⟨by omega, by omega⟩))) (fun z => Or.elim z (fun z => (Or.inr (Or.inr ⟨by omega, by omega⟩))) (fun z => Or.elim z (fun z => (Or.inr (Or.inr ⟨by omega, by omega⟩))) (fun z => Or.elim z (fun z => (Or.inr (Or.inr ⟨by omega, by omega⟩))) (fun z => Or.elim z (fun z => (Or.inr (Or.inr ⟨by omega, by omega⟩))) (fun z => Or.elim z (fun z => (Or.inr (Or.inr ⟨by omega, by omega⟩))) (fun z => Or.elim z (fun z => (Or.inr (Or.inr ⟨by omega, by omega⟩))) (fun z => Or.elim z (fun z => (Or.inr (Or.inr ⟨by omega, by omega⟩))) (fun z => Or.elim z (fun z => (Or.inr (Or.inr ⟨by omega, by omega⟩))) (fun z => Or.elim z (fun z => (Or.inr (Or.inr ⟨by omega, by omega⟩))) (fun z => Or.elim z (fun z => (Or.inr (Or.inr ⟨by omega, by omega⟩))) (fun z => Or.elim z (fun z => (Or.inr (Or.inl ⟨z.1, by omega⟩))) (fun z => Or.elim z (fun z => (Or.inr (Or.inr ⟨by omega, by omega⟩))) (fun z => Or.elim z (fun z => (Or.inr (Or.inr ⟨by omega, by omega⟩))) (fun z => Or.elim z (fun z => (Or.inr (Or.inr ⟨by omega, by omega⟩))) (fun z => Or.elim z (fun z => (Or.inr (Or.inr ⟨by omega, by omega⟩))) (fun z => Or.elim z (fun z => (Or.inr (Or.inr ⟨by omega, by omega⟩))) (fun z => Or.elim z (fun z => (Or.inr (Or.inr ⟨by omega, by omega⟩))) (fun z => Or.elim z (fun z => (Or.inr (Or.inr (by unfold isWS at z; omega)))) (fun z => (Or.inr (Or.inr (by unfold isWS at z; omega)))))))))))))))))))))))))))))))
theorem sf_X9_form : ∀ b j, W_X9_form b j → SAFE9 b j := fun b j z => by
  unfold W_X9_form at z
  unfold SAFE9
  exact Or.elim z (fun z => (Or.inr (Or.inr (Or.inl (by omega))))) (fun z => Or.elim z (fun z => (Or.inr (Or.inr (Or.inr (Or.inr (Or.inr (by omega))))))) (fun z => Or.elim z (fun z => (Or.inr (Or.inr (Or.inr (Or.inr (Or.inr (by omega))))))) (fun z => Or.elim z (fun z => (Or.inl (by omega))) (fun z => Or.elim z (fun z => (Or.inl (by omega))) (fun z => Or.elim z (fun z => (Or.inl (by omega))) (fun z => Or.elim z (fun z => (Or.inl (by omega))) (fun z => (Or.inl (by omega)))))))))
theorem j_form {l1 : Int} {M : Mem} (r_l1 : (-2147483648) ≤ l1 ∧ l1 ≤ 2147483647) (h : J M) : wp (mX8_form 1 l1 M) (fun q1 => wp (mX9_form 126 l1 q1.2) (fun q2 => J q2.2)) :=
  h.un (fun i => s_X8_form r_l1 i) sf_X8_form (fun _ w i => s_X9_form r_l1 w i) sf_X9_form
theorem sf_X8_name : ∀ b j, W_X8_name b j → SAFE8 b j := fun b j z => by
  unfold W_X8_name at z
  unfold SAFE8
  exact Or.elim z (fun z => (Or.inr (Or.inr ⟨by omega, by omega⟩))) (fun z => Or.elim z (fun z => (Or.inr (Or.inr ⟨by omega, by omega⟩))) (fun z => Or.elim z (fun z => (Or.inr (Or.inr ⟨by omega, by omega⟩))) (fun z => Or.elim z (fun z => (Or.inr (Or.inr ⟨by omega, by omega⟩))) (fun z => (Or.inr (Or.inl ⟨z.1, by omega⟩))))))
theorem sf_X9_name : ∀ b j, W_X9_name b j → SAFE9 b j := fun b j z => by
  unfold W_X9_name at z
  unfold SAFE9
  exact Or.elim z (fun z => (Or.inr (Or.inr (Or.inl (by omega))))) (fun z => Or.elim z (fun z => (Or.inr (Or.inr (Or.inr (Or.inr (Or.inr (by omega))))))) (fun z => Or.elim z (fun z => (Or.inr (Or.inr (Or.inr (Or.inr (Or.inr (by omega))))))) (fun z => (Or.inl (by omega)))))
theorem j_name {M : Mem}  (h : J M) : wp (mX8_name 1 M) (fun q1 => wp (mX9_name 126 q1.2) (fun q2 => J q2.2)) :=
  h.un (fun i => s_X8_name  i) sf_X8_name (fun _ w i => s_X9_name   i) sf_X9_name
theorem sf_X8_least : ∀ b j, W_X8_least b j → SAFE8 b j := fun b j z => by
  unfold W_X8_least at z
  unfold SAFE8
  exact Or.elim z (fun z => (Or.inr (Or.inr ⟨by omega, by omega⟩))) (fun z => Or.elim z (fun z => (Or.inr (Or.inr ⟨by omega, by omega⟩))) (fun z => Or.elim z (fun z => (Or.inr (Or.inr ⟨by omega, by omega⟩))) (fun z => Or.elim z (fun z => (Or.inl (by omega))) (fun z => Or.elim z (fun z => (Or.inr (Or.inr ⟨by omega, by omega⟩))) (fun z => Or.elim z (fun z => (Or.inr (Or.inr ⟨by omega, by omega⟩))) (fun z => Or.elim z (fun z => (Or.inr (Or.inr ⟨by omega, by omega⟩))) (fun z => Or.elim z (fun z => (Or.inr (Or.inr ⟨by omega, by omega⟩))) (fun z => Or.elim z (fun z => (Or.inr (Or.inr ⟨by omega, by omega⟩))) (fun z => Or.elim z (fun z => (Or.inr (Or.inr ⟨by omega, by omega⟩))) (fun z => (Or.inr (Or.inr ⟨by omega, by omega⟩))))))))))))
theorem sf_X9_least : ∀ b j, W_X9_least b j → SAFE9 b j := fun b j z => by
  unfold W_X9_least at z
  unfold SAFE9
  exact Or.elim z (fun z => (Or.inr (Or.inr (Or.inr (Or.inr (Or.inr (by omega))))))) (fun z => Or.elim z (fun z => (Or.inr (Or.inr (Or.inr (Or.inr (Or.inr (by omega))))))) (fun z => Or.elim z (fun z => (Or.inl (by omega))) (fun z => Or.elim z (fun z => (Or.inl (by omega))) (fun z => Or.elim z (fun z => (Or.inl (by omega))) (fun z => Or.elim z (fun z => (Or.inl (by omega))) (fun z => Or.elim z (fun z => (Or.inl (by omega))) (fun z => Or.elim z (fun z => (Or.inl (by omega))) (fun z => Or.elim z (fun z => (Or.inl (by omega))) (fun z => (Or.inl (by omega)))))))))))
theorem j_least {l1 : Int} {M : Mem} (r_l1 : (-2147483648) ≤ l1 ∧ l1 ≤ 2147483647) (h : J M) : wp (mX8_least 1 l1 M) (fun q1 => wp (mX9_least 126 l1 q1.2) (fun q2 => J q2.2)) :=
  h.un (fun i => s_X8_least r_l1 i) sf_X8_least (fun _ w i => s_X9_least r_l1 w i) sf_X9_least
theorem sf_X8_core : ∀ b j, W_X8_core b j → SAFE8 b j := fun b j z => by
  unfold W_X8_core at z
  unfold SAFE8
  exact Or.elim z (fun z => (Or.inr (Or.inr ⟨by omega, by omega⟩))) (fun z => Or.elim z (fun z => (Or.inr (Or.inr ⟨by omega, by omega⟩))) (fun z => Or.elim z (fun z => (Or.inr (Or.inr ⟨by omega, by omega⟩))) (fun z => Or.elim z (fun z => (Or.inr (Or.inr (by unfold isWS at z; omega)))) (fun z => Or.elim z (fun z => (Or.inl (by omega))) (fun z => Or.elim z (fun z => (Or.inr (Or.inr ⟨by omega, by omega⟩))) (fun z => Or.elim z (fun z => (Or.inr (Or.inr ⟨by omega, by omega⟩))) (fun z => Or.elim z (fun z => (Or.inr (Or.inr ⟨by omega, by omega⟩))) (fun z => Or.elim z (fun z => (Or.inr (Or.inr ⟨by omega, by omega⟩))) (fun z => Or.elim z (fun z => (Or.inr (Or.inr ⟨by omega, by omega⟩))) (fun z => Or.elim z (fun z => (Or.inr (Or.inr ⟨by omega, by omega⟩))) (fun z => Or.elim z (fun z => (Or.inr (Or.inr ⟨by omega, by omega⟩))) (fun z => Or.elim z (fun z => (Or.inr (Or.inr (by unfold isWS at z; omega)))) (fun z => (Or.inr (Or.inr (by unfold isWS at z; omega))))))))))))))))
theorem sf_X9_core : ∀ b j, W_X9_core b j → SAFE9 b j := fun b j z => by
  unfold W_X9_core at z
  unfold SAFE9
  exact Or.elim z (fun z => (Or.inr (Or.inr (Or.inr (Or.inr (Or.inr (by omega))))))) (fun z => Or.elim z (fun z => (Or.inr (Or.inr (Or.inr (Or.inr (Or.inr (by omega))))))) (fun z => Or.elim z (fun z => (Or.inr (Or.inr (Or.inr (Or.inr (Or.inr (by omega))))))) (fun z => Or.elim z (fun z => (Or.inl (by omega))) (fun z => Or.elim z (fun z => (Or.inl (by omega))) (fun z => Or.elim z (fun z => (Or.inl (by omega))) (fun z => (Or.inl (by omega))))))))
theorem j_core {l1 : Int} {M : Mem} (r_l1 : (-2147483648) ≤ l1 ∧ l1 ≤ 2147483647) (h : J M) : wp (mX8_core 1 l1 M) (fun q1 => wp (mX9_core 126 l1 q1.2) (fun q2 => J q2.2)) :=
  h.un (fun i => s_X8_core r_l1 i) sf_X8_core (fun _ w i => s_X9_core r_l1 w i) sf_X9_core
theorem sf_X8_sure : ∀ b j, W_X8_sure b j → SAFE8 b j := fun b j z => by
  unfold W_X8_sure at z
  unfold SAFE8
  exact Or.elim z (fun z => (Or.inr (Or.inr ⟨by omega, by omega⟩))) (fun z => Or.elim z (fun z => (Or.inr (Or.inr ⟨by omega, by omega⟩))) (fun z => Or.elim z (fun z => (Or.inr (Or.inr ⟨by omega, by omega⟩))) (fun z => Or.elim z (fun z => (Or.inr (Or.inr (by unfold isWS at z; omega)))) (fun z => Or.elim z (fun z => (Or.inl (by omega))) (fun z => Or.elim z (fun z => (Or.inr (Or.inr ⟨by omega, by omega⟩))) (fun z => Or.elim z (fun z => (Or.inr (Or.inr ⟨by omega, by omega⟩))) (fun z => Or.elim z (fun z => (Or.inr (Or.inr ⟨by omega, by omega⟩))) (fun z => Or.elim z (fun z => (Or.inr (Or.inr ⟨by omega, by omega⟩))) (fun z => Or.elim z (fun z => (Or.inr (Or.inr ⟨by omega, by omega⟩))) (fun z => Or.elim z (fun z => (Or.inr (Or.inr ⟨by omega, by omega⟩))) (fun z => Or.elim z (fun z => (Or.inr (Or.inr ⟨by omega, by omega⟩))) (fun z => Or.elim z (fun z => (Or.inr (Or.inr (by unfold isWS at z; omega)))) (fun z => (Or.inr (Or.inr (by unfold isWS at z; omega))))))))))))))))
theorem sf_X9_sure : ∀ b j, W_X9_sure b j → SAFE9 b j := fun b j z => by
  unfold W_X9_sure at z
  unfold SAFE9
  exact Or.elim z (fun z => (Or.inr (Or.inr (Or.inr (Or.inr (Or.inr (by omega))))))) (fun z => Or.elim z (fun z => (Or.inr (Or.inr (Or.inr (Or.inr (Or.inr (by omega))))))) (fun z => Or.elim z (fun z => (Or.inr (Or.inr (Or.inr (Or.inr (Or.inr (by omega))))))) (fun z => Or.elim z (fun z => (Or.inl (by omega))) (fun z => Or.elim z (fun z => (Or.inl (by omega))) (fun z => Or.elim z (fun z => (Or.inl (by omega))) (fun z => Or.elim z (fun z => (Or.inl (by omega))) (fun z => Or.elim z (fun z => (Or.inl (by omega))) (fun z => (Or.inl (by omega))))))))))
theorem j_sure {l1 l2 l3 : Int} {M : Mem} (r_l1 : (-2147483648) ≤ l1 ∧ l1 ≤ 2147483647) (r_l2 : (-2147483648) ≤ l2 ∧ l2 ≤ 2147483647) (r_l3 : (-2147483648) ≤ l3 ∧ l3 ≤ 2147483647) (h : J M) : wp (mX8_sure 1 l1 l2 l3 M) (fun q1 => wp (mX9_sure 126 l1 l2 l3 q1.2) (fun q2 => J q2.2)) :=
  h.un (fun i => s_X8_sure r_l1 r_l2 r_l3 i) sf_X8_sure (fun _ w i => s_X9_sure r_l1 r_l2 r_l3 w i) sf_X9_sure
theorem sf_X8_cause : ∀ b j, W_X8_cause b j → SAFE8 b j := fun b j z => by
  unfold W_X8_cause at z
  unfold SAFE8
  exact Or.elim z (fun z => (Or.inr (Or.inr ⟨by omega, by omega⟩))) (fun z => Or.elim z (fun z => (Or.inr (Or.inr ⟨by omega, by omega⟩))) (fun z => Or.elim z (fun z => (Or.inr (Or.inr ⟨by omega, by omega⟩))) (fun z => Or.elim z (fun z => (Or.inr (Or.inr ⟨by omega, by omega⟩))) (fun z => Or.elim z (fun z => (Or.inr (Or.inr (by unfold isWS at z; omega)))) (fun z => Or.elim z (fun z => (Or.inl (by omega))) (fun z => Or.elim z (fun z => (Or.inr (Or.inr ⟨by omega, by omega⟩))) (fun z => Or.elim z (fun z => (Or.inr (Or.inr ⟨by omega, by omega⟩))) (fun z => Or.elim z (fun z => (Or.inr (Or.inr ⟨by omega, by omega⟩))) (fun z => Or.elim z (fun z => (Or.inr (Or.inr ⟨by omega, by omega⟩))) (fun z => Or.elim z (fun z => (Or.inr (Or.inr ⟨by omega, by omega⟩))) (fun z => Or.elim z (fun z => (Or.inr (Or.inr ⟨by omega, by omega⟩))) (fun z => Or.elim z (fun z => (Or.inr (Or.inr ⟨by omega, by omega⟩))) (fun z => Or.elim z (fun z => (Or.inr (Or.inr ⟨by omega, by omega⟩))) (fun z => Or.elim z (fun z => (Or.inr (Or.inr ⟨by omega, by omega⟩))) (fun z => Or.elim z (fun z => (Or.inr (Or.inr (by unfold isWS at z; omega)))) (fun z => (Or.inr (Or.inr (by unfold isWS at z; omega)))))))))))))))))))
theorem sf_X9_cause : ∀ b j, W_X9_cause b j → SAFE9 b j := fun b j z => by
  unfold W_X9_cause at z
  unfold SAFE9
  exact Or.elim z (fun z => (Or.inr (Or.inr (Or.inr (Or.inr (Or.inr (by omega))))))) (fun z => Or.elim z (fun z => (Or.inr (Or.inr (Or.inr (Or.inr (Or.inr (by omega))))))) (fun z => Or.elim z (fun z => (Or.inr (Or.inr (Or.inr (Or.inr (Or.inr (by omega))))))) (fun z => Or.elim z (fun z => (Or.inl (by omega))) (fun z => Or.elim z (fun z => (Or.inl (by omega))) (fun z => Or.elim z (fun z => (Or.inl (by omega))) (fun z => Or.elim z (fun z => (Or.inl (by omega))) (fun z => Or.elim z (fun z => (Or.inl (by omega))) (fun z => (Or.inl (by omega))))))))))
theorem j_cause {l1 l2 l3 l4 : Int} {M : Mem} (r_l1 : (-2147483648) ≤ l1 ∧ l1 ≤ 2147483647) (r_l2 : (-2147483648) ≤ l2 ∧ l2 ≤ 2147483647) (r_l3 : (-2147483648) ≤ l3 ∧ l3 ≤ 2147483647) (r_l4 : (-2147483648) ≤ l4 ∧ l4 ≤ 2147483647) (h : J M) : wp (mX8_cause 1 l1 l2 l3 l4 M) (fun q1 => wp (mX9_cause 126 l1 l2 l3 l4 q1.2) (fun q2 => J q2.2)) :=
  h.un (fun i => s_X8_cause r_l1 r_l2 r_l3 r_l4 i) sf_X8_cause (fun _ w i => s_X9_cause r_l1 r_l2 r_l3 r_l4 w i) sf_X9_cause
theorem sf_X8_without : ∀ b j, W_X8_without b j → SAFE8 b j := fun b j z => by
  unfold W_X8_without at z
  unfold SAFE8
  exact Or.elim z (fun z => (Or.inr (Or.inr ⟨by omega, by omega⟩))) (fun z => Or.elim z (fun z => (Or.inr (Or.inr ⟨by omega, by omega⟩))) (fun z => Or.elim z (fun z => (Or.inr (Or.inr ⟨by omega, by omega⟩))) (fun z => Or.elim z (fun z => (Or.inr (Or.inr ⟨by omega, by omega⟩))) (fun z => Or.elim z (fun z => (Or.inr (Or.inr (by unfold isWS at z; omega)))) (fun z => Or.elim z (fun z => (Or.inl (by omega))) (fun z => Or.elim z (fun z => (Or.inr (Or.inr ⟨by omega, by omega⟩))) (fun z => Or.elim z (fun z => (Or.inr (Or.inr ⟨by omega, by omega⟩))) (fun z => Or.elim z (fun z => (Or.inr (Or.inr ⟨by omega, by omega⟩))) (fun z => Or.elim z (fun z => (Or.inr (Or.inr ⟨by omega, by omega⟩))) (fun z => Or.elim z (fun z => (Or.inr (Or.inr ⟨by omega, by omega⟩))) (fun z => Or.elim z (fun z => (Or.inr (Or.inr ⟨by omega, by omega⟩))) (fun z => Or.elim z (fun z => (Or.inr (Or.inr ⟨by omega, by omega⟩))) (fun z => Or.elim z (fun z => (Or.inr (Or.inr ⟨by omega, by omega⟩))) (fun z => Or.elim z (fun z => (Or.inr (Or.inr ⟨by omega, by omega⟩))) (fun z => Or.elim z (fun z => (Or.inr (Or.inr (by unfold isWS at z; omega)))) (fun z => (Or.inr (Or.inr (by unfold isWS at z; omega)))))))))))))))))))
theorem sf_X9_without : ∀ b j, W_X9_without b j → SAFE9 b j := fun b j z => by
  unfold W_X9_without at z
  unfold SAFE9
  exact Or.elim z (fun z => (Or.inr (Or.inr (Or.inr (Or.inr (Or.inr (by omega))))))) (fun z => Or.elim z (fun z => (Or.inr (Or.inr (Or.inr (Or.inr (Or.inr (by omega))))))) (fun z => Or.elim z (fun z => (Or.inl (by omega))) (fun z => Or.elim z (fun z => (Or.inl (by omega))) (fun z => Or.elim z (fun z => (Or.inl (by omega))) (fun z => Or.elim z (fun z => (Or.inl (by omega))) (fun z => (Or.inl (by omega))))))))
theorem j_without {l1 : Int} {M : Mem} (r_l1 : (-2147483648) ≤ l1 ∧ l1 ≤ 2147483647) (h : J M) : wp (mX8_without 1 l1 M) (fun q1 => wp (mX9_without 126 l1 q1.2) (fun q2 => J q2.2)) :=
  h.un (fun i => s_X8_without r_l1 i) sf_X8_without (fun _ w i => s_X9_without r_l1 w i) sf_X9_without
theorem sf_X8_questions : ∀ b j, W_X8_questions b j → SAFE8 b j := fun b j z => by
  unfold W_X8_questions at z
  unfold SAFE8
  exact Or.elim z (fun z => (Or.inr (Or.inr ⟨by omega, by omega⟩))) (fun z => Or.elim z (fun z => (Or.inr (Or.inr ⟨by omega, by omega⟩))) (fun z => Or.elim z (fun z => (Or.inr (Or.inr ⟨by omega, by omega⟩))) (fun z => Or.elim z (fun z => (Or.inr (Or.inr ⟨by omega, by omega⟩))) (fun z => Or.elim z (fun z => (Or.inr (Or.inr (by unfold isWS at z; omega)))) (fun z => Or.elim z (fun z => (Or.inl (by omega))) (fun z => Or.elim z (fun z => (Or.inr (Or.inr ⟨by omega, by omega⟩))) (fun z => Or.elim z (fun z => (Or.inr (Or.inr ⟨by omega, by omega⟩))) (fun z => Or.elim z (fun z => (Or.inr (Or.inr ⟨by omega, by omega⟩))) (fun z => Or.elim z (fun z => (Or.inr (Or.inr ⟨by omega, by omega⟩))) (fun z => Or.elim z (fun z => (Or.inr (Or.inr ⟨by omega, by omega⟩))) (fun z => Or.elim z (fun z => (Or.inr (Or.inr ⟨by omega, by omega⟩))) (fun z => Or.elim z (fun z => (Or.inr (Or.inr ⟨by omega, by omega⟩))) (fun z => Or.elim z (fun z => (Or.inr (Or.inr (by unfold isWS at z; omega)))) (fun z => (Or.inr (Or.inr (by unfold isWS at z; omega)))))))))))))))))
theorem sf_X9_questions : ∀ b j, W_X9_questions b j → SAFE9 b j := fun b j z => by
  unfold W_X9_questions at z
  unfold SAFE9
  exact Or.elim z (fun z => (Or.inr (Or.inr (Or.inr (Or.inr (Or.inr (by omega))))))) (fun z => Or.elim z (fun z => (Or.inr (Or.inr (Or.inr (Or.inr (Or.inr (by omega))))))) (fun z => Or.elim z (fun z => (Or.inr (Or.inr (Or.inr (Or.inr (Or.inr (by omega))))))) (fun z => Or.elim z (fun z => (Or.inl (by omega))) (fun z => Or.elim z (fun z => (Or.inl (by omega))) (fun z => Or.elim z (fun z => (Or.inl (by omega))) (fun z => Or.elim z (fun z => (Or.inl (by omega))) (fun z => (Or.inl (by omega)))))))))
theorem j_questions {M : Mem}  (h : J M) : wp (mX8_questions 1 M) (fun q1 => wp (mX9_questions 126 q1.2) (fun q2 => J q2.2)) :=
  h.un (fun i => s_X8_questions  i) sf_X8_questions (fun _ w i => s_X9_questions  w i) sf_X9_questions
theorem sf_X8_settle : ∀ b j, W_X8_settle b j → SAFE8 b j := fun b j z => by
  unfold W_X8_settle at z
  unfold SAFE8
  exact Or.elim z (fun z => (Or.inr (Or.inr ⟨by omega, by omega⟩))) (fun z => Or.elim z (fun z => (Or.inr (Or.inr ⟨by omega, by omega⟩))) (fun z => Or.elim z (fun z => (Or.inr (Or.inr ⟨by omega, by omega⟩))) (fun z => Or.elim z (fun z => (Or.inr (Or.inr (by unfold isWS at z; omega)))) (fun z => Or.elim z (fun z => (Or.inl (by omega))) (fun z => Or.elim z (fun z => (Or.inr (Or.inr ⟨by omega, by omega⟩))) (fun z => Or.elim z (fun z => (Or.inr (Or.inr ⟨by omega, by omega⟩))) (fun z => Or.elim z (fun z => (Or.inr (Or.inr ⟨by omega, by omega⟩))) (fun z => Or.elim z (fun z => (Or.inr (Or.inr ⟨by omega, by omega⟩))) (fun z => Or.elim z (fun z => (Or.inr (Or.inr ⟨by omega, by omega⟩))) (fun z => Or.elim z (fun z => (Or.inr (Or.inr ⟨by omega, by omega⟩))) (fun z => Or.elim z (fun z => (Or.inr (Or.inr ⟨by omega, by omega⟩))) (fun z => Or.elim z (fun z => (Or.inr (Or.inr (by unfold isWS at z; omega)))) (fun z => (Or.inr (Or.inr (by unfold isWS at z; omega))))))))))))))))
theorem sf_X9_settle : ∀ b j, W_X9_settle b j → SAFE9 b j := fun b j z => by
  unfold W_X9_settle at z
  unfold SAFE9
  exact Or.elim z (fun z => (Or.inr (Or.inr (Or.inr (Or.inr (Or.inr (by omega))))))) (fun z => Or.elim z (fun z => (Or.inr (Or.inr (Or.inr (Or.inr (Or.inr (by omega))))))) (fun z => Or.elim z (fun z => (Or.inr (Or.inr (Or.inr (Or.inr (Or.inr (by omega))))))) (fun z => Or.elim z (fun z => (Or.inl (by omega))) (fun z => Or.elim z (fun z => (Or.inl (by omega))) (fun z => Or.elim z (fun z => (Or.inl (by omega))) (fun z => Or.elim z (fun z => (Or.inl (by omega))) (fun z => Or.elim z (fun z => (Or.inl (by omega))) (fun z => (Or.inl (by omega))))))))))
theorem j_settle {l1 : Int} {M : Mem} (r_l1 : (-2147483648) ≤ l1 ∧ l1 ≤ 2147483647) (h : J M) : wp (mX8_settle 1 l1 M) (fun q1 => wp (mX9_settle 126 l1 q1.2) (fun q2 => J q2.2)) :=
  h.un (fun i => s_X8_settle r_l1 i) sf_X8_settle (fun _ w i => s_X9_settle r_l1 w i) sf_X9_settle
theorem sf_X8_near : ∀ b j, W_X8_near b j → SAFE8 b j := fun b j z => by
  unfold W_X8_near at z
  unfold SAFE8
  exact Or.elim z (fun z => (Or.inr (Or.inr ⟨by omega, by omega⟩))) (fun z => Or.elim z (fun z => (Or.inr (Or.inr ⟨by omega, by omega⟩))) (fun z => Or.elim z (fun z => (Or.inr (Or.inr ⟨by omega, by omega⟩))) (fun z => Or.elim z (fun z => (Or.inr (Or.inr (by unfold isWS at z; omega)))) (fun z => Or.elim z (fun z => (Or.inl (by omega))) (fun z => Or.elim z (fun z => (Or.inr (Or.inr ⟨by omega, by omega⟩))) (fun z => Or.elim z (fun z => (Or.inr (Or.inr ⟨by omega, by omega⟩))) (fun z => Or.elim z (fun z => (Or.inr (Or.inr ⟨by omega, by omega⟩))) (fun z => Or.elim z (fun z => (Or.inr (Or.inl ⟨z.1, by omega⟩))) (fun z => Or.elim z (fun z => (Or.inr (Or.inr ⟨by omega, by omega⟩))) (fun z => Or.elim z (fun z => (Or.inr (Or.inr ⟨by omega, by omega⟩))) (fun z => Or.elim z (fun z => (Or.inr (Or.inr ⟨by omega, by omega⟩))) (fun z => Or.elim z (fun z => (Or.inr (Or.inr ⟨by omega, by omega⟩))) (fun z => Or.elim z (fun z => (Or.inr (Or.inr (by unfold isWS at z; omega)))) (fun z => (Or.inr (Or.inr (by unfold isWS at z; omega)))))))))))))))))
theorem sf_X9_near : ∀ b j, W_X9_near b j → SAFE9 b j := fun b j z => by
  unfold W_X9_near at z
  unfold SAFE9
  exact Or.elim z (fun z => (Or.inr (Or.inr (Or.inl (by omega))))) (fun z => Or.elim z (fun z => (Or.inr (Or.inr (Or.inr (Or.inr (Or.inr (by omega))))))) (fun z => Or.elim z (fun z => (Or.inr (Or.inr (Or.inr (Or.inr (Or.inr (by omega))))))) (fun z => Or.elim z (fun z => (Or.inl (by omega))) (fun z => Or.elim z (fun z => (Or.inl (by omega))) (fun z => Or.elim z (fun z => (Or.inl (by omega))) (fun z => Or.elim z (fun z => (Or.inl (by omega))) (fun z => (Or.inl (by omega)))))))))
theorem j_near {M : Mem}  (h : J M) : wp (mX8_near 1 M) (fun q1 => wp (mX9_near 126 q1.2) (fun q2 => J q2.2)) :=
  h.un (fun i => s_X8_near  i) sf_X8_near (fun _ w i => s_X9_near  w i) sf_X9_near
theorem sf_X8_holds : ∀ b j, W_X8_holds b j → SAFE8 b j := fun b j z => by
  unfold W_X8_holds at z
  unfold SAFE8
  exact Or.elim z (fun z => (Or.inr (Or.inr ⟨by omega, by omega⟩))) (fun z => Or.elim z (fun z => (Or.inr (Or.inr ⟨by omega, by omega⟩))) (fun z => Or.elim z (fun z => (Or.inr (Or.inr ⟨by omega, by omega⟩))) (fun z => Or.elim z (fun z => (Or.inr (Or.inr ⟨by omega, by omega⟩))) (fun z => Or.elim z (fun z => (Or.inr (Or.inr ⟨by omega, by omega⟩))) (fun z => Or.elim z (fun z => (Or.inr (Or.inr ⟨by omega, by omega⟩))) (fun z => Or.elim z (fun z => (Or.inr (Or.inr ⟨by omega, by omega⟩))) (fun z => Or.elim z (fun z => (Or.inr (Or.inr (by unfold isWS at z; omega)))) (fun z => Or.elim z (fun z => (Or.inl (by omega))) (fun z => Or.elim z (fun z => (Or.inr (Or.inr ⟨by omega, by omega⟩))) (fun z => Or.elim z (fun z => (Or.inr (Or.inr ⟨by omega, by omega⟩))) (fun z => Or.elim z (fun z => (Or.inr (Or.inr ⟨by omega, by omega⟩))) (fun z => Or.elim z (fun z => (Or.inr (Or.inr ⟨by omega, by omega⟩))) (fun z => Or.elim z (fun z => (Or.inr (Or.inr ⟨by omega, by omega⟩))) (fun z => Or.elim z (fun z => (Or.inr (Or.inr ⟨by omega, by omega⟩))) (fun z => Or.elim z (fun z => (Or.inr (Or.inr ⟨by omega, by omega⟩))) (fun z => Or.elim z (fun z => (Or.inr (Or.inr ⟨by omega, by omega⟩))) (fun z => Or.elim z (fun z => (Or.inr (Or.inr ⟨by omega, by omega⟩))) (fun z => Or.elim z (fun z => (Or.inr (Or.inr ⟨by omega, by omega⟩))) (fun z => Or.elim z (fun z => (Or.inr (Or.inr ⟨by omega, by omega⟩))) (fun z => Or.elim z (fun z => (Or.inr (Or.inr ⟨by omega, by omega⟩))) (fun z => Or.elim z (fun z => (Or.inr (Or.inr ⟨by omega, by omega⟩))) (fun z => Or.elim z (fun z => (Or.inr (Or.inr ⟨by omega, by omega⟩))) (fun z => Or.elim z (fun z => (Or.inr (Or.inr ⟨by omega, by omega⟩))) (fun z => Or.elim z (fun z => (Or.inr (Or.inr ⟨by omega, by omega⟩))) (fun z => Or.elim z (fun z => (Or.inr (Or.inr ⟨by omega, by omega⟩))) (fun z => Or.elim z (fun z => (Or.inr (Or.inr (by unfold isWS at z; omega)))) (fun z => (Or.inr (Or.inr (by unfold isWS at z; omega))))))))))))))))))))))))))))))
theorem sf_X9_holds : ∀ b j, W_X9_holds b j → SAFE9 b j := fun b j z => by
  unfold W_X9_holds at z
  unfold SAFE9
  exact Or.elim z (fun z => (Or.inr (Or.inr (Or.inr (Or.inr (Or.inr (by omega))))))) (fun z => Or.elim z (fun z => (Or.inr (Or.inr (Or.inr (Or.inr (Or.inr (by omega))))))) (fun z => Or.elim z (fun z => (Or.inl (by omega))) (fun z => Or.elim z (fun z => (Or.inl (by omega))) (fun z => Or.elim z (fun z => (Or.inl (by omega))) (fun z => Or.elim z (fun z => (Or.inl (by omega))) (fun z => (Or.inl (by omega))))))))
theorem j_holds {l1 : Int} {M : Mem} (r_l1 : (-2147483648) ≤ l1 ∧ l1 ≤ 2147483647) (h : J M) : wp (mX8_holds 1 l1 M) (fun q1 => wp (mX9_holds 126 l1 q1.2) (fun q2 => J q2.2)) :=
  h.un (fun i => s_X8_holds r_l1 i) sf_X8_holds (fun _ w i => s_X9_holds r_l1 w i) sf_X9_holds
theorem sf_X8_against : ∀ b j, W_X8_against b j → SAFE8 b j := fun b j z => by
  unfold W_X8_against at z
  unfold SAFE8
  exact Or.elim z (fun z => (Or.inr (Or.inr ⟨by omega, by omega⟩))) (fun z => Or.elim z (fun z => (Or.inr (Or.inr ⟨by omega, by omega⟩))) (fun z => Or.elim z (fun z => (Or.inr (Or.inr ⟨by omega, by omega⟩))) (fun z => Or.elim z (fun z => (Or.inr (Or.inr ⟨by omega, by omega⟩))) (fun z => Or.elim z (fun z => (Or.inr (Or.inr ⟨by omega, by omega⟩))) (fun z => Or.elim z (fun z => (Or.inr (Or.inr ⟨by omega, by omega⟩))) (fun z => Or.elim z (fun z => (Or.inr (Or.inr ⟨by omega, by omega⟩))) (fun z => Or.elim z (fun z => (Or.inr (Or.inr (by unfold isWS at z; omega)))) (fun z => Or.elim z (fun z => (Or.inl (by omega))) (fun z => Or.elim z (fun z => (Or.inr (Or.inr ⟨by omega, by omega⟩))) (fun z => Or.elim z (fun z => (Or.inr (Or.inr ⟨by omega, by omega⟩))) (fun z => Or.elim z (fun z => (Or.inr (Or.inr ⟨by omega, by omega⟩))) (fun z => Or.elim z (fun z => (Or.inr (Or.inr ⟨by omega, by omega⟩))) (fun z => Or.elim z (fun z => (Or.inr (Or.inr ⟨by omega, by omega⟩))) (fun z => Or.elim z (fun z => (Or.inr (Or.inr ⟨by omega, by omega⟩))) (fun z => Or.elim z (fun z => (Or.inr (Or.inr ⟨by omega, by omega⟩))) (fun z => Or.elim z (fun z => (Or.inr (Or.inr ⟨by omega, by omega⟩))) (fun z => Or.elim z (fun z => (Or.inr (Or.inr ⟨by omega, by omega⟩))) (fun z => Or.elim z (fun z => (Or.inr (Or.inr ⟨by omega, by omega⟩))) (fun z => Or.elim z (fun z => (Or.inr (Or.inr ⟨by omega, by omega⟩))) (fun z => Or.elim z (fun z => (Or.inr (Or.inl ⟨z.1, by omega⟩))) (fun z => Or.elim z (fun z => (Or.inr (Or.inr ⟨by omega, by omega⟩))) (fun z => Or.elim z (fun z => (Or.inr (Or.inr ⟨by omega, by omega⟩))) (fun z => Or.elim z (fun z => (Or.inr (Or.inr ⟨by omega, by omega⟩))) (fun z => Or.elim z (fun z => (Or.inr (Or.inr ⟨by omega, by omega⟩))) (fun z => Or.elim z (fun z => (Or.inr (Or.inr ⟨by omega, by omega⟩))) (fun z => Or.elim z (fun z => (Or.inr (Or.inr ⟨by omega, by omega⟩))) (fun z => Or.elim z (fun z => (Or.inr (Or.inr (by unfold isWS at z; omega)))) (fun z => (Or.inr (Or.inr (by unfold isWS at z; omega)))))))))))))))))))))))))))))))
theorem sf_X9_against : ∀ b j, W_X9_against b j → SAFE9 b j := fun b j z => by
  unfold W_X9_against at z
  unfold SAFE9
  exact Or.elim z (fun z => (Or.inr (Or.inr (Or.inl (by omega))))) (fun z => Or.elim z (fun z => (Or.inr (Or.inr (Or.inr (Or.inr (Or.inr (by omega))))))) (fun z => Or.elim z (fun z => (Or.inr (Or.inr (Or.inr (Or.inr (Or.inr (by omega))))))) (fun z => Or.elim z (fun z => (Or.inl (by omega))) (fun z => Or.elim z (fun z => (Or.inl (by omega))) (fun z => Or.elim z (fun z => (Or.inl (by omega))) (fun z => Or.elim z (fun z => (Or.inl (by omega))) (fun z => (Or.inl (by omega)))))))))
theorem j_against {M : Mem}  (h : J M) : wp (mX8_against 1 M) (fun q1 => wp (mX9_against 126 q1.2) (fun q2 => J q2.2)) :=
  h.un (fun i => s_X8_against  i) sf_X8_against (fun _ w i => s_X9_against  w i) sf_X9_against
theorem sf_X8_many : ∀ b j, W_X8_many b j → SAFE8 b j := fun b j z => by
  unfold W_X8_many at z
  unfold SAFE8
  exact z.elim
theorem sf_X9_many : ∀ b j, W_X9_many b j → SAFE9 b j := fun b j z => by
  unfold W_X9_many at z
  unfold SAFE9
  exact (Or.inl (by omega))
theorem j_many {l1 : Int} {M : Mem} (r_l1 : (-2147483648) ≤ l1 ∧ l1 ≤ 2147483647) (h : J M) : wp (mX8_many 1 l1 M) (fun q1 => wp (mX9_many 126 l1 q1.2) (fun q2 => J q2.2)) :=
  h.un (fun i => s_X8_many r_l1 i) sf_X8_many (fun _ w i => s_X9_many r_l1  i) sf_X9_many
