/-! ===== J4 is kept by the other calls ===== -/
section
variable {M : Mem}
theorem j4_facts (h : J4 M) : wp (mX8_facts 1 M) (fun q1 => wp (mX9_facts 126 q1.2) (fun q2 => J4 q2.2)) :=
  J4.un h (jb_facts  h.1) (hx_of h.1.1 (s_X8_facts  h.1.1.1.1.1) (fun b j z => False.elim z)) (gx_of h (s_X8_facts  h.1.1.1.1.1) (fun b j z => False.elim z)) (fun n m w i => s_X9_facts  i) (fun b j z => by unfold W_X9_facts at z; omega)
theorem j4_fact {l1 l2 l3 : Int} (r1 : (-2147483648) ≤ l1 ∧ l1 ≤ 2147483647) (r2 : (-2147483648) ≤ l2 ∧ l2 ≤ 2147483647) (r3 : (-2147483648) ≤ l3 ∧ l3 ≤ 2147483647) (h : J4 M) : wp (mX8_fact 1 l1 l2 l3 M) (fun q1 => wp (mX9_fact 126 l1 l2 l3 q1.2) (fun q2 => J4 q2.2)) :=
  J4.un h (jb_fact r1 r2 r3 h.1) (hx_of h.1.1 (s_X8_fact r1 r2 r3 h.1.1.1.1.1) (fun b j z => False.elim z)) (gx_of h (s_X8_fact r1 r2 r3 h.1.1.1.1.1) (fun b j z => False.elim z)) (fun n m w i => s_X9_fact r1 r2 r3 i) (fun b j z => by unfold W_X9_fact at z; omega)
theorem j4_known {l1 l2 l3 l4 : Int} (r1 : (-2147483648) ≤ l1 ∧ l1 ≤ 2147483647) (r2 : (-2147483648) ≤ l2 ∧ l2 ≤ 2147483647) (r3 : (-2147483648) ≤ l3 ∧ l3 ≤ 2147483647) (r4 : 0 ≤ l4 ∧ l4 ≤ 1) (h : J4 M) : wp (mX8_known 1 l1 l2 l3 l4 M) (fun q1 => wp (mX9_known 126 l1 l2 l3 l4 q1.2) (fun q2 => J4 q2.2)) :=
  J4.un h (jb_known r1 r2 r3 r4 h.1) (hx_of h.1.1 (s_X8_known r1 r2 r3 r4 h.1.1.1.1.1) (fun b j z => by unfold W_X8_known at z; omega)) (gx_of h (s_X8_known r1 r2 r3 r4 h.1.1.1.1.1) (fun b j z => by unfold W_X8_known at z; unfold WX8; omega)) (fun n m w i => s_X9_known r1 r2 r3 r4 i) (fun b j z => by unfold W_X9_known at z; omega)
theorem j4_apart {l1 : Int} (r1 : (-2147483648) ≤ l1 ∧ l1 ≤ 2147483647) (h : J4 M) : wp (mX8_apart 1 l1 M) (fun q1 => wp (mX9_apart 126 l1 q1.2) (fun q2 => J4 q2.2)) :=
  J4.un h (jb_apart r1 h.1) (hx_of h.1.1 (s_X8_apart r1 h.1.1.1.1.1) (fun b j z => by unfold W_X8_apart at z; omega)) (gx_of h (s_X8_apart r1 h.1.1.1.1.1) (fun b j z => by unfold W_X8_apart at z; unfold WX8; omega)) (fun n m w i => s_X9_apart r1 i) (fun b j z => by unfold W_X9_apart at z; omega)
theorem j4_feed {l1 l2 l3 l4 l5 : Int} (r1 : (-2147483648) ≤ l1 ∧ l1 ≤ 2147483647) (r2 : (-2147483648) ≤ l2 ∧ l2 ≤ 2147483647) (r3 : (-2147483648) ≤ l3 ∧ l3 ≤ 2147483647) (r4 : (-2147483648) ≤ l4 ∧ l4 ≤ 2147483647) (r5 : (-2147483648) ≤ l5 ∧ l5 ≤ 2147483647) (h : J4 M) : wp (mX8_feed 1 l1 l2 l3 l4 l5 M) (fun q1 => wp (mX9_feed 126 l1 l2 l3 l4 l5 q1.2) (fun q2 => J4 q2.2)) :=
  J4.un h (jb_feed r1 r2 r3 r4 r5 h.1) (hx_of h.1.1 (s_X8_feed r1 r2 r3 r4 r5 h.1.1.1.1.1) (fun b j z => by unfold W_X8_feed at z; omega)) (gx_of h (s_X8_feed r1 r2 r3 r4 r5 h.1.1.1.1.1) (fun b j z => by unfold W_X8_feed at z; unfold WX8; omega)) (fun n m w i => s_X9_feed r1 r2 r3 r4 r5 i) (fun b j z => by unfold W_X9_feed at z; omega)
theorem j4_end {l1 : Int} (r1 : (-2147483648) ≤ l1 ∧ l1 ≤ 2147483647) (h : J4 M) : wp (mX8_end 1 l1 M) (fun q1 => wp (mX9_end 126 l1 q1.2) (fun q2 => J4 q2.2)) :=
  J4.un h (jb_end r1 h.1) (hx_of h.1.1 (s_X8_end r1 h.1.1.1.1.1) (fun b j z => by unfold W_X8_end at z; omega)) (gx_of h (s_X8_end r1 h.1.1.1.1.1) (fun b j z => by unfold W_X8_end at z; unfold WX8; omega)) (fun n m w i => s_X9_end r1 i) (fun b j z => by unfold W_X9_end at z; omega)
theorem j4_story (h : J4 M) : wp (mX8_story 1 M) (fun q1 => wp (mX9_story 126 q1.2) (fun q2 => J4 q2.2)) :=
  J4.un (W9 := W_X9_story) (P9 := fun _ => True) h (jb_story  h.1) (p_mono (p_wp (s_X8_story h.1.1.1.1.1)) (fun q y => by
    obtain ⟨⟨n, hn, i2, k2, _⟩, _⟩ := y
    exact ⟨⟨n, i2⟩, k2.f9 (by have := h.1.1.1.1.1.2.2.2.2.1; omega) (fun b j z => by unfold W_X8_story at z; omega)⟩)) (p_mono (p_wp (s_X8_story h.1.1.1.1.1)) (fun q y b j z => by
    obtain ⟨⟨n, hn, i2, k2, _⟩, _⟩ := y
    exact k2.2.2 b j (by have := h.1.1.1.1.1.2.2.2.2.1; unfold WX8 at z; omega) (fun w => by unfold W_X8_story at w; unfold WX8 at z; omega))) (fun n m w i => w_mono (s_X9_story w i) (fun q z => ⟨z.1, z.2.1, True.intro⟩)) (fun b j z => by unfold W_X9_story at z; omega)
theorem j4_guess (h : J4 M) : wp (mX8_guess 1 M) (fun q1 => wp (mX9_guess 126 q1.2) (fun q2 => J4 q2.2)) :=
  J4.un (W9 := W_X9_guess) (P9 := fun _ => True) h (jb_guess  h.1) (p_mono (p_wp (s_X8_guess h.1.1.1.1.1)) (fun q y => by
    obtain ⟨⟨n, hn, i2, k2, _⟩, _⟩ := y
    exact ⟨⟨n, i2⟩, k2.f9 (by have := h.1.1.1.1.1.2.2.2.2.1; omega) (fun b j z => by unfold W_X8_guess at z; omega)⟩)) (p_mono (p_wp (s_X8_guess h.1.1.1.1.1)) (fun q y b j z => by
    obtain ⟨⟨n, hn, i2, k2, _⟩, _⟩ := y
    exact k2.2.2 b j (by have := h.1.1.1.1.1.2.2.2.2.1; unfold WX8 at z; omega) (fun w => by unfold W_X8_guess at w; unfold WX8 at z; omega))) (fun n m w i => w_mono (s_X9_guess w i) (fun q z => ⟨z.1, z.2.1, True.intro⟩)) (fun b j z => by unfold W_X9_guess at z; omega)
theorem j4_fault {l1 : Int} (r1 : (-2147483648) ≤ l1 ∧ l1 ≤ 2147483647) (h : J4 M) : wp (mX8_fault 1 l1 M) (fun q1 => wp (mX9_fault 126 l1 q1.2) (fun q2 => J4 q2.2)) :=
  J4.un h (jb_fault r1 h.1) (hx_of h.1.1 (s_X8_fault r1 h.1.1.1.1.1) (fun b j z => False.elim z)) (gx_of h (s_X8_fault r1 h.1.1.1.1.1) (fun b j z => False.elim z)) (fun n m w i => s_X9_fault r1 i) (fun b j z => by unfold W_X9_fault at z; omega)
theorem j4_strike {l1 : Int} (r1 : (-2147483648) ≤ l1 ∧ l1 ≤ 2147483647) (h : J4 M) : wp (mX8_strike 1 l1 M) (fun q1 => wp (mX9_strike 126 l1 q1.2) (fun q2 => J4 q2.2)) :=
  J4.un h (jb_strike r1 h.1) (hx_of h.1.1 (s_X8_strike r1 h.1.1.1.1.1) (fun b j z => by unfold W_X8_strike at z; omega)) (gx_of h (s_X8_strike r1 h.1.1.1.1.1) (fun b j z => by unfold W_X8_strike at z; unfold WX8; omega)) (fun n m w i => s_X9_strike r1 i) (fun b j z => by unfold W_X9_strike at z; omega)
theorem j4_day {l1 : Int} (r1 : (-2147483648) ≤ l1 ∧ l1 ≤ 2147483647) (h : J4 M) : wp (mX8_day 1 l1 M) (fun q1 => wp (mX9_day 126 l1 q1.2) (fun q2 => J4 q2.2)) :=
  J4.un h (jb_day r1 h.1) (hx_of h.1.1 (s_X8_day r1 h.1.1.1.1.1) (fun b j z => by unfold W_X8_day at z; omega)) (gx_of h (s_X8_day r1 h.1.1.1.1.1) (fun b j z => by unfold W_X8_day at z; unfold WX8; omega)) (fun n m w i => s_X9_day r1 i) (fun b j z => by unfold W_X9_day at z; omega)
theorem j4_view {l1 : Int} (r1 : (-2147483648) ≤ l1 ∧ l1 ≤ 2147483647) (h : J4 M) : wp (mX8_view 1 l1 M) (fun q1 => wp (mX9_view 126 l1 q1.2) (fun q2 => J4 q2.2)) :=
  J4.un h (jb_view r1 h.1) (hx_of h.1.1 (s_X8_view r1 h.1.1.1.1.1) (fun b j z => by unfold W_X8_view at z; omega)) (gx_of h (s_X8_view r1 h.1.1.1.1.1) (fun b j z => by unfold W_X8_view at z; unfold WX8; omega)) (fun n m w i => s_X9_view r1 i) (fun b j z => by unfold W_X9_view at z; omega)
theorem j4_so {l1 : Int} (r1 : (-2147483648) ≤ l1 ∧ l1 ≤ 2147483647) (h : J4 M) : wp (mX8_so 1 l1 M) (fun q1 => wp (mX9_so 126 l1 q1.2) (fun q2 => J4 q2.2)) :=
  J4.un h (jb_so r1 h.1) (hx_of h.1.1 (s_X8_so r1 h.1.1.1.1.1) (fun b j z => by unfold W_X8_so at z; omega)) (gx_of h (s_X8_so r1 h.1.1.1.1.1) (fun b j z => by unfold W_X8_so at z; unfold WX8; omega)) (fun n m w i => s_X9_so r1 w i) (fun b j z => by unfold W_X9_so at z; omega)
theorem j4_breaks {l1 l2 : Int} (r1 : (-2147483648) ≤ l1 ∧ l1 ≤ 2147483647) (r2 : (-2147483648) ≤ l2 ∧ l2 ≤ 2147483647) (h : J4 M) : wp (mX8_breaks 1 l1 l2 M) (fun q1 => wp (mX9_breaks 126 l1 l2 q1.2) (fun q2 => J4 q2.2)) :=
  J4.un h (jb_breaks r1 r2 h.1) (hx_of h.1.1 (s_X8_breaks r1 r2 h.1.1.1.1.1) (fun b j z => by unfold W_X8_breaks at z; omega)) (gx_of h (s_X8_breaks r1 r2 h.1.1.1.1.1) (fun b j z => by unfold W_X8_breaks at z; unfold WX8; omega)) (fun n m w i => s_X9_breaks r1 r2 w i) (fun b j z => by unfold W_X9_breaks at z; omega)
theorem j4_worlds (h : J4 M) : wp (mX8_worlds 1 M) (fun q1 => wp (mX9_worlds 126 q1.2) (fun q2 => J4 q2.2)) :=
  J4.un h (jb_worlds  h.1) (hx_of h.1.1 (s_X8_worlds  h.1.1.1.1.1) (fun b j z => by unfold W_X8_worlds at z; unfold isWS at z; omega)) (gx_of h (s_X8_worlds  h.1.1.1.1.1) (fun b j z => by unfold W_X8_worlds at z; unfold isWS at z; unfold WX8; omega)) (fun n m w i => s_X9_worlds  w i) (fun b j z => by unfold W_X9_worlds at z; omega)
theorem j4_forms (h : J4 M) : wp (mX8_forms 1 M) (fun q1 => wp (mX9_forms 126 q1.2) (fun q2 => J4 q2.2)) :=
  J4.un h (jb_forms  h.1) (hx_of h.1.1 (s_X8_forms  h.1.1.1.1.1) (fun b j z => by unfold W_X8_forms at z; unfold isWS at z; omega)) (gx_of h (s_X8_forms  h.1.1.1.1.1) (fun b j z => by unfold W_X8_forms at z; unfold isWS at z; unfold WX8; omega)) (fun n m w i => s_X9_forms  w i) (fun b j z => by unfold W_X9_forms at z; omega)
theorem j4_least {l1 : Int} (r1 : (-2147483648) ≤ l1 ∧ l1 ≤ 2147483647) (h : J4 M) : wp (mX8_least 1 l1 M) (fun q1 => wp (mX9_least 126 l1 q1.2) (fun q2 => J4 q2.2)) :=
  J4.un h (jb_least r1 h.1) (hx_of h.1.1 (s_X8_least r1 h.1.1.1.1.1) (fun b j z => by unfold W_X8_least at z; omega)) (gx_of h (s_X8_least r1 h.1.1.1.1.1) (fun b j z => by unfold W_X8_least at z; unfold WX8; omega)) (fun n m w i => s_X9_least r1 w i) (fun b j z => by unfold W_X9_least at z; omega)
theorem j4_core {l1 : Int} (r1 : (-2147483648) ≤ l1 ∧ l1 ≤ 2147483647) (h : J4 M) : wp (mX8_core 1 l1 M) (fun q1 => wp (mX9_core 126 l1 q1.2) (fun q2 => J4 q2.2)) :=
  J4.un h (jb_core r1 h.1) (hx_of h.1.1 (s_X8_core r1 h.1.1.1.1.1) (fun b j z => by unfold W_X8_core at z; unfold isWS at z; omega)) (gx_of h (s_X8_core r1 h.1.1.1.1.1) (fun b j z => by unfold W_X8_core at z; unfold isWS at z; unfold WX8; omega)) (fun n m w i => s_X9_core r1 w i) (fun b j z => by unfold W_X9_core at z; omega)
theorem j4_sure {l1 l2 l3 : Int} (r1 : (-2147483648) ≤ l1 ∧ l1 ≤ 2147483647) (r2 : (-2147483648) ≤ l2 ∧ l2 ≤ 2147483647) (r3 : (-2147483648) ≤ l3 ∧ l3 ≤ 2147483647) (h : J4 M) : wp (mX8_sure 1 l1 l2 l3 M) (fun q1 => wp (mX9_sure 126 l1 l2 l3 q1.2) (fun q2 => J4 q2.2)) :=
  J4.un h (jb_sure r1 r2 r3 h.1) (hx_of h.1.1 (s_X8_sure r1 r2 r3 h.1.1.1.1.1) (fun b j z => by unfold W_X8_sure at z; unfold isWS at z; omega)) (gx_of h (s_X8_sure r1 r2 r3 h.1.1.1.1.1) (fun b j z => by unfold W_X8_sure at z; unfold isWS at z; unfold WX8; omega)) (fun n m w i => s_X9_sure r1 r2 r3 w i) (fun b j z => by unfold W_X9_sure at z; omega)
theorem j4_cause {l1 l2 l3 l4 : Int} (r1 : (-2147483648) ≤ l1 ∧ l1 ≤ 2147483647) (r2 : (-2147483648) ≤ l2 ∧ l2 ≤ 2147483647) (r3 : (-2147483648) ≤ l3 ∧ l3 ≤ 2147483647) (r4 : (-2147483648) ≤ l4 ∧ l4 ≤ 2147483647) (h : J4 M) : wp (mX8_cause 1 l1 l2 l3 l4 M) (fun q1 => wp (mX9_cause 126 l1 l2 l3 l4 q1.2) (fun q2 => J4 q2.2)) :=
  J4.un h (jb_cause r1 r2 r3 r4 h.1) (hx_of h.1.1 (s_X8_cause r1 r2 r3 r4 h.1.1.1.1.1) (fun b j z => by unfold W_X8_cause at z; unfold isWS at z; omega)) (gx_of h (s_X8_cause r1 r2 r3 r4 h.1.1.1.1.1) (fun b j z => by unfold W_X8_cause at z; unfold isWS at z; unfold WX8; omega)) (fun n m w i => s_X9_cause r1 r2 r3 r4 w i) (fun b j z => by unfold W_X9_cause at z; omega)
theorem j4_without {l1 : Int} (r1 : (-2147483648) ≤ l1 ∧ l1 ≤ 2147483647) (h : J4 M) : wp (mX8_without 1 l1 M) (fun q1 => wp (mX9_without 126 l1 q1.2) (fun q2 => J4 q2.2)) :=
  J4.un h (jb_without r1 h.1) (hx_of h.1.1 (s_X8_without r1 h.1.1.1.1.1) (fun b j z => by unfold W_X8_without at z; unfold isWS at z; omega)) (gx_of h (s_X8_without r1 h.1.1.1.1.1) (fun b j z => by unfold W_X8_without at z; unfold isWS at z; unfold WX8; omega)) (fun n m w i => s_X9_without r1 w i) (fun b j z => by unfold W_X9_without at z; omega)
theorem j4_questions (h : J4 M) : wp (mX8_questions 1 M) (fun q1 => wp (mX9_questions 126 q1.2) (fun q2 => J4 q2.2)) :=
  J4.un h (jb_questions  h.1) (hx_of h.1.1 (s_X8_questions  h.1.1.1.1.1) (fun b j z => by unfold W_X8_questions at z; unfold isWS at z; omega)) (gx_of h (s_X8_questions  h.1.1.1.1.1) (fun b j z => by unfold W_X8_questions at z; unfold isWS at z; unfold WX8; omega)) (fun n m w i => s_X9_questions  w i) (fun b j z => by unfold W_X9_questions at z; omega)
theorem j4_settle {l1 : Int} (r1 : (-2147483648) ≤ l1 ∧ l1 ≤ 2147483647) (h : J4 M) : wp (mX8_settle 1 l1 M) (fun q1 => wp (mX9_settle 126 l1 q1.2) (fun q2 => J4 q2.2)) :=
  J4.un h (jb_settle r1 h.1) (hx_of h.1.1 (s_X8_settle r1 h.1.1.1.1.1) (fun b j z => by unfold W_X8_settle at z; unfold isWS at z; omega)) (gx_of h (s_X8_settle r1 h.1.1.1.1.1) (fun b j z => by unfold W_X8_settle at z; unfold isWS at z; unfold WX8; omega)) (fun n m w i => s_X9_settle r1 w i) (fun b j z => by unfold W_X9_settle at z; omega)
theorem j4_holds {l1 : Int} (r1 : (-2147483648) ≤ l1 ∧ l1 ≤ 2147483647) (h : J4 M) : wp (mX8_holds 1 l1 M) (fun q1 => wp (mX9_holds 126 l1 q1.2) (fun q2 => J4 q2.2)) :=
  J4.un h (jb_holds r1 h.1) (hx_of h.1.1 (s_X8_holds r1 h.1.1.1.1.1) (fun b j z => by unfold W_X8_holds at z; unfold isWS at z; omega)) (gx_of h (s_X8_holds r1 h.1.1.1.1.1) (fun b j z => by unfold W_X8_holds at z; unfold isWS at z; unfold WX8; omega)) (fun n m w i => s_X9_holds r1 w i) (fun b j z => by unfold W_X9_holds at z; omega)
theorem j4_many {l1 : Int} (r1 : (-2147483648) ≤ l1 ∧ l1 ≤ 2147483647) (h : J4 M) : wp (mX8_many 1 l1 M) (fun q1 => wp (mX9_many 126 l1 q1.2) (fun q2 => J4 q2.2)) :=
  J4.un h (jb_many r1 h.1) (hx_of h.1.1 (s_X8_many r1 h.1.1.1.1.1) (fun b j z => False.elim z)) (gx_of h (s_X8_many r1 h.1.1.1.1.1) (fun b j z => False.elim z)) (fun n m w i => s_X9_many r1 i) (fun b j z => by unfold W_X9_many at z; omega)
end
theorem j4_factE {l1 l2 l3 : Int} {M : Mem} (r1 : (-2147483648) ≤ l1 ∧ l1 ≤ 2147483647) (r2 : (-2147483648) ≤ l2 ∧ l2 ≤ 2147483647) (r3 : (-2147483648) ≤ l3 ∧ l3 ≤ 2147483647) (h : J4 M) : wp (mX8_fact 1 l1 l2 l3 M) (fun q1 => wp (mX9_fact 126 l1 l2 l3 q1.2) (fun q2 => J4 q2.2 ∧ EQ q1 q2)) := w_and3 (M := M) (j4_fact r1 r2 r3 h) (eq_fact r1 h)
theorem tz_137 : ∀ x : Nat, x < 36 → tvo 0 [] 137 (x : Int) = some 0 := by decide
theorem init_J4 {M : Mem} (r : RepL 197 169 M) : J4 M := by
  have t := TR.of r (X := 0) (lo := 1) (hi := 169)
  have g : ∀ a j v, 1 ≤ a → a ≤ 169 → tvo 0 [] a j = some v → mG M a j = v := fun a j v a0 a1 e => t.v e ⟨a0, a1⟩
  refine ⟨init_JB r, fun i hi => ?_⟩
  have e0 : i = 0 := by
    obtain ⟨i0, i1, hi⟩ := hi
    rcases hi with hi | hi
    · exact hi
    · have hk : i - 1 = 0 ∨ i - 1 = 1 ∨ i - 1 = 2 ∨ i - 1 = -1 := by omega
      rcases hk with e | e | e | e
      · rw [e, g 169 0 0 (by decide) (by decide) (by decide)] at hi; cases hi
      · rw [e, g 169 1 0 (by decide) (by decide) (by decide)] at hi; cases hi
      · rw [e, g 169 2 0 (by decide) (by decide) (by decide)] at hi; cases hi
      · omega
  subst e0
  have e137 : ∀ f : Int, 0 ≤ f → f < 36 → mG M 137 f = 0 := fun f f0 f1 => by
    obtain ⟨x, rfl⟩ := Int.eq_ofNat_of_zero_le f0
    exact g 137 (x : Int) 0 (by decide) (by decide) (tz_137 x (by omega))
  refine W0.sw (W0.z (nfs_0 (init_J3 r).1.1.1).1 (g 3 1 0 (by decide) (by decide) (by decide)) e137 (fun p p0 p1 => ?_))
  obtain e | e | e | e : p = 0 ∨ p = 1 ∨ p = 2 ∨ p = 3 := by omega
  · subst e; exact g 12 0 0 (by decide) (by decide) (by decide)
  · subst e; exact g 12 1 0 (by decide) (by decide) (by decide)
  · subst e; exact g 12 2 0 (by decide) (by decide) (by decide)
  · subst e; exact g 12 3 0 (by decide) (by decide) (by decide)
