section
/-! ===== JL is kept by every call ===== -/
section
variable {M : Mem}
theorem jl_size {l1 l2 : Int} (r1 : (-2147483648) ≤ l1 ∧ l1 ≤ 2147483647) (r2 : (-2147483648) ≤ l2 ∧ l2 ≤ 2147483647) (h : JL M) : wp (mX8_size 1 l1 l2 M) (fun q1 => wp (mX9_size 126 l1 l2 q1.2) (fun q2 => JL q2.2)) :=
  J3.ux h.1 (X := fun m => CL (shp m) m) (fun n M1 M2 i c g => CL.f9 i c g) (j3_size r1 r2 h.1) (hx_of h.1 (s_X8_size r1 r2 h.1.1.1.1) (fun b j z => by unfold W_X8_size at z; omega)) (cl_size r1 r2 h) (fun n m w i => s_X9_size r1 r2 i) (fun b j z => by unfold W_X9_size at z; omega)
theorem jl_relation {l1 l2 : Int} (r1 : (-2147483648) ≤ l1 ∧ l1 ≤ 2147483647) (r2 : (-2147483648) ≤ l2 ∧ l2 ≤ 2147483647) (h : JL M) : wp (mX8_relation 1 l1 l2 M) (fun q1 => wp (mX9_relation 126 l1 l2 q1.2) (fun q2 => JL q2.2)) :=
  J3.ux h.1 (X := fun m => CL (shp m) m) (fun n M1 M2 i c g => CL.f9 i c g) (j3_relation r1 r2 h.1) (hx_of h.1 (s_X8_relation r1 r2 h.1.1.1.1) (fun b j z => by unfold W_X8_relation at z; omega)) (cl_relation r1 r2 h) (fun n m w i => s_X9_relation r1 r2 i) (fun b j z => by unfold W_X9_relation at z; omega)
theorem jl_facts (h : JL M) : wp (mX8_facts 1 M) (fun q1 => wp (mX9_facts 126 q1.2) (fun q2 => JL q2.2)) :=
  J3.ux h.1 (X := fun m => CL (shp m) m) (fun n M1 M2 i c g => CL.f9 i c g) (j3_facts  h.1) (hx_of h.1 (s_X8_facts  h.1.1.1.1) (fun b j z => False.elim z)) (cl_of h (s_X8_facts  h.1.1.1.1) (fun b j z => False.elim z)) (fun n m w i => s_X9_facts  i) (fun b j z => by unfold W_X9_facts at z; omega)
theorem jl_tell {l1 l2 l3 l4 : Int} (r1 : (-2147483648) ≤ l1 ∧ l1 ≤ 2147483647) (r2 : (-2147483648) ≤ l2 ∧ l2 ≤ 2147483647) (r3 : (-2147483648) ≤ l3 ∧ l3 ≤ 2147483647) (r4 : 0 ≤ l4 ∧ l4 ≤ 1) (h : JL M) : wp (mX8_tell 1 l1 l2 l3 l4 M) (fun q1 => wp (mX9_tell 126 l1 l2 l3 l4 q1.2) (fun q2 => JL q2.2)) :=
  J3.ux h.1 (X := fun m => CL (shp m) m) (fun n M1 M2 i c g => CL.f9 i c g) (j3_tell r1 r2 r3 r4 h.1) (hx_of h.1 (s_X8_tell r1 r2 r3 r4 h.1.1.1.1) (fun b j z => by unfold W_X8_tell at z; omega)) (cl_of h (s_X8_tell r1 r2 r3 r4 h.1.1.1.1) (fun b j z => by unfold W_X8_tell at z; unfold NLC CLC; omega)) (fun n m w i => s_X9_tell r1 r2 r3 r4 i) (fun b j z => by unfold W_X9_tell at z; omega)
theorem jl_fact {l1 l2 l3 : Int} (r1 : (-2147483648) ≤ l1 ∧ l1 ≤ 2147483647) (r2 : (-2147483648) ≤ l2 ∧ l2 ≤ 2147483647) (r3 : (-2147483648) ≤ l3 ∧ l3 ≤ 2147483647) (h : JL M) : wp (mX8_fact 1 l1 l2 l3 M) (fun q1 => wp (mX9_fact 126 l1 l2 l3 q1.2) (fun q2 => JL q2.2)) :=
  J3.ux h.1 (X := fun m => CL (shp m) m) (fun n M1 M2 i c g => CL.f9 i c g) (j3_fact r1 r2 r3 h.1) (hx_of h.1 (s_X8_fact r1 r2 r3 h.1.1.1.1) (fun b j z => False.elim z)) (cl_of h (s_X8_fact r1 r2 r3 h.1.1.1.1) (fun b j z => False.elim z)) (fun n m w i => s_X9_fact r1 r2 r3 i) (fun b j z => by unfold W_X9_fact at z; omega)
theorem jl_known {l1 l2 l3 l4 : Int} (r1 : (-2147483648) ≤ l1 ∧ l1 ≤ 2147483647) (r2 : (-2147483648) ≤ l2 ∧ l2 ≤ 2147483647) (r3 : (-2147483648) ≤ l3 ∧ l3 ≤ 2147483647) (r4 : 0 ≤ l4 ∧ l4 ≤ 1) (h : JL M) : wp (mX8_known 1 l1 l2 l3 l4 M) (fun q1 => wp (mX9_known 126 l1 l2 l3 l4 q1.2) (fun q2 => JL q2.2)) :=
  J3.ux h.1 (X := fun m => CL (shp m) m) (fun n M1 M2 i c g => CL.f9 i c g) (j3_known r1 r2 r3 r4 h.1) (hx_of h.1 (s_X8_known r1 r2 r3 r4 h.1.1.1.1) (fun b j z => by unfold W_X8_known at z; omega)) (cl_of h (s_X8_known r1 r2 r3 r4 h.1.1.1.1) (fun b j z => by unfold W_X8_known at z; unfold NLC CLC; omega)) (fun n m w i => s_X9_known r1 r2 r3 r4 i) (fun b j z => by unfold W_X9_known at z; omega)
theorem jl_keep {l1 : Int} (r1 : (-2147483648) ≤ l1 ∧ l1 ≤ 2147483647) (h : JL M) : wp (mX8_keep 1 l1 M) (fun q1 => wp (mX9_keep 126 l1 q1.2) (fun q2 => JL q2.2)) :=
  J3.ux h.1 (X := fun m => CL (shp m) m) (fun n M1 M2 i c g => CL.f9 i c g) (j3_keep r1 h.1) (hx_of h.1 (s_X8_keep r1 h.1.1.1.1) (fun b j z => by unfold W_X8_keep at z; omega)) (cl_of h (s_X8_keep r1 h.1.1.1.1) (fun b j z => by unfold W_X8_keep at z; unfold NLC CLC; omega)) (fun n m w i => s_X9_keep r1 i) (fun b j z => by unfold W_X9_keep at z; omega)
theorem jl_apart {l1 : Int} (r1 : (-2147483648) ≤ l1 ∧ l1 ≤ 2147483647) (h : JL M) : wp (mX8_apart 1 l1 M) (fun q1 => wp (mX9_apart 126 l1 q1.2) (fun q2 => JL q2.2)) :=
  J3.ux h.1 (X := fun m => CL (shp m) m) (fun n M1 M2 i c g => CL.f9 i c g) (j3_apart r1 h.1) (hx_of h.1 (s_X8_apart r1 h.1.1.1.1) (fun b j z => by unfold W_X8_apart at z; omega)) (cl_of h (s_X8_apart r1 h.1.1.1.1) (fun b j z => by unfold W_X8_apart at z; unfold NLC CLC; omega)) (fun n m w i => s_X9_apart r1 i) (fun b j z => by unfold W_X9_apart at z; omega)
theorem jl_feed {l1 l2 l3 l4 l5 : Int} (r1 : (-2147483648) ≤ l1 ∧ l1 ≤ 2147483647) (r2 : (-2147483648) ≤ l2 ∧ l2 ≤ 2147483647) (r3 : (-2147483648) ≤ l3 ∧ l3 ≤ 2147483647) (r4 : (-2147483648) ≤ l4 ∧ l4 ≤ 2147483647) (r5 : (-2147483648) ≤ l5 ∧ l5 ≤ 2147483647) (h : JL M) : wp (mX8_feed 1 l1 l2 l3 l4 l5 M) (fun q1 => wp (mX9_feed 126 l1 l2 l3 l4 l5 q1.2) (fun q2 => JL q2.2)) :=
  J3.ux h.1 (X := fun m => CL (shp m) m) (fun n M1 M2 i c g => CL.f9 i c g) (j3_feed r1 r2 r3 r4 r5 h.1) (hx_of h.1 (s_X8_feed r1 r2 r3 r4 r5 h.1.1.1.1) (fun b j z => by unfold W_X8_feed at z; omega)) (cl_of h (s_X8_feed r1 r2 r3 r4 r5 h.1.1.1.1) (fun b j z => by unfold W_X8_feed at z; unfold NLC CLC; omega)) (fun n m w i => s_X9_feed r1 r2 r3 r4 r5 i) (fun b j z => by unfold W_X9_feed at z; omega)
theorem jl_end {l1 : Int} (r1 : (-2147483648) ≤ l1 ∧ l1 ≤ 2147483647) (h : JL M) : wp (mX8_end 1 l1 M) (fun q1 => wp (mX9_end 126 l1 q1.2) (fun q2 => JL q2.2)) :=
  J3.ux h.1 (X := fun m => CL (shp m) m) (fun n M1 M2 i c g => CL.f9 i c g) (j3_end r1 h.1) (hx_of h.1 (s_X8_end r1 h.1.1.1.1) (fun b j z => by unfold W_X8_end at z; omega)) (cl_of h (s_X8_end r1 h.1.1.1.1) (fun b j z => by unfold W_X8_end at z; unfold NLC CLC; omega)) (fun n m w i => s_X9_end r1 i) (fun b j z => by unfold W_X9_end at z; omega)
theorem jl_story (h : JL M) : wp (mX8_story 1 M) (fun q1 => wp (mX9_story 126 q1.2) (fun q2 => JL q2.2)) :=
  J3.ux h.1 (X := fun m => CL (shp m) m) (W9 := W_X9_story) (P9 := fun _ => True) (fun n M1 M2 i c g => CL.f9 i c g) (j3_story  h.1) (p_mono (p_wp (s_X8_story h.1.1.1.1)) (fun q y => by
    obtain ⟨⟨n, hn, i2, k2, _⟩, _⟩ := y
    exact ⟨⟨n, i2⟩, k2.f9 (by have := h.1.1.1.1.2.2.2.2.1; omega) (fun b j z => by unfold W_X8_story at z; omega)⟩)) (cl_story  h) (fun n m w i => w_mono (s_X9_story w i) (fun q z => ⟨z.1, z.2.1, True.intro⟩)) (fun b j z => by unfold W_X9_story at z; omega)
theorem jl_guess (h : JL M) : wp (mX8_guess 1 M) (fun q1 => wp (mX9_guess 126 q1.2) (fun q2 => JL q2.2)) :=
  J3.ux h.1 (X := fun m => CL (shp m) m) (W9 := W_X9_guess) (P9 := fun _ => True) (fun n M1 M2 i c g => CL.f9 i c g) (j3_guess  h.1) (p_mono (p_wp (s_X8_guess h.1.1.1.1)) (fun q y => by
    obtain ⟨⟨n, hn, i2, k2, _⟩, _⟩ := y
    exact ⟨⟨n, i2⟩, k2.f9 (by have := h.1.1.1.1.2.2.2.2.1; omega) (fun b j z => by unfold W_X8_guess at z; omega)⟩)) (cl_guess  h) (fun n m w i => w_mono (s_X9_guess w i) (fun q z => ⟨z.1, z.2.1, True.intro⟩)) (fun b j z => by unfold W_X9_guess at z; omega)
theorem jl_fault {l1 : Int} (r1 : (-2147483648) ≤ l1 ∧ l1 ≤ 2147483647) (h : JL M) : wp (mX8_fault 1 l1 M) (fun q1 => wp (mX9_fault 126 l1 q1.2) (fun q2 => JL q2.2)) :=
  J3.ux h.1 (X := fun m => CL (shp m) m) (fun n M1 M2 i c g => CL.f9 i c g) (j3_fault r1 h.1) (hx_of h.1 (s_X8_fault r1 h.1.1.1.1) (fun b j z => False.elim z)) (cl_of h (s_X8_fault r1 h.1.1.1.1) (fun b j z => False.elim z)) (fun n m w i => s_X9_fault r1 i) (fun b j z => by unfold W_X9_fault at z; omega)
theorem jl_strike {l1 : Int} (r1 : (-2147483648) ≤ l1 ∧ l1 ≤ 2147483647) (h : JL M) : wp (mX8_strike 1 l1 M) (fun q1 => wp (mX9_strike 126 l1 q1.2) (fun q2 => JL q2.2)) :=
  J3.ux h.1 (X := fun m => CL (shp m) m) (fun n M1 M2 i c g => CL.f9 i c g) (j3_strike r1 h.1) (hx_of h.1 (s_X8_strike r1 h.1.1.1.1) (fun b j z => by unfold W_X8_strike at z; omega)) (cl_of h (s_X8_strike r1 h.1.1.1.1) (fun b j z => by unfold W_X8_strike at z; unfold NLC CLC; omega)) (fun n m w i => s_X9_strike r1 i) (fun b j z => by unfold W_X9_strike at z; omega)
theorem jl_day {l1 : Int} (r1 : (-2147483648) ≤ l1 ∧ l1 ≤ 2147483647) (h : JL M) : wp (mX8_day 1 l1 M) (fun q1 => wp (mX9_day 126 l1 q1.2) (fun q2 => JL q2.2)) :=
  J3.ux h.1 (X := fun m => CL (shp m) m) (fun n M1 M2 i c g => CL.f9 i c g) (j3_day r1 h.1) (hx_of h.1 (s_X8_day r1 h.1.1.1.1) (fun b j z => by unfold W_X8_day at z; omega)) (cl_of h (s_X8_day r1 h.1.1.1.1) (fun b j z => by unfold W_X8_day at z; unfold NLC CLC; omega)) (fun n m w i => s_X9_day r1 i) (fun b j z => by unfold W_X9_day at z; omega)
theorem jl_view {l1 : Int} (r1 : (-2147483648) ≤ l1 ∧ l1 ≤ 2147483647) (h : JL M) : wp (mX8_view 1 l1 M) (fun q1 => wp (mX9_view 126 l1 q1.2) (fun q2 => JL q2.2)) :=
  J3.ux h.1 (X := fun m => CL (shp m) m) (fun n M1 M2 i c g => CL.f9 i c g) (j3_view r1 h.1) (hx_of h.1 (s_X8_view r1 h.1.1.1.1) (fun b j z => by unfold W_X8_view at z; omega)) (cl_of h (s_X8_view r1 h.1.1.1.1) (fun b j z => by unfold W_X8_view at z; unfold NLC CLC; omega)) (fun n m w i => s_X9_view r1 i) (fun b j z => by unfold W_X9_view at z; omega)
theorem jl_so {l1 : Int} (r1 : (-2147483648) ≤ l1 ∧ l1 ≤ 2147483647) (h : JL M) : wp (mX8_so 1 l1 M) (fun q1 => wp (mX9_so 126 l1 q1.2) (fun q2 => JL q2.2)) :=
  J3.ux h.1 (X := fun m => CL (shp m) m) (fun n M1 M2 i c g => CL.f9 i c g) (j3_so r1 h.1) (hx_of h.1 (s_X8_so r1 h.1.1.1.1) (fun b j z => by unfold W_X8_so at z; omega)) (cl_of h (s_X8_so r1 h.1.1.1.1) (fun b j z => by unfold W_X8_so at z; unfold NLC CLC; omega)) (fun n m w i => s_X9_so r1 w i) (fun b j z => by unfold W_X9_so at z; omega)
theorem jl_breaks {l1 l2 : Int} (r1 : (-2147483648) ≤ l1 ∧ l1 ≤ 2147483647) (r2 : (-2147483648) ≤ l2 ∧ l2 ≤ 2147483647) (h : JL M) : wp (mX8_breaks 1 l1 l2 M) (fun q1 => wp (mX9_breaks 126 l1 l2 q1.2) (fun q2 => JL q2.2)) :=
  J3.ux h.1 (X := fun m => CL (shp m) m) (fun n M1 M2 i c g => CL.f9 i c g) (j3_breaks r1 r2 h.1) (hx_of h.1 (s_X8_breaks r1 r2 h.1.1.1.1) (fun b j z => by unfold W_X8_breaks at z; omega)) (cl_of h (s_X8_breaks r1 r2 h.1.1.1.1) (fun b j z => by unfold W_X8_breaks at z; unfold NLC CLC; omega)) (fun n m w i => s_X9_breaks r1 r2 w i) (fun b j z => by unfold W_X9_breaks at z; omega)
theorem jl_worlds (h : JL M) : wp (mX8_worlds 1 M) (fun q1 => wp (mX9_worlds 126 q1.2) (fun q2 => JL q2.2)) :=
  J3.ux h.1 (X := fun m => CL (shp m) m) (fun n M1 M2 i c g => CL.f9 i c g) (j3_worlds  h.1) (hx_of h.1 (s_X8_worlds  h.1.1.1.1) (fun b j z => by unfold W_X8_worlds at z; unfold isWS at z; omega)) (cl_of h (s_X8_worlds  h.1.1.1.1) (fun b j z => by unfold W_X8_worlds at z; unfold isWS at z; unfold NLC CLC; omega)) (fun n m w i => s_X9_worlds  w i) (fun b j z => by unfold W_X9_worlds at z; omega)
theorem jl_forms (h : JL M) : wp (mX8_forms 1 M) (fun q1 => wp (mX9_forms 126 q1.2) (fun q2 => JL q2.2)) :=
  J3.ux h.1 (X := fun m => CL (shp m) m) (fun n M1 M2 i c g => CL.f9 i c g) (j3_forms  h.1) (hx_of h.1 (s_X8_forms  h.1.1.1.1) (fun b j z => by unfold W_X8_forms at z; unfold isWS at z; omega)) (cl_of h (s_X8_forms  h.1.1.1.1) (fun b j z => by unfold W_X8_forms at z; unfold isWS at z; unfold NLC CLC; omega)) (fun n m w i => s_X9_forms  w i) (fun b j z => by unfold W_X9_forms at z; omega)
theorem jl_form {l1 : Int} (r1 : (-2147483648) ≤ l1 ∧ l1 ≤ 2147483647) (h : JL M) : wp (mX8_form 1 l1 M) (fun q1 => wp (mX9_form 126 l1 q1.2) (fun q2 => JL q2.2)) :=
  J3.ux h.1 (X := fun m => CL (shp m) m) (fun n M1 M2 i c g => CL.f9 i c g) (j3_form r1 h.1) (hx_of h.1 (s_X8_form r1 h.1.1.1.1) (fun b j z => by unfold W_X8_form at z; unfold isWS at z; omega)) (cl_of h (s_X8_form r1 h.1.1.1.1) (fun b j z => by unfold W_X8_form at z; unfold isWS at z; unfold NLC CLC; omega)) (fun n m w i => s_X9_form r1 w i) (fun b j z => by unfold W_X9_form at z; omega)
theorem jl_name (h : JL M) : wp (mX8_name 1 M) (fun q1 => wp (mX9_name 126 q1.2) (fun q2 => JL q2.2)) :=
  J3.ux h.1 (X := fun m => CL (shp m) m) (fun n M1 M2 i c g => CL.f9 i c g) (j3_name  h.1) (hx_of h.1 (s_X8_name  h.1.1.1.1) (fun b j z => by unfold W_X8_name at z; omega)) (cl_of h (s_X8_name  h.1.1.1.1) (fun b j z => by unfold W_X8_name at z; unfold NLC CLC; omega)) (fun n m w i => s_X9_name  i) (fun b j z => by unfold W_X9_name at z; omega)
theorem jl_least {l1 : Int} (r1 : (-2147483648) ≤ l1 ∧ l1 ≤ 2147483647) (h : JL M) : wp (mX8_least 1 l1 M) (fun q1 => wp (mX9_least 126 l1 q1.2) (fun q2 => JL q2.2)) :=
  J3.ux h.1 (X := fun m => CL (shp m) m) (fun n M1 M2 i c g => CL.f9 i c g) (j3_least r1 h.1) (hx_of h.1 (s_X8_least r1 h.1.1.1.1) (fun b j z => by unfold W_X8_least at z; omega)) (cl_least  h) (fun n m w i => s_X9_least r1 w i) (fun b j z => by unfold W_X9_least at z; omega)
theorem jl_core {l1 : Int} (r1 : (-2147483648) ≤ l1 ∧ l1 ≤ 2147483647) (h : JL M) : wp (mX8_core 1 l1 M) (fun q1 => wp (mX9_core 126 l1 q1.2) (fun q2 => JL q2.2)) :=
  J3.ux h.1 (X := fun m => CL (shp m) m) (fun n M1 M2 i c g => CL.f9 i c g) (j3_core r1 h.1) (hx_of h.1 (s_X8_core r1 h.1.1.1.1) (fun b j z => by unfold W_X8_core at z; unfold isWS at z; omega)) (cl_of h (s_X8_core r1 h.1.1.1.1) (fun b j z => by unfold W_X8_core at z; unfold isWS at z; unfold NLC CLC; omega)) (fun n m w i => s_X9_core r1 w i) (fun b j z => by unfold W_X9_core at z; omega)
theorem jl_sure {l1 l2 l3 : Int} (r1 : (-2147483648) ≤ l1 ∧ l1 ≤ 2147483647) (r2 : (-2147483648) ≤ l2 ∧ l2 ≤ 2147483647) (r3 : (-2147483648) ≤ l3 ∧ l3 ≤ 2147483647) (h : JL M) : wp (mX8_sure 1 l1 l2 l3 M) (fun q1 => wp (mX9_sure 126 l1 l2 l3 q1.2) (fun q2 => JL q2.2)) :=
  J3.ux h.1 (X := fun m => CL (shp m) m) (fun n M1 M2 i c g => CL.f9 i c g) (j3_sure r1 r2 r3 h.1) (hx_of h.1 (s_X8_sure r1 r2 r3 h.1.1.1.1) (fun b j z => by unfold W_X8_sure at z; unfold isWS at z; omega)) (cl_of h (s_X8_sure r1 r2 r3 h.1.1.1.1) (fun b j z => by unfold W_X8_sure at z; unfold isWS at z; unfold NLC CLC; omega)) (fun n m w i => s_X9_sure r1 r2 r3 w i) (fun b j z => by unfold W_X9_sure at z; omega)
theorem jl_cause {l1 l2 l3 l4 : Int} (r1 : (-2147483648) ≤ l1 ∧ l1 ≤ 2147483647) (r2 : (-2147483648) ≤ l2 ∧ l2 ≤ 2147483647) (r3 : (-2147483648) ≤ l3 ∧ l3 ≤ 2147483647) (r4 : (-2147483648) ≤ l4 ∧ l4 ≤ 2147483647) (h : JL M) : wp (mX8_cause 1 l1 l2 l3 l4 M) (fun q1 => wp (mX9_cause 126 l1 l2 l3 l4 q1.2) (fun q2 => JL q2.2)) :=
  J3.ux h.1 (X := fun m => CL (shp m) m) (fun n M1 M2 i c g => CL.f9 i c g) (j3_cause r1 r2 r3 r4 h.1) (hx_of h.1 (s_X8_cause r1 r2 r3 r4 h.1.1.1.1) (fun b j z => by unfold W_X8_cause at z; unfold isWS at z; omega)) (cl_of h (s_X8_cause r1 r2 r3 r4 h.1.1.1.1) (fun b j z => by unfold W_X8_cause at z; unfold isWS at z; unfold NLC CLC; omega)) (fun n m w i => s_X9_cause r1 r2 r3 r4 w i) (fun b j z => by unfold W_X9_cause at z; omega)
theorem jl_without {l1 : Int} (r1 : (-2147483648) ≤ l1 ∧ l1 ≤ 2147483647) (h : JL M) : wp (mX8_without 1 l1 M) (fun q1 => wp (mX9_without 126 l1 q1.2) (fun q2 => JL q2.2)) :=
  J3.ux h.1 (X := fun m => CL (shp m) m) (fun n M1 M2 i c g => CL.f9 i c g) (j3_without r1 h.1) (hx_of h.1 (s_X8_without r1 h.1.1.1.1) (fun b j z => by unfold W_X8_without at z; unfold isWS at z; omega)) (cl_of h (s_X8_without r1 h.1.1.1.1) (fun b j z => by unfold W_X8_without at z; unfold isWS at z; unfold NLC CLC; omega)) (fun n m w i => s_X9_without r1 w i) (fun b j z => by unfold W_X9_without at z; omega)
theorem jl_questions (h : JL M) : wp (mX8_questions 1 M) (fun q1 => wp (mX9_questions 126 q1.2) (fun q2 => JL q2.2)) :=
  J3.ux h.1 (X := fun m => CL (shp m) m) (fun n M1 M2 i c g => CL.f9 i c g) (j3_questions  h.1) (hx_of h.1 (s_X8_questions  h.1.1.1.1) (fun b j z => by unfold W_X8_questions at z; unfold isWS at z; omega)) (cl_of h (s_X8_questions  h.1.1.1.1) (fun b j z => by unfold W_X8_questions at z; unfold isWS at z; unfold NLC CLC; omega)) (fun n m w i => s_X9_questions  w i) (fun b j z => by unfold W_X9_questions at z; omega)
theorem jl_settle {l1 : Int} (r1 : (-2147483648) ≤ l1 ∧ l1 ≤ 2147483647) (h : JL M) : wp (mX8_settle 1 l1 M) (fun q1 => wp (mX9_settle 126 l1 q1.2) (fun q2 => JL q2.2)) :=
  J3.ux h.1 (X := fun m => CL (shp m) m) (fun n M1 M2 i c g => CL.f9 i c g) (j3_settle r1 h.1) (hx_of h.1 (s_X8_settle r1 h.1.1.1.1) (fun b j z => by unfold W_X8_settle at z; unfold isWS at z; omega)) (cl_of h (s_X8_settle r1 h.1.1.1.1) (fun b j z => by unfold W_X8_settle at z; unfold isWS at z; unfold NLC CLC; omega)) (fun n m w i => s_X9_settle r1 w i) (fun b j z => by unfold W_X9_settle at z; omega)
theorem jl_near (h : JL M) : wp (mX8_near 1 M) (fun q1 => wp (mX9_near 126 q1.2) (fun q2 => JL q2.2)) :=
  J3.ux h.1 (X := fun m => CL (shp m) m) (fun n M1 M2 i c g => CL.f9 i c g) (j3_near  h.1) (hx_of h.1 (s_X8_near  h.1.1.1.1) (fun b j z => by unfold W_X8_near at z; unfold isWS at z; omega)) (cl_of h (s_X8_near  h.1.1.1.1) (fun b j z => by unfold W_X8_near at z; unfold isWS at z; unfold NLC CLC; omega)) (fun n m w i => s_X9_near  w i) (fun b j z => by unfold W_X9_near at z; omega)
theorem jl_holds {l1 : Int} (r1 : (-2147483648) ≤ l1 ∧ l1 ≤ 2147483647) (h : JL M) : wp (mX8_holds 1 l1 M) (fun q1 => wp (mX9_holds 126 l1 q1.2) (fun q2 => JL q2.2)) :=
  J3.ux h.1 (X := fun m => CL (shp m) m) (fun n M1 M2 i c g => CL.f9 i c g) (j3_holds r1 h.1) (hx_of h.1 (s_X8_holds r1 h.1.1.1.1) (fun b j z => by unfold W_X8_holds at z; unfold isWS at z; omega)) (cl_of h (s_X8_holds r1 h.1.1.1.1) (fun b j z => by unfold W_X8_holds at z; unfold isWS at z; unfold NLC CLC; omega)) (fun n m w i => s_X9_holds r1 w i) (fun b j z => by unfold W_X9_holds at z; omega)
theorem jl_against (h : JL M) : wp (mX8_against 1 M) (fun q1 => wp (mX9_against 126 q1.2) (fun q2 => JL q2.2)) :=
  J3.ux h.1 (X := fun m => CL (shp m) m) (fun n M1 M2 i c g => CL.f9 i c g) (j3_against  h.1) (hx_of h.1 (s_X8_against  h.1.1.1.1) (fun b j z => by unfold W_X8_against at z; unfold isWS at z; omega)) (cl_of h (s_X8_against  h.1.1.1.1) (fun b j z => by unfold W_X8_against at z; unfold isWS at z; unfold NLC CLC; omega)) (fun n m w i => s_X9_against  w i) (fun b j z => by unfold W_X9_against at z; omega)
theorem jl_many {l1 : Int} (r1 : (-2147483648) ≤ l1 ∧ l1 ≤ 2147483647) (h : JL M) : wp (mX8_many 1 l1 M) (fun q1 => wp (mX9_many 126 l1 q1.2) (fun q2 => JL q2.2)) :=
  J3.ux h.1 (X := fun m => CL (shp m) m) (fun n M1 M2 i c g => CL.f9 i c g) (j3_many r1 h.1) (hx_of h.1 (s_X8_many r1 h.1.1.1.1) (fun b j z => False.elim z)) (cl_of h (s_X8_many r1 h.1.1.1.1) (fun b j z => False.elim z)) (fun n m w i => s_X9_many r1 i) (fun b j z => by unfold W_X9_many at z; omega)
theorem jl_image {l1 : Int} (r1 : (-2147483648) ≤ l1 ∧ l1 ≤ 2147483647) (h : JL M) : wp (mX8_image 1 l1 M) (fun q1 => wp (mX9_image 126 l1 q1.2) (fun q2 => JL q2.2)) :=
  J3.ux h.1 (X := fun m => CL (shp m) m) (fun n M1 M2 i c g => CL.f9 i c g) (j3_image r1 h.1) (hx_of h.1 (s_X8_image r1 h.1.1.1.1) w8_image) (cl_image  h) (fun n m w i => s_X9_image i w) (fun b j z => by unfold W_X9_image at z; omega)
theorem jl_again {l1 : Int} (r1 : (-2147483648) ≤ l1 ∧ l1 ≤ 2147483647) (h : JL M) : wp (mX8_again 1 l1 M) (fun q1 => wp (mX9_again 126 l1 q1.2) (fun q2 => JL q2.2)) :=
  J3.ux h.1 (X := fun m => CL (shp m) m) (fun n M1 M2 i c g => CL.f9 i c g) (j3_again r1 h.1) (hx_of h.1 (s_X8_again r1 h.1.1.1.1) (fun b j z => by unfold W_X8_again at z; omega)) (cl_again  h) (fun n m w i => s_X9_again i w) (fun b j z => by unfold W_X9_again at z; omega)
end
theorem jl_leastE {M : Mem} {l1 : Int} (r1 : (-2147483648) ≤ l1 ∧ l1 ≤ 2147483647) (h : JL M) : wp (mX8_least 1 l1 M) (fun q1 => wp (mX9_least 126 l1 q1.2) (fun q2 => JL q2.2 ∧ EQ q1 q2)) := w_and3 (M := M) (jl_least r1 h) (eq_least h)
end
section
/-! ===== worlds by other numbers ===== -/
def REN (s : Int) (σ τ : Int → Int) : Prop := ∀ i : Int, 0 ≤ i → i < s → (0 ≤ σ i ∧ σ i < s ∧ τ (σ i) = i) ∧ (0 ≤ τ i ∧ τ i < s ∧ σ (τ i) = i)
theorem REN.symm {s : Int} {σ τ : Int → Int} (h : REN s σ τ) : REN s τ σ := fun i i0 i1 => ⟨(h i i0 i1).2, (h i i0 i1).1⟩
theorem REN.tr {s : Int} {σ τ σ' τ' : Int → Int} (h : REN s σ τ) (k : REN s σ' τ') : REN s (fun i => σ' (σ i)) (fun i => τ (τ' i)) := fun i i0 i1 => by
  obtain ⟨⟨a1, a2, a3⟩, _⟩ := h i i0 i1
  obtain ⟨⟨b1, b2, b3⟩, _⟩ := k (σ i) a1 a2
  obtain ⟨_, c1, c2, c3⟩ := k i i0 i1
  obtain ⟨_, d1, d2, d3⟩ := h (τ' i) c1 c2
  refine ⟨⟨b1, b2, ?_⟩, d1, d2, ?_⟩
  · show τ (τ' (σ' (σ i))) = i
    rw [b3, a3]
  · show σ' (σ (τ (τ' i))) = i
    rw [d3, c3]
/-- x is w by other numbers -/
def IM (S : SH) (n : Nat) (w x : Nat) : Prop := w < 2 ^ n ∧ x < 2 ^ n ∧ ∃ σ τ : Int → Int → Int, (∀ k : Int, 0 ≤ k → k < 3 → REN (S.sz k) (σ k) (τ k)) ∧ ∀ r i j : Int, 0 ≤ r → r < S.nr → S.inr r i j → phw (n : Int) x (S.at' r (σ (S.k1 r) i) (σ (S.k2 r) j)) = phw (n : Int) w (S.at' r i j)
section
variable {S : SH} {n w x y : Nat}
theorem at_col {r i j j' : Int} (h : S.col r j = S.col r j') : S.at' r i j = S.at' r i j' := by
  unfold SH.at'
  rw [h]
theorem ren_in (ok : S.ok) {σ τ : Int → Int → Int} (hr : ∀ k : Int, 0 ≤ k → k < 3 → REN (S.sz k) (σ k) (τ k)) {r i j : Int} (r0 : 0 ≤ r) (r1 : r < S.nr) (h : S.inr r i j) : S.inr r (σ (S.k1 r) i) (σ (S.k2 r) j) ∧ τ (S.k1 r) (σ (S.k1 r) i) = i ∧ S.col r (τ (S.k2 r) (σ (S.k2 r) j)) = S.col r j := by
  obtain ⟨k1, k2⟩ := ok.2.2 r r0 r1
  have z1 : S.zv (S.k1 r) = S.sz (S.k1 r) := by unfold SH.zv; rw [if_neg (by omega)]
  obtain ⟨⟨h1, h2⟩, h3, h4⟩ := h
  rw [z1] at h2
  obtain ⟨⟨a1, a2, a3⟩, _⟩ := hr (S.k1 r) k1.1 (by omega) i h1 h2
  by_cases e : S.k2 r = -1
  · have c : ∀ j', S.col r j' = 0 := fun j' => by unfold SH.col; rw [if_pos e]
    have z2 : S.zv (S.k2 r) = 1 := by unfold SH.zv; rw [if_pos e]
    refine ⟨⟨⟨a1, by rw [z1]; exact a2⟩, by rw [c]; exact ⟨by decide, by rw [z2]; decide⟩⟩, a3, by rw [c, c]⟩
  · have c : ∀ j', S.col r j' = j' := fun j' => by unfold SH.col; rw [if_neg e]
    have z2 : S.zv (S.k2 r) = S.sz (S.k2 r) := by unfold SH.zv; rw [if_neg e]
    rw [c] at h3 h4
    rw [z2] at h4
    obtain ⟨⟨b1, b2, b3⟩, _⟩ := hr (S.k2 r) (by omega) (by omega) j h3 h4
    refine ⟨⟨⟨a1, by rw [z1]; exact a2⟩, by rw [c, z2]; exact ⟨b1, b2⟩⟩, a3, by rw [c, c, b3]⟩
theorem IM.rf (h : w < 2 ^ n) : IM S n w w := ⟨h, h, fun _ i => i, fun _ i => i, fun k _ _ i i0 i1 => ⟨⟨i0, i1, rfl⟩, i0, i1, rfl⟩, fun _ _ _ _ _ _ => rfl⟩
theorem IM.symm (ok : S.ok) (h : IM S n w x) : IM S n x w := by
  obtain ⟨a, b, σ, τ, hr, hf⟩ := h
  refine ⟨b, a, τ, σ, fun k k0 k1 => (hr k k0 k1).symm, fun r i j r0 r1 hi => ?_⟩
  obtain ⟨c1, c2, c3⟩ := ren_in ok (fun k k0 k1 => (hr k k0 k1).symm) r0 r1 hi
  have := hf r _ _ r0 r1 c1
  rw [c2, at_col c3] at this
  exact this.symm
theorem IM.tr (ok : S.ok) (h : IM S n w x) (k : IM S n x y) : IM S n w y := by
  obtain ⟨a, b, σ, τ, hr, hf⟩ := h
  obtain ⟨_, b', σ', τ', hr', hf'⟩ := k
  refine ⟨a, b', fun k i => σ' k (σ k i), fun k i => τ k (τ' k i), fun k k0 k1 => (hr k k0 k1).tr (hr' k k0 k1), fun r i j r0 r1 hi => ?_⟩
  obtain ⟨c1, _, _⟩ := ren_in ok hr r0 r1 hi
  exact (hf' r _ _ r0 r1 c1).trans (hf r i j r0 r1 hi)
/-- the least of all that w is by other numbers -/
def ISL (S : SH) (n w m : Nat) : Prop := IM S n w m ∧ ∀ x, IM S n w x → m ≤ x
theorem ISL.uniq {m m' : Nat} (h : ISL S n w m) (k : ISL S n w m') : m = m' := Nat.le_antisymm (h.2 m' k.1) (k.2 m h.1)
theorem ISL.self (ok : S.ok) {m : Nat} (h : ISL S n w m) : ISL S n m m := ⟨IM.rf h.1.2.1, fun x hx => h.2 x (h.1.tr ok hx)⟩
theorem ISL.ex (h : w < 2 ^ n) : ∃ m, ISL S n w m := by
  have : ∀ k : Nat, (∃ x, x < k ∧ IM S n w x) → ∃ m, ISL S n w m := by
    intro k
    induction k with
    | zero => rintro ⟨x, hx, _⟩; omega
    | succ k ih =>
      rintro ⟨x, hx, hi⟩
      by_cases c : ∃ y, y < k ∧ IM S n w y
      · exact ih c
      · refine ⟨x, hi, fun y hy => ?_⟩
        apply Classical.byContradiction
        intro hn
        exact c ⟨y, by omega, hy⟩
  exact this (w + 1) ⟨w, by omega, IM.rf h⟩
end
/-! the orders of both sides -/
def prF (o : Nat) : Int := ((o / 2 : Nat) : Int)
def prS (o : Nat) : Int := if o % 2 = 0 then (if prF o = 0 then 1 else 0) else (if prF o = 2 then 1 else 2)
def pr (o : Nat) (i : Int) : Int := if i = 0 then prF o else if i = 1 then prS o else 3 - prF o - prS o
def pc (o : Nat) (i : Int) : Int := [0, 1, 2, 1, 0, 2, 0, 2, 1, 1, 2, 0, 2, 0, 1, 2, 1, 0].getD (3 * (o : Int) + i).toNat 0
def isO (o : Nat) (s : Int) : Prop := ∀ i : Int, 0 ≤ i → i < 3 → (i < s → pr o i < s) ∧ (¬ i < s → pr o i = i)
def cmO (o : Nat) : Nat := [0, 2, 1, 3, 4, 5].getD o 0
def inO (o : Nat) : Nat := [0, 1, 2, 4, 3, 5].getD o 0
def nOr (s : Int) : Nat := if s = 1 then 1 else if s = 2 then 2 else 6
theorem pr_pc : ∀ o : Nat, o < 6 → ∀ i : Nat, i < 3 → pr o (i : Int) = pc (cmO o) (i : Int) ∧ pc o (i : Int) = pr (cmO o) (i : Int) ∧ cmO o < 6 := by decide +kernel
theorem pr_inv : ∀ o : Nat, o < 6 → ∀ i : Nat, i < 3 → (0 ≤ pr o (i : Int) ∧ pr o (i : Int) < 3) ∧ pr (inO o) (pr o (i : Int)) = (i : Int) ∧ pr o (pr (inO o) (i : Int)) = (i : Int) ∧ inO o < 6 := by decide +kernel
def isOb (o s : Nat) : Bool := decide (∀ i : Nat, i < 3 → (i < s → pr o (i : Int) < (s : Int)) ∧ (¬ i < s → pr o (i : Int) = (i : Int)))
theorem isO_b {o s : Nat} : isO o (s : Int) ↔ isOb o s = true := by
  unfold isOb isO
  rw [decide_eq_true_iff]
  constructor
  · intro h i hi
    obtain ⟨a, b⟩ := h (i : Int) (by omega) (by omega)
    exact ⟨fun c => a (by omega), fun c => b (by omega)⟩
  · intro h i i0 i1
    obtain ⟨k, rfl⟩ := Int.eq_ofNat_of_zero_le i0
    obtain ⟨a, b⟩ := h k (by omega)
    exact ⟨fun c => a (by omega), fun c => b (by omega)⟩
theorem isO_n : ∀ s : Nat, s < 4 → 0 < s → ∀ o : Nat, o < 6 → (isOb o s = decide (cmO o < nOr (s : Int))) ∧ isOb (inO o) s = isOb o s ∧ isOb (cmO o) s = decide (o < nOr (s : Int)) := by decide +kernel
/-- an order is a renumbering -/
theorem pr_ren {o s : Nat} (ho : o < 6) (hs : s < 4) (s0 : 0 < s) (h : isOb o s = true) : REN (s : Int) (pr o) (pr (inO o)) := fun i i0 i1 => by
  obtain ⟨k, rfl⟩ := Int.eq_ofNat_of_zero_le i0
  obtain ⟨a, b, c, d⟩ := pr_inv o ho k (by omega)
  obtain ⟨a', _, _, _⟩ := pr_inv (inO o) d k (by omega)
  have h1 := (isO_b.mpr h (k : Int) i0 (by omega)).1 i1
  have h2 := (isO_b.mpr ((isO_n s hs s0 o ho).2.1.trans h) (k : Int) i0 (by omega)).1 i1
  exact ⟨⟨a.1, h1, b⟩, a'.1, h2, c⟩
/-- a renumbering is an order -/
theorem ren_pr {s : Nat} {σ τ : Int → Int} (hs : s < 4) (s0 : 0 < s) (h : REN (s : Int) σ τ) : ∃ o, o < 6 ∧ isOb o s = true ∧ ∀ i : Int, 0 ≤ i → i < (s : Int) → pr o i = σ i := by
  have inj : ∀ i j : Int, 0 ≤ i → i < (s : Int) → 0 ≤ j → j < (s : Int) → σ i = σ j → i = j := fun i j i0 i1 j0 j1 e => by
    have a := (h i i0 i1).1.2.2
    have b := (h j j0 j1).1.2.2
    rw [e, b] at a
    exact a.symm
  have rg : ∀ i : Int, 0 ≤ i → i < (s : Int) → 0 ≤ σ i ∧ σ i < (s : Int) := fun i i0 i1 => ⟨(h i i0 i1).1.1, (h i i0 i1).1.2.1⟩
  have sc : s = 1 ∨ s = 2 ∨ s = 3 := by omega
  have three : ∀ o : Nat, o < 6 → isOb o s = true → σ 0 = pr o 0 → (1 < s → σ 1 = pr o 1) → (2 < s → σ 2 = pr o 2) → ∃ o, o < 6 ∧ isOb o s = true ∧ ∀ i : Int, 0 ≤ i → i < (s : Int) → pr o i = σ i := fun o ho hi e0 e1 e2 => ⟨o, ho, hi, fun i i0 i1 => by
    have : i = 0 ∨ i = 1 ∨ i = 2 := by omega
    rcases this with e | e | e
    · rw [e, e0]
    · rw [e, e1 (by omega)]
    · rw [e, e2 (by omega)]⟩
  rcases sc with e | e | e
  · subst e
    have r0 := rg 0 (by decide) (by decide)
    exact three 0 (by decide) (by decide +kernel) (by show σ 0 = 0; omega) (fun c => by omega) (fun c => by omega)
  · subst e
    have r0 := rg 0 (by decide) (by decide)
    have r1 := rg 1 (by decide) (by decide)
    have d : ¬ σ 0 = σ 1 := fun c => by have := inj 0 1 (by decide) (by decide) (by decide) (by decide) c; omega
    by_cases c : σ 0 = 0
    · exact three 0 (by decide) (by decide +kernel) (by show σ 0 = 0; omega) (fun _ => by show σ 1 = 1; omega) (fun c => by omega)
    · exact three 2 (by decide) (by decide +kernel) (by show σ 0 = 1; omega) (fun _ => by show σ 1 = 0; omega) (fun c => by omega)
  · subst e
    have r0 := rg 0 (by decide) (by decide)
    have r1 := rg 1 (by decide) (by decide)
    have r2 := rg 2 (by decide) (by decide)
    have d : ¬ σ 0 = σ 1 := fun c => by have := inj 0 1 (by decide) (by decide) (by decide) (by decide) c; omega
    have d2 : ¬ σ 0 = σ 2 := fun c => by have := inj 0 2 (by decide) (by decide) (by decide) (by decide) c; omega
    have d3 : ¬ σ 1 = σ 2 := fun c => by have := inj 1 2 (by decide) (by decide) (by decide) (by decide) c; omega
    have six : (σ 0 = 0 ∧ σ 1 = 1 ∧ σ 2 = 2) ∨ (σ 0 = 0 ∧ σ 1 = 2 ∧ σ 2 = 1) ∨ (σ 0 = 1 ∧ σ 1 = 0 ∧ σ 2 = 2) ∨ (σ 0 = 1 ∧ σ 1 = 2 ∧ σ 2 = 0) ∨ (σ 0 = 2 ∧ σ 1 = 0 ∧ σ 2 = 1) ∨ (σ 0 = 2 ∧ σ 1 = 1 ∧ σ 2 = 0) := by omega
    rcases six with ⟨a, b, c⟩ | ⟨a, b, c⟩ | ⟨a, b, c⟩ | ⟨a, b, c⟩ | ⟨a, b, c⟩ | ⟨a, b, c⟩
    · exact three 0 (by decide) (by decide +kernel) a (fun _ => b) (fun _ => c)
    · exact three 1 (by decide) (by decide +kernel) a (fun _ => b) (fun _ => c)
    · exact three 2 (by decide) (by decide +kernel) a (fun _ => b) (fun _ => c)
    · exact three 3 (by decide) (by decide +kernel) a (fun _ => b) (fun _ => c)
    · exact three 4 (by decide) (by decide +kernel) a (fun _ => b) (fun _ => c)
    · exact three 5 (by decide) (by decide +kernel) a (fun _ => b) (fun _ => c)
end
section
/-! ===== the number of a world by other numbers ===== -/
def orN (g : Nat → Nat) : Nat → Nat
  | 0 => 0
  | k + 1 => orN g k ||| g k
theorem orN_b (g : Nat → Nat) (b : Nat) : ∀ k : Nat, (orN g k).testBit b = true ↔ ∃ p, p < k ∧ (g p).testBit b = true := by
  intro k
  induction k with
  | zero =>
    show (0 : Nat).testBit b = true ↔ _
    rw [Nat.zero_testBit]
    exact ⟨fun h => absurd h (by decide), fun ⟨p, hp, _⟩ => absurd hp (by omega)⟩
  | succ k ih =>
    show (orN g k ||| g k).testBit b = true ↔ _
    rw [Nat.testBit_or, Bool.or_eq_true, ih]
    constructor
    · rintro (⟨p, p1, p2⟩ | h)
      · exact ⟨p, by omega, p2⟩
      · exact ⟨k, by omega, h⟩
    · rintro ⟨p, p1, p2⟩
      by_cases e : p = k
      · rw [e] at p2; exact Or.inr p2
      · exact Or.inl ⟨p, by omega, p2⟩
theorem orN_lt {g : Nat → Nat} {n : Nat} (h : ∀ p, g p < 2 ^ n) : ∀ k : Nat, orN g k < 2 ^ n := by
  intro k
  induction k with
  | zero => exact Nat.two_pow_pos n
  | succ k ih => exact Nat.or_lt_two_pow ih (h k)
section
variable {S : SH} {n : Nat}
/-- every place is a fact's -/
theorem pl_ex (ok : S.ok) {p : Nat} (hp : (p : Int) < S.nf) : ∃ r i j : Int, (0 ≤ r ∧ r < S.nr) ∧ S.inr r i j ∧ S.at' r i j = (p : Int) := by
  obtain ⟨r, h1, h2, h3⟩ := rAt_ex (S := S) (p := p) S.nr.toNat (by have := ok.2.1; omega) hp
  have z2 := zv_c ok (r := (r : Int)) (by omega) h1
  have st1 : S.st (r + 1) = S.st r + S.zv (S.k1 r) * S.zv (S.k2 r) := rfl
  rw [st1] at h3
  refine ⟨(r : Int), ((p : Int) - S.st r) / S.zv (S.k2 r), ((p : Int) - S.st r) % S.zv (S.k2 r), ⟨by omega, h1⟩, ?_, ?_⟩
  · have c : S.col r (((p : Int) - S.st r) % S.zv (S.k2 r)) = ((p : Int) - S.st r) % S.zv (S.k2 r) := by
      unfold SH.col
      by_cases e : S.k2 r = -1
      · have z : S.zv (S.k2 r) = 1 := by unfold SH.zv; rw [if_pos e]
        rw [if_pos e, z]; omega
      · rw [if_neg e]
    refine ⟨?_, ?_⟩
    · generalize S.zv (S.k2 r) = z at *
      rcases z2 with z2 | z2 | z2 <;> subst z2 <;> constructor <;> omega
    · rw [c]
      generalize S.zv (S.k2 r) = z at *
      rcases z2 with z2 | z2 | z2 <;> subst z2 <;> constructor <;> omega
  · unfold SH.at'
    have c : S.col r (((p : Int) - S.st r) % S.zv (S.k2 r)) = ((p : Int) - S.st r) % S.zv (S.k2 r) := by
      unfold SH.col
      by_cases e : S.k2 r = -1
      · have z : S.zv (S.k2 r) = 1 := by unfold SH.zv; rw [if_pos e]
        rw [if_pos e, z]; omega
      · rw [if_neg e]
    rw [c, Int.toNat_natCast]
    generalize S.zv (S.k2 r) = z at *
    rcases z2 with z2 | z2 | z2 <;> subst z2 <;> omega
/-- where a place goes -/
noncomputable def tpp (S : SH) (f : Int → Int → Int) (p : Int) : Int :=
  @dite Int (∃ t : Int × Int × Int, ((0 ≤ t.1 ∧ t.1 < S.nr) ∧ S.inr t.1 t.2.1 t.2.2) ∧ S.at' t.1 t.2.1 t.2.2 = p) (Classical.propDecidable _) (fun h => S.at' (Classical.choose h).1 (f (S.k1 (Classical.choose h).1) (Classical.choose h).2.1) (f (S.k2 (Classical.choose h).1) (Classical.choose h).2.2)) (fun _ => 0)
theorem tpp_at (ok : S.ok) {f : Int → Int → Int} {r i j : Int} (r0 : 0 ≤ r) (r1 : r < S.nr) (hi : S.inr r i j) : tpp S f (S.at' r i j) = S.at' r (f (S.k1 r) i) (f (S.k2 r) j) := by
  have h : ∃ t : Int × Int × Int, ((0 ≤ t.1 ∧ t.1 < S.nr) ∧ S.inr t.1 t.2.1 t.2.2) ∧ S.at' t.1 t.2.1 t.2.2 = S.at' r i j := ⟨(r, i, j), ⟨⟨r0, r1⟩, hi⟩, rfl⟩
  unfold tpp
  rw [dif_pos h]
  obtain ⟨⟨c1, c2⟩, c3⟩ := Classical.choose_spec h
  obtain ⟨e1, e2, e3⟩ := at_inj ok c1.1 c1.2 r0 r1 c2 hi c3
  generalize Classical.choose h = t at *
  obtain ⟨r', i', j'⟩ := t
  replace e1 : r' = r := e1
  replace e2 : i' = i := e2
  replace e3 : S.col r' j' = S.col r' j := e3
  subst e1; subst e2
  show S.at' r' (f (S.k1 r') i') (f (S.k2 r') j') = S.at' r' (f (S.k1 r') i') (f (S.k2 r') j)
  refine at_col ?_
  unfold SH.col at e3 ⊢
  by_cases e : S.k2 r' = -1
  · rw [if_pos e, if_pos e]
  · rw [if_neg e, if_neg e] at e3 ⊢
    rw [e3]
/-- the facts of x are those of w, renumbered -/
def IMf (S : SH) (n : Nat) (f : Int → Int → Int) (w x : Nat) : Prop := x < 2 ^ n ∧ ∀ r i j : Int, 0 ≤ r → r < S.nr → S.inr r i j → phw (n : Int) x (S.at' r (f (S.k1 r) i) (f (S.k2 r) j)) = phw (n : Int) w (S.at' r i j)
noncomputable def gim (S : SH) (n : Nat) (f : Int → Int → Int) (w p : Nat) : Nat := if w.testBit (n - 1 - p) = true then 2 ^ (n - 1 - (tpp S f (p : Int)).toNat) else 0
/-- the number of the image -/
noncomputable def imN (S : SH) (n : Nat) (f : Int → Int → Int) (w : Nat) : Nat := orN (gim S n f w) n
theorem imN_f (ok : S.ok) (hn : S.nf = (n : Int)) {f g : Int → Int → Int} (hr : ∀ k : Int, 0 ≤ k → k < 3 → REN (S.sz k) (f k) (g k)) (w : Nat) : IMf S n f w (imN S n f w) := by
  have gl : ∀ p, p < n → gim S n f w p < 2 ^ n := fun p hp => by
    unfold gim
    by_cases e : w.testBit (n - 1 - p) = true
    · rw [if_pos e]
      exact Nat.pow_lt_pow_right (by decide) (by omega)
    · rw [if_neg e]
      exact Nat.two_pow_pos n
  have lt : ∀ k, k ≤ n → orN (gim S n f w) k < 2 ^ n := by
    intro k
    induction k with
    | zero => intro _; exact Nat.two_pow_pos n
    | succ k ih => intro hk; exact Nat.or_lt_two_pow (ih (by omega)) (gl k (by omega))
  refine ⟨lt n (Nat.le_refl n), fun r i j r0 r1 hi => ?_⟩
  obtain ⟨c1, c2, c3⟩ := ren_in ok hr r0 r1 hi
  have pos := ok.pos r0 r1 hi
  have pos2 := ok.pos r0 r1 c1
  have s9 := ok.st9 r0 r1
  obtain ⟨p, hp⟩ := Int.eq_ofNat_of_zero_le (show 0 ≤ S.at' r i j by omega)
  obtain ⟨q, hq⟩ := Int.eq_ofNat_of_zero_le (show 0 ≤ S.at' r (f (S.k1 r) i) (f (S.k2 r) j) by omega)
  have tp := tpp_at (f := f) ok r0 r1 hi
  rw [hp, hq] at tp
  rw [hp, hq]
  unfold phw
  rw [show ((n : Int) - 1 - (q : Int)).toNat = n - 1 - q by omega, show ((n : Int) - 1 - (p : Int)).toNat = n - 1 - p by omega]
  have key : (imN S n f w).testBit (n - 1 - q) = true ↔ w.testBit (n - 1 - p) = true := by
    unfold imN
    rw [orN_b]
    constructor
    · rintro ⟨p', h1, h2⟩
      unfold gim at h2
      by_cases e : w.testBit (n - 1 - p') = true
      · rw [if_pos e] at h2
        obtain ⟨r', i', j', ⟨a0, a1⟩, hi', ha⟩ := pl_ex ok (p := p') (by omega)
        have tp' := tpp_at (f := f) ok a0 a1 hi'
        rw [ha] at tp'
        obtain ⟨d1, d2, d3⟩ := ren_in ok hr a0 a1 hi'
        have pos3 := ok.pos a0 a1 d1
        have s9' := ok.st9 a0 a1
        have eb : n - 1 - (tpp S f (p' : Int)).toNat = n - 1 - q := by
          apply Classical.byContradiction
          intro hne
          rw [Nat.testBit_two_pow_of_ne hne] at h2
          cases h2
        have eq : S.at' r' (f (S.k1 r') i') (f (S.k2 r') j') = S.at' r (f (S.k1 r) i) (f (S.k2 r) j) := by
          rw [← tp', hq]
          rw [tp'] at eb ⊢
          omega
        obtain ⟨e1, e2, e3⟩ := at_inj ok a0 a1 r0 r1 d1 c1 eq
        subst e1
        have ei : i' = i := by rw [← d2, ← c2, e2]
        have ec : S.col r' j' = S.col r' j := by
          rw [← d3, ← c3]
          unfold SH.col at e3 ⊢
          by_cases z : S.k2 r' = -1
          · rw [if_pos z, if_pos z]
          · rw [if_neg z, if_neg z] at e3 ⊢
            rw [e3]
        subst ei
        have : S.at' r' i' j' = S.at' r' i' j := at_col ec
        rw [ha, hp] at this
        rw [show p = p' by omega]
        exact e
      · rw [if_neg e, Nat.zero_testBit] at h2
        cases h2
    · intro h
      refine ⟨p, by omega, ?_⟩
      unfold gim
      rw [if_pos h, tp, Int.toNat_natCast, Nat.testBit_two_pow_self]
  cases e1 : (imN S n f w).testBit (n - 1 - q) with
  | true => rw [key.mp e1]
  | false =>
    cases e2 : w.testBit (n - 1 - p) with
    | true => rw [key.mpr e2] at e1; cases e1
    | false => rfl
theorem IMf.uniq (ok : S.ok) (hn : S.nf = (n : Int)) {f g : Int → Int → Int} (hr : ∀ k : Int, 0 ≤ k → k < 3 → REN (S.sz k) (f k) (g k)) {w x y : Nat} (h : IMf S n f w x) (k : IMf S n f w y) : x = y := by
  refine Nat.eq_of_testBit_eq (fun b => ?_)
  by_cases c : b < n
  · obtain ⟨r, i, j, ⟨a0, a1⟩, hi, ha⟩ := pl_ex ok (p := n - 1 - b) (by omega)
    obtain ⟨c1, c2, c3⟩ := ren_in ok (fun k k0 k1 => (hr k k0 k1).symm) a0 a1 hi
    have h1 := h.2 r _ _ a0 a1 c1
    have k1 := k.2 r _ _ a0 a1 c1
    rw [c2, at_col c3, ha] at h1 k1
    rw [← k1] at h1
    unfold phw at h1
    rw [show ((n : Int) - 1 - ((n - 1 - b : Nat) : Int)).toNat = b by omega] at h1
    exact h1
  · rw [Nat.testBit_lt_two_pow (Nat.lt_of_lt_of_le h.1 (Nat.pow_le_pow_right (n := 2) (by decide) (show n ≤ b by omega))), Nat.testBit_lt_two_pow (Nat.lt_of_lt_of_le k.1 (Nat.pow_le_pow_right (n := 2) (by decide) (show n ≤ b by omega)))]
theorem IMf.im {f g : Int → Int → Int} (hr : ∀ k : Int, 0 ≤ k → k < 3 → REN (S.sz k) (f k) (g k)) {w x : Nat} (hw : w < 2 ^ n) (h : IMf S n f w x) : IM S n w x := ⟨hw, h.1, f, g, hr, h.2⟩
/-- it depends on what is used of the renumbering -/
theorem IMf.congr (ok : S.ok) {f g : Int → Int → Int} {w x : Nat} (e : ∀ r : Int, 0 ≤ r → r < S.nr → (∀ i : Int, 0 ≤ i → i < S.sz (S.k1 r) → f (S.k1 r) i = g (S.k1 r) i) ∧ (¬ S.k2 r = -1 → ∀ i : Int, 0 ≤ i → i < S.sz (S.k2 r) → f (S.k2 r) i = g (S.k2 r) i)) (h : IMf S n f w x) : IMf S n g w x := ⟨h.1, fun r i j r0 r1 hi => by
  have := h.2 r i j r0 r1 hi
  obtain ⟨e1, e2⟩ := e r r0 r1
  obtain ⟨k1, k2⟩ := ok.2.2 r r0 r1
  have z1 : S.zv (S.k1 r) = S.sz (S.k1 r) := by unfold SH.zv; rw [if_neg (by omega)]
  have i1 := hi.1
  rw [z1] at i1
  rw [e1 i i1.1 i1.2] at this
  rw [← this]
  congr 1
  refine at_col ?_
  unfold SH.col
  by_cases z : S.k2 r = -1
  · rw [if_pos z, if_pos z]
  · have i2 := hi.2
    have c : S.col r j = j := by unfold SH.col; rw [if_neg z]
    have z2 : S.zv (S.k2 r) = S.sz (S.k2 r) := by unfold SH.zv; rw [if_neg z]
    rw [c, z2] at i2
    rw [if_neg z, if_neg z]
    exact (e2 z j i2.1 i2.2).symm⟩
end
end
section
/-! ===== the reference's orders and images ===== -/
theorem pr_dm : ∀ o : Nat, o < 6 → (idiv (o : Int) 2 = prF o ∧ irem (o : Int) 2 = ((o % 2 : Nat) : Int)) ∧ (0 ≤ prF o ∧ prF o ≤ 2) ∧ (0 ≤ prS o ∧ prS o ≤ 2) := by decide +kernel
theorem all_dm : ∀ a : Nat, a < 216 → idiv (a : Int) 36 = ((a / 36 : Nat) : Int) ∧ idiv (a : Int) 6 = ((a / 6 : Nat) : Int) ∧ irem ((a / 6 : Nat) : Int) 6 = ((a / 6 % 6 : Nat) : Int) ∧ irem (a : Int) 6 = ((a % 6 : Nat) : Int) := by decide +kernel
section
variable {S : SH} {M : Mem} {n : Nat}
theorem v_inOrder {o i : Nat} (ho : o < 6) (hi : i < 3) : pw (mX9_inOrder (o : Int) (i : Int) M) (fun q => q.2 = M ∧ q.1 = pr o (i : Int)) := by
  obtain ⟨⟨d1, d2⟩, f, g⟩ := pr_dm o ho
  have last : ∀ s0 : Int, s0 = prS o → pw (mX9_inOrder_32 (i : Int) (prF o) s0 M) (fun q => q.2 = M ∧ q.1 = pr o (i : Int)) := fun s0 e => by
    unfold mX9_inOrder_32
    refine p_if (fun c => p_ret ⟨rfl, ?_⟩) (fun c => p_if (fun c2 => p_ret ⟨rfl, ?_⟩) (fun c2 => p_ret ⟨rfl, ?_⟩))
    · show prF o = pr o (i : Int)
      unfold pr; rw [if_pos c]
    · show s0 = pr o (i : Int)
      unfold pr; rw [if_neg c, if_pos c2]; exact e
    · show wI (wI (3 - prF o) - s0) = pr o (i : Int)
      rw [e, wI_id (x := 3 - prF o) (by omega) (by omega), wI_id (by omega) (by omega)]
      unfold pr; rw [if_neg c, if_neg c2]
  unfold mX9_inOrder
  refine p_dQc d1 (p_dMc d2 (p_if (fun c => p_if (fun c2 => last 1 ?_) (fun c2 => last 0 ?_)) (fun c => p_if (fun c2 => last 1 ?_) (fun c2 => last 2 ?_))))
  · unfold prS; rw [if_pos (show o % 2 = 0 by omega), if_pos c2]
  · unfold prS; rw [if_pos (show o % 2 = 0 by omega), if_neg c2]
  · unfold prS; rw [if_neg (show ¬ o % 2 = 0 by omega), if_pos c2]
  · unfold prS; rw [if_neg (show ¬ o % 2 = 0 by omega), if_neg c2]
theorem isOb_no {o s i : Nat} (hi : i < 3) (h : ¬ ((i < s → pr o (i : Int) < (s : Int)) ∧ (¬ i < s → pr o (i : Int) = (i : Int)))) : isOb o s = false := by
  cases e : isOb o s with
  | false => rfl
  | true =>
    unfold isOb at e
    exact absurd (of_decide_eq_true e i hi) h
theorem v_isOrder {o s : Nat} (ho : o < 6) : pw (mX9_isOrder (o : Int) (s : Int) M) (fun q => q.2 = M ∧ q.1 = b2i (isOb o s)) := by
  have loop : ∀ (fu i : Nat), i ≤ 3 → (∀ x : Nat, x < i → (x < s → pr o (x : Int) < (s : Int)) ∧ (¬ x < s → pr o (x : Int) = (x : Int))) → pw (mX9_isOrder_2 fu (o : Int) (s : Int) (i : Int) M) (fun q => q.2 = M ∧ q.1 = b2i (isOb o s)) := by
    intro fu
    induction fu with
    | zero => intro i _ _; exact p_none
    | succ fu ih =>
      intro i hi hx
      show pw (bX9_isOrder_2 (mX9_isOrder_2 fu) (o : Int) (s : Int) (i : Int) M) _
      unfold bX9_isOrder_2
      refine p_if (fun c => p_ret ⟨rfl, ?_⟩) (fun c => ?_)
      · have : isOb o s = true := by
          unfold isOb
          exact decide_eq_true (fun x h => hx x (by omega))
        show (1 : Int) = _
        rw [this]; rfl
      have i3 : i < 3 := by omega
      have nxt : (i < s → pr o (i : Int) < (s : Int)) ∧ (¬ i < s → pr o (i : Int) = (i : Int)) → pw (mX9_isOrder_35 (mX9_isOrder_2 fu) (o : Int) (s : Int) (i : Int) M) (fun q => q.2 = M ∧ q.1 = b2i (isOb o s)) := fun h => by
        unfold mX9_isOrder_35
        rw [wI_s (p := i) (by omega)]
        refine ih (i + 1) (by omega) (fun x h2 => ?_)
        by_cases e : x = i
        · rw [e]; exact h
        · exact hx x (by omega)
      refine p_if (fun c2 => ?_) (fun c2 => ?_)
      · refine p_call (v_inOrder ho i3) (fun v m y => ?_)
        obtain ⟨y1, y2⟩ := y
        replace y1 : m = M := y1
        replace y2 : v = pr o (i : Int) := y2
        subst y1; subst y2
        refine p_if (fun c3 => nxt ⟨fun z => by omega, fun _ => c3⟩) (fun c3 => p_ret ⟨rfl, ?_⟩)
        show (0 : Int) = _
        rw [isOb_no i3 (fun z => c3 (z.2 (by omega)))]; rfl
      · refine p_call (v_inOrder ho i3) (fun v m y => ?_)
        obtain ⟨y1, y2⟩ := y
        replace y1 : m = M := y1
        replace y2 : v = pr o (i : Int) := y2
        subst y1; subst y2
        refine p_if (fun c3 => nxt ⟨fun _ => c3, fun z => by omega⟩) (fun c3 => p_ret ⟨rfl, ?_⟩)
        show (0 : Int) = _
        rw [isOb_no i3 (fun z => c3 (z.1 (by omega)))]; rfl
  exact loop FU 0 (by omega) (fun x hx => absurd hx (by omega))
/-- the orders at hand -/
def ORD (a : Nat) (M : Mem) : Prop := mG M 162 0 = ((a / 36 : Nat) : Int) ∧ mG M 162 1 = ((a / 6 % 6 : Nat) : Int) ∧ mG M 162 2 = ((a % 6 : Nat) : Int)
def isA (S : SH) (a : Nat) : Bool := isOb (a / 36) (S.sz 0).toNat && isOb (a / 6 % 6) (S.sz 1).toNat && isOb (a % 6) (S.sz 2).toNat
theorem v_takeOrders {a : Nat} (ok : S.ok) (ha : a < 216) (k9 : K9 M) (rs : RSH S M) : pw (mX9_takeOrders 126 (a : Int) M) (fun q => ORD a q.2 ∧ (∀ c j : Int, ¬ c = 162 → mG q.2 c j = mG M c j) ∧ q.1 = b2i (isA S a)) := by
  obtain ⟨d1, d2, d3, d4⟩ := all_dm a ha
  unfold mX9_takeOrders
  refine p_gFc (ji := 51) rfl k9.c51 (p_dQc d1 (p_aS (fun m1 h1 => ?_)))
  have g1 : ∀ c j : Int, ¬ c = 162 → mG m1 c j = mG M c j := fun c j x => st_ne h1 (fun w => x w.1)
  refine p_gFc (ji := 51) rfl ((g1 126 51 (by decide)).trans k9.c51) (p_dQc d2 (p_dMc d3 (p_aS (fun m2 h2 => ?_))))
  have g2 : ∀ c j : Int, ¬ c = 162 → mG m2 c j = mG M c j := fun c j x => (st_ne h2 (fun w => x w.1)).trans (g1 c j x)
  refine p_gFc (ji := 51) rfl ((g2 126 51 (by decide)).trans k9.c51) (p_dMc d4 (p_aS (fun m3 h3 => ?_)))
  have g3 : ∀ c j : Int, ¬ c = 162 → mG m3 c j = mG M c j := fun c j x => (st_ne h3 (fun w => x w.1)).trans (g2 c j x)
  have e0 : mG m3 162 0 = ((a / 36 : Nat) : Int) := (st_ne h3 (fun w => absurd w.2 (by decide))).trans ((st_ne h2 (fun w => absurd w.2 (by decide))).trans (st_eq h1))
  have e1 : mG m3 162 1 = ((a / 6 % 6 : Nat) : Int) := (st_ne h3 (fun w => absurd w.2 (by decide))).trans (st_eq h2)
  have e2 : mG m3 162 2 = ((a % 6 : Nat) : Int) := st_eq h3
  have c51 : mG m3 126 51 = 162 := (g3 126 51 (by decide)).trans k9.c51
  have c26 : mG m3 126 26 = 152 := (g3 126 26 (by decide)).trans k9.c26
  have z : ∀ k : Int, 0 ≤ k → k < 3 → mG m3 152 k = (((S.sz k).toNat : Nat) : Int) := fun k k0 k1 => by
    rw [g3 152 k (by decide), rs.1 k k0 k1]
    have := ok.1 k k0 k1
    omega
  have fin : ∀ (m : Mem) (v : Int), m = m3 → v = b2i (isA S a) → pw (some (v, m)) (fun q => ORD a q.2 ∧ (∀ c j : Int, ¬ c = 162 → mG q.2 c j = mG M c j) ∧ q.1 = b2i (isA S a)) := fun m v em ev => by
    subst em
    exact p_ret ⟨⟨e0, e1, e2⟩, g3, ev⟩
  refine p_gFc (ji := 51) rfl c51 (p_aGc e0 (p_gFc (ji := 26) rfl c26 (p_aGc (z 0 (by decide) (by decide)) (p_call (v_isOrder (o := a / 36) (by omega)) (fun v m4 y => ?_)))))
  obtain ⟨y1, y2⟩ := y
  replace y1 : m4 = m3 := y1
  replace y2 : v = b2i (isOb (a / 36) (S.sz 0).toNat) := y2
  subst y1
  refine p_if (fun c => fin m4 0 rfl ?_) (fun c => ?_)
  · have := b2i_0.mp (y2.symm.trans c)
    unfold isA; rw [this]; rfl
  have t0 : isOb (a / 36) (S.sz 0).toNat = true := by
    cases e : isOb (a / 36) (S.sz 0).toNat with
    | true => rfl
    | false => rw [e] at y2; exact absurd y2 c
  refine p_gFc (ji := 51) rfl c51 (p_aGc e1 (p_gFc (ji := 26) rfl c26 (p_aGc (z 1 (by decide) (by decide)) (p_call (v_isOrder (o := a / 6 % 6) (by omega)) (fun v m5 y => ?_)))))
  obtain ⟨y3, y4⟩ := y
  replace y3 : m5 = m4 := y3
  replace y4 : v = b2i (isOb (a / 6 % 6) (S.sz 1).toNat) := y4
  subst y3
  refine p_if (fun c => fin m5 0 rfl ?_) (fun c => ?_)
  · have := b2i_0.mp (y4.symm.trans c)
    unfold isA; rw [this, Bool.and_false]; rfl
  have t1 : isOb (a / 6 % 6) (S.sz 1).toNat = true := by
    cases e : isOb (a / 6 % 6) (S.sz 1).toNat with
    | true => rfl
    | false => rw [e] at y4; exact absurd y4 c
  refine p_gFc (ji := 51) rfl c51 (p_aGc e2 (p_gFc (ji := 26) rfl c26 (p_aGc (z 2 (by decide) (by decide)) (p_call (v_isOrder (o := a % 6) (by omega)) (fun v m6 y => ?_)))))
  obtain ⟨y5, y6⟩ := y
  replace y5 : m6 = m5 := y5
  replace y6 : v = b2i (isOb (a % 6) (S.sz 2).toNat) := y6
  subst y5
  refine p_if (fun c => fin m6 0 rfl ?_) (fun c => fin m6 1 rfl ?_)
  · have := b2i_0.mp (y6.symm.trans c)
    unfold isA; rw [this, Bool.and_false]; rfl
  · have t2 : isOb (a % 6) (S.sz 2).toNat = true := by
      cases e : isOb (a % 6) (S.sz 2).toNat with
      | true => rfl
      | false => rw [e] at y6; exact absurd y6 c
    unfold isA; rw [t0, t1, t2]; rfl
/-- what the orders make of a number -/
def frO (a : Nat) : Int → Int → Int := fun k i => if k = 0 then pr (a / 36) i else if k = 1 then pr (a / 6 % 6) i else pr (a % 6) i
def frI (a : Nat) : Int → Int → Int := fun k i => if k = 0 then pr (inO (a / 36)) i else if k = 1 then pr (inO (a / 6 % 6)) i else pr (inO (a % 6)) i
theorem frO_ren {a : Nat} (ok : S.ok) (ha : a < 216) (h : isA S a = true) : ∀ k : Int, 0 ≤ k → k < 3 → REN (S.sz k) (frO a k) (frI a k) := fun k k0 k1 => by
  unfold isA at h
  obtain ⟨h1, h2⟩ := Bool.and_eq_true_iff.mp h
  obtain ⟨h0, h1⟩ := Bool.and_eq_true_iff.mp h1
  have z := ok.1 k k0 k1
  have e : S.sz k = (((S.sz k).toNat : Nat) : Int) := by omega
  rw [e]
  obtain c | c | c : k = 0 ∨ k = 1 ∨ k = 2 := by omega
  · subst c; exact pr_ren (o := a / 36) (by omega) (by omega) (by omega) h0
  · subst c; exact pr_ren (o := a / 6 % 6) (by omega) (by omega) (by omega) h1
  · subst c; exact pr_ren (o := a % 6) (by omega) (by omega) (by omega) h2
theorem v_renamed {a i : Nat} {k : Int} (ha : a < 216) (hk : -1 ≤ k ∧ k ≤ 2) (hi : i < 3) (k9 : K9 M) (h : ORD a M) : pw (mX9_renamed 126 k (i : Int) M) (fun q => q.2 = M ∧ q.1 = (if k = -1 then 0 else frO a k (i : Int))) := by
  unfold mX9_renamed
  refine p_if (fun c => p_ret ⟨rfl, ?_⟩) (fun c => ?_)
  · show (0 : Int) = _
    rw [if_pos c]
  have go : ∀ o : Nat, o < 6 → mG M 162 k = (o : Int) → frO a k (i : Int) = pr o (i : Int) → pw ((gF 9 51 M 126).bind fun a10 => (aG 10 M a10 k).bind fun a14 => (mX9_inOrder a14 (i : Int) M).bind fun q16 => some (q16.1, q16.2)) (fun q => q.2 = M ∧ q.1 = (if k = -1 then 0 else frO a k (i : Int))) := fun o ho e e2 =>
    p_gFc (ji := 51) rfl k9.c51 (p_aGc e (p_call (v_inOrder ho hi) (fun v m y => p_ret ⟨y.1, by rw [if_neg c, e2]; exact y.2⟩)))
  obtain z | z | z : k = 0 ∨ k = 1 ∨ k = 2 := by omega
  · subst z; exact go (a / 36) (by omega) h.1 rfl
  · subst z; exact go (a / 6 % 6) (by omega) h.2.1 rfl
  · subst z; exact go (a % 6) (by omega) h.2.2 rfl
end
end
