/-! ===== what OtherNumbers holds is kept, where it is used ===== -/
section
variable {M : Mem} {n : Nat}
theorem rn_same {y w : Int} : ∀ (fu : Nat) (a p : Int), pw (mX1_renumbered_5 fu 24 y w a p M) (fun q => q.2 = M) := by
  intro fu
  induction fu with
  | zero => intro a p; exact p_none
  | succ fu ih =>
    intro a p
    show pw (bX1_renumbered_5 (mX1_renumbered_5 fu) 24 y w a p M) _
    unfold bX1_renumbered_5 mX1_renumbered_45
    exact p_gF (ji := 5) rfl (fun _ _ => p_if (fun _ => p_ret rfl) (fun _ => p_gF (ji := 5) rfl (fun _ _ => p_if (fun _ => ih _ _) (fun _ => p_gF (ji := 1) rfl (fun _ _ => p_aG (fun _ _ => ih _ _))))))
theorem lo_same {w : Int} : ∀ (fu : Nat) (l y : Int), pw (mX1_leastOf_10 fu 24 w l y M) (fun q => q.2 = M) := by
  intro fu
  induction fu with
  | zero => intro l y; exact p_none
  | succ fu ih =>
    intro l y
    show pw (bX1_leastOf_10 (mX1_leastOf_10 fu) 24 w l y M) _
    unfold bX1_leastOf_10 mX1_renumbered
    refine p_gF (ji := 4) rfl (fun _ _ => p_if (fun _ => p_ret rfl) (fun _ => p_gK (p_call (rn_same FU 0 0) (fun v m e => ?_))))
    replace e : m = M := e
    subst e
    exact p_some (fun _ _ => ih _ _)
theorem bc_same {x : Int} : pw (mJ6_bitCount_0f7a4 x M) (fun q => q.2 = M) := by
  unfold mJ6_bitCount_0f7a4
  exact p_some (fun _ _ => p_some (fun _ _ => p_some (fun _ _ => p_some (fun _ _ => p_some (fun _ _ => p_ret rfl)))))
theorem fa_same {w z : Int} : ∀ (fu : Nat) (l y : Int), pw (mX1_fewestApart_12 fu 24 w z l y M) (fun q => q.2 = M) := by
  intro fu
  induction fu with
  | zero => intro l y; exact p_none
  | succ fu ih =>
    intro l y
    show pw (bX1_fewestApart_12 (mX1_fewestApart_12 fu) 24 w z l y M) _
    unfold bX1_fewestApart_12 mX1_renumbered
    refine p_gF (ji := 4) rfl (fun _ _ => p_if (fun _ => p_ret rfl) (fun _ => p_gK (p_call (rn_same FU 0 0) (fun v m e => ?_))))
    replace e : m = M := e
    subst e
    refine p_call bc_same (fun v2 m2 e2 => ?_)
    replace e2 : m2 = m := e2
    subst e2
    exact p_some (fun _ _ => ih _ _)
theorem FLO.shp {m : Mem} (h : FLO M m) : shp m = shp M := shp_go (fun b j x => h b j (by omega) (by omega) (by omega))
theorem cb_leastRow (h : JB M) : pw (mX4_leastRow 2 M) (fun q => CB (shp q.2) q.2) := by
  obtain ⟨P, n, ok, hn, k2, sh, tp, rf, ve, vlt, h1, hl⟩ := look h.1
  unfold mX4_leastRow
  refine p_gK (p_call (q_canTell k2 sh) (fun v m y => ?_))
  obtain ⟨y1, y2⟩ := y
  replace y1 : m = M := y1
  subst y1
  rcases y2 with ⟨_, e⟩ | ⟨n12, e⟩
  · exact p_it1 e (p_ret h.2)
  replace e : v = 1 := e
  refine p_it0 (show ¬ v = 0 by omega) (p_gFc (ji := 2) rfl k2.c2_2 (p_gFc (ji := 0) rfl k2.c2_0 (p_gFc (ji := 0) rfl k2.c3_0 (p_gFc (ji := 0) rfl k2.c2_0 (p_gF (ji := 1) rfl (fun w _ => p_gK (p_call (P := fun q => CB (shp q.2) q.2) ?_ (fun v m y => p_ret y))))))))
  unfold mX1_leastOf
  refine p_gK (p_call (q_layOut ok hn (by omega) k2 sh h.2) (fun _ m1 y => ?_))
  obtain ⟨_, _, fl, cb1⟩ := y
  replace fl : FLO m m1 := fl
  replace cb1 : CB (shp m) m1 := cb1
  refine p_mono (lo_same FU _ 0) (fun q z => ?_)
  rw [z, fl.shp]
  exact cb1
theorem cb_name (h : JB M) : pw (mX8_name 1 M) (fun q => CB (shp q.2) q.2) := by
  have iM := h.1.1.1.1
  unfold mX8_name
  refine p_gFc (ji := 0) rfl (rd_VS_0 iM (a := 1) rfl) (p_gK (p_call (p_and (cb_leastRow h) (p_wp (s_X4_leastRow iM))) (fun v m y => ?_)))
  obtain ⟨cb, i1, _⟩ := y
  replace cb : CB (shp m) m := cb
  replace i1 : I (mN M) m := i1
  refine p_gF (ji := 1) rfl (fun a _ => p_gF (ji := 1) rfl (fun w _ => p_if (fun _ => p_ret cb) (fun _ => p_gK (p_call (cb_becomes i1 cb) (fun r m2 z => p_if (fun _ => p_ret z) (fun _ => p_ret z))))))
theorem cb_apart {l : Int} (h : JB M) : pw (mX8_apart 1 l M) (fun q => CB (shp q.2) q.2) := by
  obtain ⟨P, n, ok, hn, k2, sh, tp, rf, ve, vlt, h1, hl⟩ := look h.1
  unfold mX8_apart
  refine p_if (fun _ => p_ret h.2) (fun _ => p_if (fun _ => p_ret h.2) (fun _ => p_gF (ji := 1) rfl (fun _ _ => p_gF (ji := 3) rfl (fun _ _ => p_aG (fun _ _ => p_if (fun _ => p_ret h.2) (fun _ => ?_))))))
  refine p_gFc (ji := 0) rfl h1.1 (p_gF (ji := 1) rfl (fun _ _ => p_gF (ji := 2) rfl (fun _ _ => p_aG (fun k _ => p_gK (p_call (P := fun q => CB (shp q.2) q.2) ?_ (fun v m y => p_ret y))))))
  unfold mX4_fewestApart
  refine p_gK (p_call (q_canTell k2 sh) (fun v m y => ?_))
  obtain ⟨y1, y2⟩ := y
  replace y1 : m = M := y1
  subst y1
  rcases y2 with ⟨_, e⟩ | ⟨n12, e⟩
  · exact p_it1 e (p_ret h.2)
  replace e : v = 1 := e
  refine p_it0 (show ¬ v = 0 by omega) (p_gFc (ji := 2) rfl k2.c2_2 (p_gFc (ji := 0) rfl k2.c2_0 (p_gFc (ji := 0) rfl k2.c3_0 (p_gFc (ji := 0) rfl k2.c2_0 (p_gF (ji := 1) rfl (fun w _ => p_gK (p_call (P := fun q => CB (shp q.2) q.2) ?_ (fun v m y => p_ret y))))))))
  unfold mX1_fewestApart
  refine p_gK (p_call (q_layOut ok hn (by omega) k2 sh h.2) (fun _ m1 y => ?_))
  obtain ⟨_, _, fl, cb1⟩ := y
  replace fl : FLO m m1 := fl
  replace cb1 : CB (shp m) m1 := cb1
  refine p_mono (fa_same FU _ 0) (fun q z => ?_)
  rw [z, fl.shp]
  exact cb1
theorem cb_nthForm {k : Int} (r1 : (-2147483648) ≤ k ∧ k ≤ 2147483647) (h : JB M) : pw (mX4_nthForm 2 k M) (fun q => CB (shp q.2) q.2) := by
  obtain ⟨P, n, ok, hn, k2, sh, tp, rf, ve, vlt, h1, hl⟩ := look h.1
  unfold mX4_nthForm
  refine p_gK (p_call hl (fun v m y => ?_))
  rcases y with ⟨a, b, c⟩ | ⟨a, b, c⟩
  · replace c : m = M := c
    subst c
    exact p_it1 b (p_ret h.2)
  replace b : v = 1 := b
  have lk : LK (shp M) P (vwb M) (knR (shp M) M) M m := c
  have fl := lk.2.2.2.2
  refine p_it0 (show ¬ v = 0 by omega) (p_gK (p_call (q_picked ok hn a k2 sh h.2 lk) (fun _ m2 y => ?_)))
  obtain ⟨w36, cb2, g2⟩ := y
  replace w36 : WS 36 (n : Int) (fun w => WDw (shp M) P (vwb M) (knR (shp M) M) w && isF (shp M) n w) m2 := w36
  replace cb2 : CB (shp M) m2 := cb2
  replace g2 : ∀ c j : Int, ¬ (24 ≤ c ∧ c ≤ 30) → ¬ c = 37 → ¬ (c = 36 ∧ (j = 1 ∨ j = 2)) → mG m2 c j = mG m c j := g2
  have c27 : mG m2 2 7 = 36 := (g2 2 7 (by decide) (by decide) (by decide)).trans (k2.fl fl).c2_7
  refine p_gFc (ji := 7) rfl c27 (p_gK (p_call (q_nth (l := 36) r1 ⟨by omega, by omega⟩ w36) (fun r m3 y => p_ret ?_)))
  obtain ⟨y1, _⟩ := y
  replace y1 : m3 = m2 := y1
  subst y1
  have es : shp m3 = shp M := shp_go (fun b j x => (g2 b j (by omega) (by omega) (by omega)).trans (fl b j (nq_0 (by omega))))
  show CB (shp m3) m3
  rw [es]
  exact cb2
theorem cb_form {k : Int} (r1 : (-2147483648) ≤ k ∧ k ≤ 2147483647) (h : JB M) : pw (mX8_form 1 k M) (fun q => CB (shp q.2) q.2) := by
  have iM := h.1.1.1.1
  unfold mX8_form
  refine p_gFc (ji := 0) rfl (rd_VS_0 iM (a := 1) rfl) (p_gK (p_call (p_and (cb_nthForm r1 h) (p_wp (s_X4_nthForm r1 iM))) (fun v m y => ?_)))
  obtain ⟨cb, i1, _⟩ := y
  replace cb : CB (shp m) m := cb
  replace i1 : I (mN M) m := i1
  exact p_gK (p_call (cb_becomes i1 cb) (fun v m y => p_zR (fun _ => p_ret y)))
end
