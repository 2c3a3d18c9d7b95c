/-! ===== form, against, name: alike ===== -/
section
variable {M : Mem}
theorem kw_form {k : Int} (r1 : (-2147483648) ≤ k ∧ k ≤ 2147483647) (h : J4 M) : pw (mX8_form 1 k M) (fun q1 => pw (mX9_form 126 k q1.2) (fun q2 => KW q2.2 ∧ EQ q1 q2)) := by
  obtain ⟨P, n, ok, hn, k2, sh, tp, rf, ve, vlt, h1, hl⟩ := look h.1.1
  obtain ⟨en, n36, w0⟩ := h.n hn sh
  have iM := h.1.1.1.1.1
  have wf := h.1.1.1.1.2.1
  obtain ⟨K, hK⟩ := Int.eq_ofNat_of_zero_le rf.2.2.2.1.1
  have h8 := rf.2.2.2.1
  rw [hK, Int.toNat_natCast] at vlt
  refine p_mono (p_and (q_form8 r1 ok hn k2 sh h.1.2 h1 hl) (p_wp (s_X8_form r1 iM))) (fun q1 y => ?_)
  obtain ⟨c, i1, kp, _⟩ := y
  have f8 : FW8 M q1.2 := fw8_of iM kp (fun b j z => by unfold W_X8_form isWS at z; unfold WX8; omega)
  have hn169 : (169 : Int) ≤ ((mN M : Nat) : Int) := by have := iM.2.2.2.2.1; omega
  have g9 : F9 M q1.2 := kp.f9 (by omega) (fun b j z => by unfold W_X8_form isWS at z; omega)
  have wf1 : WF q1.2 := WF_of wf (fun j => g9 _ j (by decide) (by decide)) (fun j => g9 _ j (by decide) (by decide)) (fun j => g9 _ j (by decide) (by decide)) (fun j => g9 _ j (by decide) (by decide)) (fun j => g9 _ j (by decide) (by decide))
  obtain ⟨rf1, e1, e2, e3⟩ := rf.f9 (M' := q1.2) g9
  refine p_mono (p_and (v_form (k := k) ok hn rf1 (e3.trans hK)) (p_wp (s_X9_form r1 wf1 i1))) (fun q2 z => ?_)
  obtain ⟨r, i2, kp2, _⟩ := z
  rw [e1, e2, ve] at r
  have f9 : FW9 q1.2 q2.2 := fw9_of i1 kp2 (fun b j z => by unfold W_X9_form at z; omega)
  exact KW.form iM h.2 en w0 (fun w hw => by
    show (WDw (shp M) P (vwb M) (knR (shp M) M) w && isF (shp M) n w) = (WDr (shp M) P K (vwb M) (knR (shp M) M) n w && isF (shp M) n w)
    rw [wd_eq hn vlt (by omega) hw]) f8 f9 c r
theorem kw_against (h : J4 M) : pw (mX8_against 1 M) (fun q1 => pw (mX9_against 126 q1.2) (fun q2 => KW q2.2 ∧ EQ q1 q2)) := by
  obtain ⟨P, n, ok, hn, k2, sh, tp, rf, ve, vlt, h1, hl⟩ := look h.1.1
  obtain ⟨en, n36, w0⟩ := h.n hn sh
  have iM := h.1.1.1.1.1
  have wf := h.1.1.1.1.2.1
  obtain ⟨K, hK⟩ := Int.eq_ofNat_of_zero_le rf.2.2.2.1.1
  have h8 := rf.2.2.2.1
  rw [hK, Int.toNat_natCast] at vlt
  have hn169 : (169 : Int) ≤ ((mN M : Nat) : Int) := by have := iM.2.2.2.2.1; omega
  rcases guess_P h.1.1 with ⟨a, b⟩ | ⟨g0, ps, tt, rt, hty⟩
  · have c : pw (mX8_against 1 M) (fun q => q.1 = 0 ∧ q.2 = M) := by
      unfold mX8_against
      refine p_gFc (ji := 0) rfl h1.1 (p_gK (p_call (P := fun q => q.1 = -1 ∧ q.2 = M) ?_ (fun v m y => ?_)))
      · unfold mX4_formAgainst
        exact p_gFc (ji := 0) rfl k2.c2_0 (p_gFc (ji := 12) rfl rfl (p_it1 a (p_ret ⟨rfl, rfl⟩)))
      · obtain ⟨y1, y2⟩ := y
        replace y1 : v = -1 := y1
        replace y2 : m = M := y2
        subst y2
        unfold mX8_becomes
        exact p_gK (p_call (P := fun q => q.1 = 0 ∧ q.2 = m) (p_it1 y1 (p_ret ⟨rfl, rfl⟩)) (fun u m2 z => p_zR (fun _ => p_ret z)))
    refine p_mono c (fun q1 y => ?_)
    rw [y.2]
    have r : pw (mX9_against 126 M) (fun q => q.1 = 0 ∧ ∀ b j : Int, ¬ b = 126 → mG q.2 b j = mG M b j) := by
      unfold mX9_against
      refine p_pF (ji := 0) rfl (fun m1 h1 => ?_)
      have k1 : K9 m1 := rf.1.kp (fun j hj => st_ne h1 (fun w => by omega))
      exact p_gFc (ji := 15) rfl k1.c15 (p_aGc ((st_ne h1 (fun w => absurd w.1 (by decide))).trans b) (p_it1 rfl (p_ret ⟨rfl, fun b j x => st_ne h1 (fun w => x w.1)⟩)))
    exact p_mono r (fun q2 z => ⟨h.2.fr iM (fun b j w => z.2 b j (by unfold WX8 at w; omega)), y.1.trans z.1.symm⟩)
  · refine p_mono (p_and (q_against8 ok hn iM sh h.1.2 h1 g0 tt hty hl) (p_wp (s_X8_against iM))) (fun q1 y => ?_)
    obtain ⟨c, i1, kp, _⟩ := y
    have f8 : FW8 M q1.2 := fw8_of iM kp (fun b j z => by unfold W_X8_against isWS at z; unfold WX8; omega)
    have g9 : F9 M q1.2 := kp.f9 (by omega) (fun b j z => by unfold W_X8_against isWS at z; omega)
    have wf1 : WF q1.2 := WF_of wf (fun j => g9 _ j (by decide) (by decide)) (fun j => g9 _ j (by decide) (by decide)) (fun j => g9 _ j (by decide) (by decide)) (fun j => g9 _ j (by decide) (by decide)) (fun j => g9 _ j (by decide) (by decide))
    obtain ⟨rf1, e1, e2, e3⟩ := rf.f9 (M' := q1.2) g9
    have rt2 : RT ps 8 q1.2 := ⟨(g9 141 8 (by decide) (by decide)).trans rt.1, fun i r hr => (rt.2 i r hr).kp (fun c c0 c1 => g9 c _ (by omega) (by omega))⟩
    have gz : ¬ mG q1.2 141 8 = 0 := by
      have := ty_ne ps hty
      rw [rt2.1]
      omega
    refine p_mono (p_and (v_against ok hn rf1 (e3.trans hK) gz rt2 tt.1.1 hty) (p_wp (s_X9_against wf1 i1))) (fun q2 z => ?_)
    obtain ⟨r, i2, kp2, _⟩ := z
    rw [e1, e2, ve] at r
    have f9 : FW9 q1.2 q2.2 := fw9_of i1 kp2 (fun b j z => by unfold W_X9_against at z; omega)
    exact KW.form iM h.2 en w0 (fun w hw => by
      show ((WDw (shp M) P (vwb M) (knR (shp M) M) w && isF (shp M) n w) && !TMw (shp M) ps w) = ((WDr (shp M) P K (vwb M) (knR (shp M) M) n w && isF (shp M) n w) && !TMw (shp M) ps w)
      rw [wd_eq hn vlt (by omega) hw]) f8 f9 c r
theorem kw_name (h : J4 M) : pw (mX8_name 1 M) (fun q1 => pw (mX9_name 126 q1.2) (fun q2 => KW q2.2 ∧ EQ q1 q2)) := by
  obtain ⟨P, n, ok, hn, k2, sh, tp, rf, ve, vlt, h1, hl⟩ := look h.1.1
  obtain ⟨en, n36, w0⟩ := h.n hn sh
  have iM := h.1.1.1.1.1
  have hn169 : (169 : Int) ≤ ((mN M : Nat) : Int) := by have := iM.2.2.2.2.1; omega
  have wl := wn_lt (mG M 137) n
  refine p_mono (p_and (q_name8 ok hn k2 sh h.1.2 h1 wl w0.1.1) (p_wp (s_X8_name iM))) (fun q1 y => ?_)
  obtain ⟨c, i1, kp, _⟩ := y
  have f8 : FW8 M q1.2 := fw8_of iM kp (fun b j z => by unfold W_X8_name at z; unfold WX8; omega)
  have g9 : F9 M q1.2 := kp.f9 (by omega) (fun b j z => by unfold W_X8_name at z; omega)
  obtain ⟨rf1, e1, e2, e3⟩ := rf.f9 (M' := q1.2) g9
  have eg : mG q1.2 137 = mG M 137 := funext (fun f => g9 137 f (by decide) (by decide))
  refine p_mono (p_and (v_name ok hn rf1 (fun f => by rw [eg]; exact rd_Mworld iM (a := 137) (i := f) rfl)) (p_wp (s_X9_name i1))) (fun q2 z => ?_)
  obtain ⟨r, i2, kp2, _⟩ := z
  have f9 : FW9 q1.2 q2.2 := fw9_of i1 kp2 (fun b j z => by unfold W_X9_name at z; omega)
  rcases c with ⟨c1, c2, c3⟩ | ⟨c1, m, c2, c3, c4⟩
  · rcases r with ⟨_, r2, r3⟩ | ⟨r1, _⟩
    · exact ⟨h.2.same iM f8 f9 c3 r3, c2.trans r2.symm⟩
    · omega
  · rcases r with ⟨r1, _⟩ | ⟨r1, m', r2, ⟨r3, r4⟩, r5⟩
    · omega
    rw [eg] at r2 r5
    have e := c2.uniq r2
    subst e
    exact ⟨h.2.upd iM en w0 c2.1.2.1 f8 f9 c3 r3 r4, c4.trans r5.symm⟩
theorem j4_formE {l1 : Int} (r1 : (-2147483648) ≤ l1 ∧ l1 ≤ 2147483647) (h : J4 M) : wp (mX8_form 1 l1 M) (fun q1 => wp (mX9_form 126 l1 q1.2) (fun q2 => J4 q2.2 ∧ EQ q1 q2)) :=
  w_mono (w_and3 (M := M) (jb_form r1 h.1) (kw_form r1 h)) (fun q1 z => w_mono z (fun q2 y => ⟨⟨y.1, y.2.1⟩, y.2.2⟩))
theorem j4_againstE (h : J4 M) : wp (mX8_against 1 M) (fun q1 => wp (mX9_against 126 q1.2) (fun q2 => J4 q2.2 ∧ EQ q1 q2)) :=
  w_mono (w_and3 (M := M) (jb_against h.1) (kw_against h)) (fun q1 z => w_mono z (fun q2 y => ⟨⟨y.1, y.2.1⟩, y.2.2⟩))
theorem j4_nameE (h : J4 M) : wp (mX8_name 1 M) (fun q1 => wp (mX9_name 126 q1.2) (fun q2 => J4 q2.2 ∧ EQ q1 q2)) :=
  w_mono (w_and3 (M := M) (jb_name h.1) (kw_name h)) (fun q1 z => w_mono z (fun q2 y => ⟨⟨y.1, y.2.1⟩, y.2.2⟩))
theorem J4.d {x : Option (Int × Mem)} {y : Mem → Option (Int × Mem)} (h : wp x (fun q1 => wp (y q1.2) (fun q2 => J4 q2.2 ∧ EQ q1 q2))) : wp x (fun q1 => wp (y q1.2) (fun q2 => J4 q2.2)) := w_mono h (fun _ z => w_mono z (fun _ y => y.1))
theorem j4_form {l1 : Int} (r1 : (-2147483648) ≤ l1 ∧ l1 ≤ 2147483647) (h : J4 M) : wp (mX8_form 1 l1 M) (fun q1 => wp (mX9_form 126 l1 q1.2) (fun q2 => J4 q2.2)) := J4.d (j4_formE r1 h)
theorem j4_against (h : J4 M) : wp (mX8_against 1 M) (fun q1 => wp (mX9_against 126 q1.2) (fun q2 => J4 q2.2)) := J4.d (j4_againstE h)
theorem j4_name (h : J4 M) : wp (mX8_name 1 M) (fun q1 => wp (mX9_name 126 q1.2) (fun q2 => J4 q2.2)) := J4.d (j4_nameE h)
end
