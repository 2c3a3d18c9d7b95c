/-! ===== forms alike ===== -/
def JB (M : Mem) : Prop := J3 M ∧ CB (shp M) M
section
variable {M : Mem}
theorem CB.fl {S : SH} {m : Mem} (h : CB S M) (k : FLK M m) : CB S m := h.kp (fun c j hc => k c j (nq_0 (by omega)))
/-- the forms are picked, behind a look-up -/
theorem q_picked {n : Nat} {P : Nat → List Row} {vw : Nat} {F : Int → Int} {m : Mem} (ok : (shp M).ok) (hn : (shp M).nf = (n : Int)) (n12 : n ≤ 12) (k2 : K2 M) (sh : SHC (shp M) 4 M) (cb : CB (shp M) M) (lk : LK (shp M) P vw F M m) : pw (mX4_pickForms 2 m) (fun q => WS 36 (n : Int) (fun w => WDw (shp M) P vw F w && isF (shp M) n w) q.2 ∧ CB (shp M) q.2 ∧ (∀ c j : Int, ¬ (24 ≤ c ∧ c ≤ 30) → ¬ c = 37 → ¬ (c = 36 ∧ (j = 1 ∨ j = 2)) → mG q.2 c j = mG m c j)) := by
  obtain ⟨_, w34, _, _, fl⟩ := id lk
  rw [hn] at w34
  exact q_pickForms ok hn n12 (k2.fl fl) (sh.fl fl) (cb.fl fl) w34 (fun w hw => wd_out hn hw)
theorem q_forms8 {n : Nat} {P : Nat → List Row} {vw : Nat} {F : Int → Int} (ok : (shp M).ok) (hn : (shp M).nf = (n : Int)) (k2 : K2 M) (sh : SHC (shp M) 4 M) (cb : CB (shp M) M) (h1 : mG M 1 0 = 2) (hl : pw (mX4_lookUp 2 M) (fun q => (12 < n ∧ q.1 = 0 ∧ q.2 = M) ∨ (n ≤ 12 ∧ q.1 = 1 ∧ LK (shp M) P vw F M q.2))) : pw (mX8_forms 1 M) (fun q => (CB (shp q.2) q.2 ∧ ∀ c j : Int, 65 ≤ c → mG q.2 c j = mG M c j) ∧ ((12 < n ∧ q.1 = -1) ∨ (n ≤ 12 ∧ q.1 = ((ctn (fun w => WDw (shp M) P vw F w && isF (shp M) n w) (2 ^ n) : Nat) : Int)))) := by
  have nf := ok.nf
  obtain ⟨Q, hQ⟩ : ∃ Q : Int × Mem → Prop, Q = fun q => (CB (shp q.2) q.2 ∧ ∀ c j : Int, 65 ≤ c → mG q.2 c j = mG M c j) ∧ ((12 < n ∧ q.1 = -1) ∨ (n ≤ 12 ∧ q.1 = ((ctn (fun w => WDw (shp M) P vw F w && isF (shp M) n w) (2 ^ n) : Nat) : Int))) := ⟨_, rfl⟩
  rw [← hQ]
  unfold mX8_forms
  refine p_gFc (ji := 0) rfl h1 (p_gK (p_call (P := Q) ?_ (fun v m y => p_ret y)))
  unfold mX4_countForms
  refine p_gK (p_call hl (fun v m y => ?_))
  rcases y with ⟨a, b, c⟩ | ⟨a, b, c⟩
  · replace c : m = M := c
    subst c
    refine p_it1 b (p_ret ?_)
    rw [hQ]
    exact ⟨⟨cb, fun _ _ _ => rfl⟩, Or.inl ⟨a, rfl⟩⟩
  · replace b : v = 1 := b
    have lk : LK (shp M) P vw F M m := c
    have fl := lk.2.2.2.2
    refine p_it0 (show ¬ v = 0 by omega) (p_gK (p_call (q_picked ok hn a k2 sh cb lk) (fun _ m2 y => ?_)))
    obtain ⟨w36, cb2, g2⟩ := y
    replace w36 : WS 36 (n : Int) (fun w => WDw (shp M) P vw F w && isF (shp M) n w) m2 := w36
    replace cb2 : CB (shp M) m2 := cb2
    replace g2 : ∀ c j : Int, ¬ (24 ≤ c ∧ c ≤ 30) → ¬ c = 37 → ¬ (c = 36 ∧ (j = 1 ∨ j = 2)) → mG m2 c j = mG m c j := g2
    have c27 : mG m2 2 7 = 36 := (g2 2 7 (by decide) (by decide) (by decide)).trans (k2.fl fl).c2_7
    refine p_gFc (ji := 7) rfl c27 (p_gK (p_call (q_count (l := 36) ⟨by omega, by omega⟩ w36) (fun r m3 y => p_ret ?_)))
    obtain ⟨y1, y2⟩ := y
    replace y1 : m3 = m2 := y1
    replace y2 : r = ((ctn (fun w => WDw (shp M) P vw F w && isF (shp M) n w) (64 * uw (n : Int)) : Nat) : Int) := y2
    subst y1
    rw [ctn_uw a (fun w hw => by rw [wd_out hn hw]; rfl)] at y2
    have es : shp m3 = shp M := shp_go (fun b j x => (g2 b j (by omega) (by omega) (by omega)).trans (fl b j (nq_0 (by omega))))
    rw [hQ]
    exact ⟨⟨by rw [es]; exact cb2, fun c j c0 => (g2 c j (by omega) (by omega) (by omega)).trans (fl c j (nq_0 (by omega)))⟩, Or.inr ⟨a, y2⟩⟩
theorem cb_forms (h : JB M) : pw (mX8_forms 1 M) (fun q => CB (shp q.2) q.2) := by
  obtain ⟨P, n, ok, hn, k2, sh, tp, rf, ve, vlt, h1, hl⟩ := look h.1
  exact p_mono (q_forms8 ok hn k2 sh h.2 h1.1 hl) (fun q y => y.1.1)
theorem eq_forms (h : JB M) : pw (mX8_forms 1 M) (fun q1 => pw (mX9_forms 126 q1.2) (fun q2 => EQ q1 q2)) := by
  obtain ⟨P, n, ok, hn, k2, sh, tp, rf, ve, vlt, h1, hl⟩ := look h.1
  refine p_mono (q_forms8 ok hn k2 sh h.2 h1.1 hl) (fun q1 y => ?_)
  obtain ⟨⟨_, g⟩, y⟩ := y
  obtain ⟨rf2, e1, e2, e3⟩ := rf.f9 (M' := q1.2) (fun c j c0 _ => g c j (by omega))
  obtain ⟨K, hK⟩ := Int.eq_ofNat_of_zero_le rf.2.2.2.1.1
  have h8 := rf.2.2.2.1
  rw [hK, Int.toNat_natCast] at vlt
  refine p_mono (v_forms ok hn rf2 (e3.trans hK)) (fun q2 z => ?_)
  rw [e1, e2, ve] at z
  show q1.1 = q2.1
  rcases y with ⟨a, b⟩ | ⟨a, b⟩
  · rcases z with ⟨c, d⟩ | ⟨c, d⟩
    · rw [b, d]
    · omega
  · rcases z with ⟨c, d⟩ | ⟨c, d⟩
    · omega
    · rw [b, d, ctn_congr _ (fun w hw => by rw [wd_eq hn vlt (by omega) hw])]
/-! what the other calls leave alone -/
def NBC (b j : Int) : Prop := b ≤ 169 ∧ ¬ (24 ≤ b ∧ b ≤ 28) ∧ ¬ (b = 4 ∧ j = 6) ∧ ¬ (5 ≤ b ∧ b ≤ 7)
theorem CB.go {n : Nat} {M' : Mem} (iM : I n M) (cb : CB (shp M) M) (g : ∀ b j : Int, (24 ≤ b ∧ b ≤ 28) ∨ (b = 4 ∧ j = 6) ∨ (5 ≤ b ∧ b ≤ 7) → mG M' b j = mG M b j) : CB (shp M') M' := by
  rw [shp_go (fun b j x => g b j (by omega))]
  exact cb.kp (fun c j hc => g c j (Or.inl hc))
theorem CB.f9 {n : Nat} {M' : Mem} (iM : I n M) (cb : CB (shp M) M) (g : ∀ b j : Int, b ≤ (n : Int) → ¬ (126 ≤ b ∧ b ≤ 169) → mG M' b j = mG M b j) : CB (shp M') M' := by
  have hn : (169 : Int) ≤ (n : Int) := by have := iM.2.2.2.2.1; omega
  exact cb.go iM (fun b j hb => g b j (by omega) (by omega))
theorem cb_of {x : Option (Int × Mem)} {W : Int → Int → Prop} {P : Int × Mem → Prop} (h : JB M) (hx : wp x (fun q => I (mN M) q.2 ∧ Keep (mN M) W M q.2 ∧ P q)) (d : ∀ b j, W b j → NBC b j) : pw x (fun q => CB (shp q.2) q.2) :=
  p_mono (p_wp hx) (fun q y => by
    have iM := h.1.1.1.1
    have hn : (169 : Int) ≤ ((mN M : Nat) : Int) := by have := iM.2.2.2.2.1; omega
    exact h.2.go iM (fun b j hb => y.2.1.2.2 b j (by omega) (fun z => by
      have := d b j z
      unfold NBC at this
      omega)))
theorem q_forgetO : pw (mX4_forget 2 M) (fun q => mG M 2 2 = 24 → mG q.2 24 6 = 0 ∧ mG q.2 24 7 = 0) := by
  unfold mX4_forget
  refine p_pF (ji := 4) rfl (fun m1 h1 => p_pF (ji := 10) rfl (fun m2 h2 => p_gF (ji := 2) rfl (fun a ha => p_gK ?_)))
  unfold mX1_forget
  refine p_bindg (fun Q1 hQ1 => p_pZ (ji := 6) rfl (fun m3 h3 => p_pZ (ji := 7) rfl (fun m4 h4 => p_ret (hQ1 _ (p_ret (fun e => ?_))))))
  have ea : a = 24 := ha.symm.trans ((st_ne h2 (fun w => absurd w.2 (by decide))).trans ((st_ne h1 (fun w => absurd w.2 (by decide))).trans e))
  subst ea
  show mG m4 24 6 = 0 ∧ mG m4 24 7 = 0
  exact ⟨(st_ne h4 (fun w => absurd w.2 (by decide))).trans (st_eq h3), st_eq h4⟩
end
