/-! ===== the reference's forms ===== -/
noncomputable def isF (S : SH) (n w : Nat) : Bool := @decide (ISL S n w w) (Classical.propDecidable _)
theorem isF_t {S : SH} {n w : Nat} : isF S n w = true ↔ ISL S n w w := by
  unfold isF
  exact @decide_eq_true_iff _ (Classical.propDecidable _)
theorem isF_f {S : SH} {n w : Nat} : isF S n w = false ↔ ¬ ISL S n w w := by
  unfold isF
  exact @decide_eq_false_iff_not _ (Classical.propDecidable _)
/-- what changes while a form is looked for -/
def FIF (M M' : Mem) : Prop := ∀ c j : Int, ¬ (c = 126 ∧ j = 46) → ¬ c = 154 → ¬ c = 160 → ¬ c = 161 → ¬ c = 162 → mG M' c j = mG M c j
theorem FIF.tr {M M' M'' : Mem} (h : FIF M M') (k : FIF M' M'') : FIF M M'' := fun c j x y z w u => (k c j x y z w u).trans (h c j x y z w u)
section
variable {S : SH} {P : Nat → List Row} {M : Mem}
theorem RWd.ff {K : Int} {vw n : Nat} {F : Int → Int} {M' : Mem} (h : RWd S P K vw F n M) (k : FIF M M') : RWd S P K vw F n M' := h.go (fun c j hc => k c j (by omega) (by omega) (by omega) (by omega) (by omega))
theorem v_isForm {n w K vw : Nat} {F : Int → Int} (ok : S.ok) (hn : S.nf = (n : Int)) (n12 : n ≤ 12) (hw : w < 2 ^ n) (hF : ∀ p, F p = -1 ∨ F p = 0 ∨ F p = 1) (hK : K ≤ 8) (hv : vw < 256) (h : RWd S P (K : Int) vw F n M) : pw (mX9_isForm 126 (w : Int) M) (fun q => FIF M q.2 ∧ q.1 = b2i (WDr S P K vw F n w && isF S n w) ∧ (q.1 = 1 → LW S (phw S.nf w) q.2)) := by
  unfold mX9_isForm
  refine p_gK (p_call (v_isWorld ok hn n12 hw hF hK hv h) (fun v m y => ?_))
  obtain ⟨y1, y2, y3⟩ := y
  replace y1 : FI M m := y1
  replace y2 : v = b2i (WDr S P K vw F n w) := y2
  replace y3 : v = 1 → LW S (phw S.nf w) m := y3
  have f1 : FIF M m := fun c j x y z u _ => y1 c j x y z u
  refine p_if (fun c => p_ret ⟨f1, ?_, fun e => absurd e (by show ¬ (0 : Int) = 1; decide)⟩) (fun c => ?_)
  · show (0 : Int) = _
    rw [b2i_0.mp (y2.symm.trans c)]; rfl
  have wt : WDr S P K vw F n w = true := by
    cases e : WDr S P K vw F n w with
    | true => rfl
    | false => rw [e] at y2; exact absurd y2 c
  have lw := y3 (by rw [y2, wt]; rfl)
  have r1 := h.fi y1
  rw [hn] at lw
  refine p_gK (p_call (v_leastImage ok hn n12 hw r1.1.1 r1.1.2 lw) (fun v2 m2 y => ?_))
  obtain ⟨g, l, e, il⟩ := y
  replace g : ∀ c j : Int, ¬ c = 162 → mG m2 c j = mG m c j := g
  replace e : v2 = (l : Int) := e
  have f2 : FIF M m2 := f1.tr (fun c j _ _ _ _ u => g c j u)
  have lw2 : LW S (phw S.nf w) m2 := fun f f0 f1 => by
    rw [hn]
    exact (g 154 f (by decide)).trans (lw f f0 f1)
  refine p_if (fun c2 => p_ret ⟨f2, ?_, fun _ => lw2⟩) (fun c2 => p_ret ⟨f2, ?_, fun e => absurd e (by show ¬ (0 : Int) = 1; decide)⟩)
  · replace c2 : v2 = (w : Int) := c2
    have el : l = w := by omega
    subst el
    show (1 : Int) = _
    rw [wt, isF_t.mpr il]; rfl
  · replace c2 : ¬ v2 = (w : Int) := c2
    show (0 : Int) = _
    rw [wt, isF_f.mpr (fun h2 => c2 (by rw [e, il.uniq h2]))]; rfl
theorem v_forms {n K : Nat} (ok : S.ok) (hn : S.nf = (n : Int)) (rf : RFB S P M) (hK : mG M 138 0 = (K : Int)) : pw (mX9_forms 126 M) (fun q => (12 < n ∧ q.1 = -1) ∨ (n ≤ 12 ∧ q.1 = ((ctn (fun w => WDr S P K (tvb M) (knR S M) n w && isF S n w) (2 ^ n) : Nat) : Int))) := by
  have h8 := rf.2.2.2.1
  have K8 : K ≤ 8 := by omega
  have vl := tvb_lt hK
  have p8 : 2 ^ K ≤ 2 ^ 8 := Nat.pow_le_pow_right (n := 2) (by decide) K8
  have hF : ∀ p, knR S M p = -1 ∨ knR S M p = 0 ∨ knR S M p = 1 := fun p => knf_rg _ _ _ _ _ _
  obtain ⟨G, hG⟩ : ∃ G : Nat → Bool, G = fun w => WDr S P K (tvb M) (knR S M) n w && isF S n w := ⟨_, rfl⟩
  rw [← hG]
  unfold mX9_forms
  refine p_pF (ji := 0) rfl (fun m1 h1 => ?_)
  have g1 : ∀ c j : Int, ¬ c = 126 → mG m1 c j = mG M c j := fun c j x => st_ne h1 (fun w => x w.1)
  have k1 : K9 m1 := rf.1.kp (fun j hj => st_ne h1 (fun w => by omega))
  refine p_gK (p_call (v_can ok rf k1 (fun c j x _ _ => g1 c j x)) (fun v m2 y => ?_))
  obtain ⟨rb, y⟩ := y
  rcases y with ⟨z1, z2⟩ | ⟨z1, z2⟩
  · exact p_it1 z2 (p_ret (Or.inl ⟨by omega, rfl⟩))
  replace z2 : v = 1 := z2
  have n12 : n ≤ 12 := by omega
  have p12 : 2 ^ n ≤ 2 ^ 12 := Nat.pow_le_pow_right (n := 2) (by decide) n12
  refine p_it0 (show ¬ v = 0 by omega) (p_gK (p_call (v_prep ok hn n12 h8 rb) (fun v m3 y => ?_)))
  obtain ⟨rw', _⟩ := y
  rw [hK] at rw'
  replace rw' : RWd S P (K : Int) (tvb M) (knR S M) n m3 := rw'
  have loop : ∀ (fu w : Nat) (m : Mem), w ≤ 2 ^ n → RWd S P (K : Int) (tvb M) (knR S M) n m → pw (mX9_forms_22 fu 126 ((ctn G w : Nat) : Int) (w : Int) m) (fun q => (12 < n ∧ q.1 = -1) ∨ (n ≤ 12 ∧ q.1 = ((ctn G (2 ^ n) : Nat) : Int))) := by
    intro fu
    induction fu with
    | zero => intro w m _ _; exact p_none
    | succ fu ih =>
      intro w m hw rw'
      show pw (bX9_forms_22 (mX9_forms_22 fu) 126 _ (w : Int) m) _
      unfold bX9_forms_22
      refine p_gK (p_call (v_manyFacts ok rw'.1.1 rw'.1.2) (fun v m4 y => ?_))
      obtain ⟨y6, y7⟩ := y
      replace y6 : m4 = m := y6
      replace y7 : v = S.nf := y7
      subst y6
      rw [hn] at y7
      subst y7
      rw [ishl1 n (by omega), show (2 : Int) ^ n = ((2 ^ n : Nat) : Int) by simp]
      refine p_if (fun c => p_ret (Or.inr ⟨n12, ?_⟩)) (fun c => ?_)
      · show ((ctn G w : Nat) : Int) = _
        rw [show w = 2 ^ n by omega]
      have cl := ctn_le G w
      refine p_gK (p_call (v_isForm (w := w) ok hn n12 (by omega) hF K8 (by omega) rw') (fun v m5 y => ?_))
      obtain ⟨y8, y9, _⟩ := y
      replace y8 : FIF m4 m5 := y8
      replace y9 : v = b2i (WDr S P K (tvb M) (knR S M) n w && isF S n w) := y9
      have y9' : v = b2i (G w) := by rw [hG]; exact y9
      have go : ∀ x : Int, x = b2i (G w) → pw (mX9_forms_46 (mX9_forms_22 fu) 126 (w : Int) ((ctn G w : Nat) : Int) x m5) (fun q => (12 < n ∧ q.1 = -1) ∨ (n ≤ 12 ∧ q.1 = ((ctn G (2 ^ n) : Nat) : Int))) := fun x hx => by
        unfold mX9_forms_46
        have bb := b2i_b (G w)
        rw [wI_s (p := w) (by omega), wI_id (x := ((ctn G w : Nat) : Int) + x) (by omega) (by omega), hx, b2i_n, ← Int.natCast_add, ← ctn_s]
        exact ih (w + 1) m5 (by omega) (rw'.ff y8)
      refine p_if (fun c2 => go 0 ?_) (fun c2 => go 1 ?_)
      · replace c2 : v = 0 := c2
        omega
      · replace c2 : ¬ v = 0 := c2
        have := b2i_b (G w)
        omega
  exact loop FU 0 m3 (Nat.zero_le _) rw'
end
