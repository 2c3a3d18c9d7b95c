/-! ===== J3: what is judged is right, what is known stands where it belongs ===== -/
def Rel3 (M : Mem) : Prop := (∀ i : Int, 0 ≤ i → i < 4 → (i = 0 ∨ mG M 169 (i - 1) = 1) → KO i M) ∧ CA (shp M) M
def J3 (M : Mem) : Prop := J2 M ∧ Rel3 M
section
variable {M : Mem}
/-- the look-up, from what stands between two calls -/
theorem look (h : J3 M) : ∃ P : Nat → List Row, ∃ n : Nat, (shp M).ok ∧ (shp M).nf = (n : Int) ∧ K2 M ∧ SHC (shp M) 4 M ∧ TXP (shp M) P M ∧ RFB (shp M) P M ∧ tvb M = vwb M ∧ vwb M < 2 ^ (mG M 138 0).toNat ∧ (mG M 1 0 = 2 ∧ mG M 1 1 = 3) ∧ pw (mX4_lookUp 2 M) (fun q => (12 < n ∧ q.1 = 0 ∧ q.2 = M) ∨ (n ≤ 12 ∧ q.1 = 1 ∧ LK (shp M) P (vwb M) (knR (shp M) M) M q.2)) := by
  obtain ⟨⟨⟨iM, wf, rel⟩, rel2⟩, ko, ca⟩ := h
  have sr := rel.1 0 (by decide) (by decide) (Or.inl rfl)
  have s2 := rel2 0 (by decide) (by decide) (Or.inl rfl)
  have k0 := ko 0 (by decide) (by decide) (Or.inl rfl)
  have ok := shp_ok iM
  obtain ⟨P, tp, rt⟩ := told_P iM sr s2
  obtain ⟨n, hn⟩ := Int.eq_ofNat_of_zero_le ok.nf.1
  have sh := shp_c iM sr
  have ve := vw_eq iM sr s2
  refine ⟨P, n, ok, hn, K2.of iM, sh, tp, ⟨K9.of iM, shp_r sr, kno_of iM sr k0, rd_Mstories iM (a := 138) (i := 0) rfl, rt⟩, ve, ?_, ⟨rd_VS_0 iM (a := 1) rfl, rd_VS_1 iM (a := 1) rfl⟩, ?_⟩
  · rw [← ve]; exact bitsOf_lt _ _
  · refine p_mono (q_lookUp (kq := knR (shp M) M) ok (K2.of iM) sh ca (rd_Told_11 iM (a := 3) rfl) tp (fun p => knf_rg _ _ _ _ _ _) (kn_class iM sr s2 k0)) (fun q y => ?_)
    rw [hn] at y
    rcases y with ⟨a, b, c⟩ | ⟨a, b, c⟩
    · exact Or.inl ⟨by omega, b, c⟩
    · exact Or.inr ⟨by omega, b, c⟩
theorem q_worlds8 {n : Nat} {P : Nat → List Row} {vw : Nat} {F : Int → Int} (ok : (shp M).ok) (hn : (shp M).nf = (n : Int)) (k2 : K2 M) (h1 : mG M 1 0 = 2) (hl : pw (mX4_lookUp 2 M) (fun q => (12 < n ∧ q.1 = 0 ∧ q.2 = M) ∨ (n ≤ 12 ∧ q.1 = 1 ∧ LK (shp M) P vw F M q.2))) : pw (mX8_worlds 1 M) (fun q => FLK M q.2 ∧ ((12 < n ∧ q.1 = -1) ∨ (n ≤ 12 ∧ q.1 = ((ctn (WDw (shp M) P vw F) (2 ^ n) : Nat) : Int)))) := by
  unfold mX8_worlds
  refine p_gFc (ji := 0) rfl h1 (p_gK (p_call (P := fun q => FLK M q.2 ∧ ((12 < n ∧ q.1 = -1) ∨ (n ≤ 12 ∧ q.1 = ((ctn (WDw (shp M) P vw F) (2 ^ n) : Nat) : Int)))) ?_ (fun v m y => p_ret y)))
  unfold mX4_countWorlds
  refine p_gK (p_call hl (fun v m y => ?_))
  rcases y with ⟨a, b, c⟩ | ⟨a, b, c⟩
  · replace c : m = M := c
    subst c
    exact p_it1 b (p_ret ⟨FLK.rf, Or.inl ⟨a, rfl⟩⟩)
  · replace b : v = 1 := b
    obtain ⟨_, w34, _, _, fl⟩ := c
    have nf := ok.nf
    refine p_it0 (show ¬ v = 0 by omega) (p_gFc (ji := 6) rfl (k2.fl fl).c2_6 (p_gK (p_call (q_count (l := 34) ⟨nf.1, by omega⟩ w34) (fun r m1 y => p_ret ?_))))
    obtain ⟨y1, y2⟩ := y
    replace y1 : m1 = m := y1
    replace y2 : r = ((ctn (WDw (shp M) P vw F) (64 * uw (shp M).nf) : Nat) : Int) := y2
    subst y1
    rw [hn, ctn_uw a (fun w hw => wd_out hn hw)] at y2
    exact ⟨fl, Or.inr ⟨a, y2⟩⟩
theorem eq_worlds (h : J3 M) : pw (mX8_worlds 1 M) (fun q1 => pw (mX9_worlds 126 q1.2) (fun q2 => EQ q1 q2)) := by
  obtain ⟨P, n, ok, hn, k2, sh, tp, rf, ve, vlt, h1, hl⟩ := look h
  refine p_mono (q_worlds8 ok hn k2 h1.1 hl) (fun q1 y => ?_)
  obtain ⟨fl, y⟩ := y
  obtain ⟨⟨k9, rst, kn, h8, rt⟩, e1, e2, e3⟩ := rf.f9 fl.f9
  refine p_mono (v_worlds ok hn k9 rst kn h8 rt) (fun q2 z => ?_)
  rw [e1, e2, e3, ve] at z
  rw [e3] at h8
  show q1.1 = q2.1
  rcases y with ⟨a, b⟩ | ⟨a, b⟩
  · rcases z with ⟨c, d⟩ | ⟨c, d⟩
    · rw [b, d]
    · omega
  · rcases z with ⟨c, d⟩ | ⟨c, d⟩
    · omega
    · rw [b, d, ctn_congr _ (fun w hw => wd_eq hn vlt (by omega) hw)]
end
