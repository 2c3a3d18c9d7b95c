/-! ===== the reference lays out a shape, tells what is told ===== -/
/-- the shape as it is told; as it is laid out -/
def RST (S : SH) (M : Mem) : Prop := (∀ k : Int, 0 ≤ k → k < 3 → mG M 133 k = S.sz k) ∧ mG M 134 0 = S.nr ∧ ∀ r : Int, 0 ≤ r → r < S.nr → mG M 135 r = S.k1 r ∧ mG M 136 r = S.k2 r
def RSH (S : SH) (M : Mem) : Prop := (∀ k : Int, 0 ≤ k → k < 3 → mG M 152 k = S.sz k) ∧ (mG M 134 0 = S.nr ∧ ∀ r : Int, 0 ≤ r → r < S.nr → mG M 135 r = S.k1 r ∧ mG M 136 r = S.k2 r) ∧ ∀ r : Nat, (r : Int) ≤ S.nr → mG M 153 (r : Int) = S.st r
/-- other cells than the sizes and starts of now -/
def FN (M M' : Mem) : Prop := ∀ c j : Int, ¬ c = 152 → ¬ c = 153 → mG M' c j = mG M c j
theorem K9.fn {M M' : Mem} (h : K9 M) (k : FN M M') : K9 M' := h.kp (fun j _ => k 126 j (by decide) (by decide))
section
variable {S : SH} {M : Mem}
theorem RSH.kp {M' : Mem} (h : RSH S M) (g : ∀ c j : Int, c = 152 ∨ c = 153 ∨ (134 ≤ c ∧ c ≤ 136) → mG M' c j = mG M c j) : RSH S M' :=
  ⟨fun k x y => (g _ _ (by omega)).trans (h.1 k x y), ⟨(g _ _ (by omega)).trans h.2.1.1, fun r x y => ⟨(g _ _ (by omega)).trans (h.2.1.2 r x y).1, (g _ _ (by omega)).trans (h.2.1.2 r x y).2⟩⟩, fun r x => (g _ _ (by omega)).trans (h.2.2 r x)⟩
theorem RST.kp {M' : Mem} (h : RST S M) (g : ∀ c j : Int, 133 ≤ c ∧ c ≤ 136 → mG M' c j = mG M c j) : RST S M' :=
  ⟨fun k x y => (g _ _ (by omega)).trans (h.1 k x y), (g _ _ (by omega)).trans h.2.1, fun r x y => ⟨(g _ _ (by omega)).trans (h.2.2 r x y).1, (g _ _ (by omega)).trans (h.2.2 r x y).2⟩⟩
theorem v_sizeOf {k : Int} (k9 : K9 M) (h : ∀ k : Int, 0 ≤ k → k < 3 → mG M 152 k = S.sz k) (hk : -1 ≤ k ∧ k ≤ 2) : pw (mX9_sizeOf 126 k M) (fun q => q.2 = M ∧ q.1 = S.zv k) := by
  unfold mX9_sizeOf
  refine p_if (fun c => p_ret ⟨rfl, ?_⟩) (fun c => p_gFc (ji := 26) rfl k9.c26 (p_aGc (h k (by omega) (by omega)) (p_ret ⟨rfl, ?_⟩)))
  · show 1 = S.zv k
    unfold SH.zv; rw [if_pos c]
  · show S.sz k = S.zv k
    unfold SH.zv; rw [if_neg c]
theorem v_findStarts (ok : S.ok) (k9 : K9 M) (h : ∀ k : Int, 0 ≤ k → k < 3 → mG M 152 k = S.sz k) (h1 : mG M 134 0 = S.nr ∧ ∀ r : Int, 0 ≤ r → r < S.nr → mG M 135 r = S.k1 r ∧ mG M 136 r = S.k2 r) : pw (mX9_findStarts 126 M) (fun q => RSH S q.2 ∧ ∀ c j : Int, ¬ c = 153 → mG q.2 c j = mG M c j) := by
  have n4 := ok.2.1
  have loop : ∀ (fu r : Nat) (m : Mem), (r : Int) ≤ S.nr → (∀ c j : Int, ¬ c = 153 → mG m c j = mG M c j) → (∀ x : Nat, x ≤ r → mG m 153 (x : Int) = S.st x) → pw (mX9_findStarts_9 fu 126 (r : Int) m) (fun q => RSH S q.2 ∧ ∀ c j : Int, ¬ c = 153 → mG q.2 c j = mG M c j) := by
    intro fu
    induction fu with
    | zero => intro r m _ _ _; exact p_none
    | succ fu ih =>
      intro r m hr fr hs
      show pw (bX9_findStarts_9 (mX9_findStarts_9 fu) 126 (r : Int) m) _
      have km : K9 m := k9.kp (fun j _ => fr 126 j (by decide))
      have hm : ∀ k : Int, 0 ≤ k → k < 3 → mG m 152 k = S.sz k := fun k x y => (fr _ _ (by decide)).trans (h k x y)
      have e134 : mG m 134 0 = S.nr := (fr _ _ (by decide)).trans h1.1
      have ek : ∀ r : Int, 0 ≤ r → r < S.nr → mG m 135 r = S.k1 r ∧ mG m 136 r = S.k2 r := fun r x y => ⟨(fr _ _ (by decide)).trans (h1.2 r x y).1, (fr _ _ (by decide)).trans (h1.2 r x y).2⟩
      unfold bX9_findStarts_9
      refine p_gFc (ji := 8) rfl km.c8 (p_aGc e134 (p_if (fun c => p_ret ?_) (fun c => ?_)))
      · refine ⟨⟨hm, ⟨e134, ek⟩, fun x hx => hs x (by omega)⟩, fr⟩
      have r1 : (r : Int) < S.nr := by omega
      obtain ⟨k1, k2⟩ := ek (r : Int) (by omega) r1
      have kk := ok.2.2 (r : Int) (by omega) r1
      have z1 := ok.zv (k := S.k1 r) (by omega)
      have z2 := ok.zv (k := S.k2 r) kk.2
      refine p_gFc (ji := 27) rfl km.c27 (p_gFc (ji := 27) rfl km.c27 (p_aGc (hs r (Nat.le_refl _)) (p_gFc (ji := 9) rfl km.c9 (p_aGc k1 (p_gK (p_call (v_sizeOf km hm (by omega)) (fun v m1 y => ?_)))))))
      obtain ⟨y1, y2⟩ := y
      replace y1 : m1 = m := y1
      replace y2 : v = S.zv (S.k1 r) := y2
      subst y1; subst y2
      refine p_gFc (ji := 10) rfl km.c10 (p_aGc k2 (p_gK (p_call (v_sizeOf km hm kk.2) (fun v m2 y => ?_))))
      obtain ⟨y1, y2⟩ := y
      replace y1 : m2 = m1 := y1
      replace y2 : v = S.zv (S.k2 r) := y2
      subst y1; subst y2
      refine p_aS (fun m3 h3 => ?_)
      have st := ok.st (r := r) hr
      have mb := mul_b (x := S.zv (S.k1 r)) (y := S.zv (S.k2 r)) (a := 3) (b := 3) (by omega) (by omega) (by omega) (by omega)
      rw [wI_id (x := S.zv (S.k1 r) * S.zv (S.k2 r)) (by omega) (by omega), wI_id (x := S.st r + S.zv (S.k1 r) * S.zv (S.k2 r)) (by omega) (by omega), wI_s (p := r) (by omega)] at h3
      rw [wI_s (p := r) (by omega)]
      refine ih (r + 1) m3 (by omega) (fun c j x => (st_ne h3 (fun w => x w.1)).trans (fr c j x)) (fun x hx => ?_)
      by_cases e : x = r + 1
      · rw [e, st_eq h3]; rfl
      · rw [st_ne h3 (fun w => e (by have := w.2; omega))]
        exact hs x (by omega)
  unfold mX9_findStarts
  refine p_gFc (ji := 27) rfl k9.c27 (p_aS (fun m h2 => ?_))
  refine loop FU 0 m (by omega) (fun c j x => st_ne h2 (fun w => x w.1)) (fun x hx => ?_)
  have e : x = 0 := by omega
  subst e
  exact st_eq h2
theorem v_bringSizes (ok : S.ok) (k9 : K9 M) (h : RST S M) : pw (mX9_bringSizes 126 M) (fun q => RSH S q.2 ∧ FN M q.2) := by
  have loop : ∀ (fu k : Nat) (m : Mem), k ≤ 3 → (∀ c j : Int, ¬ c = 152 → mG m c j = mG M c j) → (∀ x : Int, 0 ≤ x → x < (k : Int) → mG m 152 x = S.sz x) → pw (mX9_bringSizes_2 fu 126 (k : Int) m) (fun q => RSH S q.2 ∧ FN M q.2) := by
    intro fu
    induction fu with
    | zero => intro k m _ _ _; exact p_none
    | succ fu ih =>
      intro k m hk fr hs
      show pw (bX9_bringSizes_2 (mX9_bringSizes_2 fu) 126 (k : Int) m) _
      have km : K9 m := k9.kp (fun j _ => fr 126 j (by decide))
      have rst : RST S m := h.kp (fun c j hc => fr c j (by omega))
      unfold bX9_bringSizes_2
      refine p_if (fun c => p_gK (p_call (v_findStarts ok km (fun x x0 x1 => hs x x0 (by omega)) rst.2) (fun v m1 y => p_ret ?_))) (fun c => ?_)
      · exact ⟨y.1, fun c j x z => (y.2 c j z).trans (fr c j x)⟩
      · refine p_gFc (ji := 26) rfl km.c26 (p_gFc (ji := 7) rfl km.c7 (p_aGc (rst.1 (k : Int) (by omega) (by omega)) (p_aS (fun m2 h2 => ?_))))
        rw [wI_s (p := k) (by omega)]
        refine ih (k + 1) m2 (by omega) (fun c j x => (st_ne h2 (fun w => x w.1)).trans (fr c j x)) (fun x x0 x1 => ?_)
        by_cases e : x = (k : Int)
        · rw [e]; exact st_eq h2
        · rw [st_ne h2 (fun w => e w.2)]
          exact hs x x0 (by omega)
  unfold mX9_bringSizes
  exact loop FU 0 M (by omega) (fun _ _ _ => rfl) (fun x x0 x1 => absurd x1 (by omega))
theorem v_manyFacts (ok : S.ok) (k9 : K9 M) (h : RSH S M) : pw (mX9_manyFacts 126 M) (fun q => q.2 = M ∧ q.1 = S.nf) := by
  have n4 := ok.2.1
  unfold mX9_manyFacts
  refine p_gFc (ji := 27) rfl k9.c27 (p_gFc (ji := 8) rfl k9.c8 (p_aGc h.2.1.1 (p_aGc ?_ (p_ret ⟨rfl, rfl⟩))))
  have := h.2.2 S.nr.toNat (by omega)
  rw [show ((S.nr.toNat : Nat) : Int) = S.nr by omega] at this
  exact this
theorem v_canTell (ok : S.ok) (k9 : K9 M) (h : RST S M) : pw (mX9_canTell 126 M) (fun q => RSH S q.2 ∧ FN M q.2 ∧ ((12 < S.nf ∧ q.1 = 0) ∨ (S.nf ≤ 12 ∧ q.1 = 1))) := by
  unfold mX9_canTell
  refine p_gK (p_call (v_bringSizes ok k9 h) (fun v m y => ?_))
  obtain ⟨y1, y2⟩ := y
  replace y1 : RSH S m := y1
  replace y2 : FN M m := y2
  refine p_gK (p_call (v_manyFacts ok (k9.fn y2) y1) (fun v m1 y => ?_))
  obtain ⟨y3, y4⟩ := y
  replace y3 : m1 = m := y3
  replace y4 : v = S.nf := y4
  subst y3; subst y4
  exact p_if (fun c => p_ret ⟨y1, y2, Or.inl ⟨c, rfl⟩⟩) (fun c => p_ret ⟨y1, y2, Or.inr ⟨by omega, rfl⟩⟩)
/-- the stories of the view, as bits -/
def tvb (M : Mem) : Nat := bitsOf (vwf (vdy (mG M 131 0) (mG M 132 0)) (mG M 139) (mG M 140)) (mG M 138 0).toNat
theorem v_told (k9 : K9 M) (hn : 0 ≤ mG M 138 0 ∧ mG M 138 0 ≤ 8) : pw (mX9_told 126 M) (fun q => q.2 = M ∧ q.1 = ((tvb M : Nat) : Int)) := by
  obtain ⟨dy, hdy⟩ : ∃ dy, dy = vdy (mG M 131 0) (mG M 132 0) := ⟨_, rfl⟩
  unfold tvb
  rw [← hdy]
  have loop : ∀ (fu k : Nat), (k : Int) ≤ mG M 138 0 → pw (mX9_told_30 fu 126 dy ((bitsOf (vwf dy (mG M 139) (mG M 140)) k : Nat) : Int) (k : Int) M) (fun q => q.2 = M ∧ q.1 = ((bitsOf (vwf dy (mG M 139) (mG M 140)) (mG M 138 0).toNat : Nat) : Int)) := by
    intro fu
    induction fu with
    | zero => intro k _; exact p_none
    | succ fu ih =>
      intro k hk
      show pw (bX9_told_30 (mX9_told_30 fu) 126 dy _ (k : Int) M) _
      unfold bX9_told_30
      have bl := bitsOf_lt (vwf dy (mG M 139) (mG M 140)) k
      have pl : 2 ^ k ≤ 2 ^ 8 := Nat.pow_le_pow_right (by decide) (by omega)
      refine p_gFc (ji := 12) rfl k9.c12 (p_aGc rfl (p_if (fun c => p_ret ⟨rfl, ?_⟩) (fun c => ?_)))
      · show ((bitsOf (vwf dy (mG M 139) (mG M 140)) k : Nat) : Int) = _
        rw [show (mG M 138 0).toNat = k by omega]
      have skip : vwf dy (mG M 139) (mG M 140) k = false → pw (mX9_told_77 (mX9_told_30 fu) 126 dy (k : Int) ((bitsOf (vwf dy (mG M 139) (mG M 140)) k : Nat) : Int) M) (fun q => q.2 = M ∧ q.1 = ((bitsOf (vwf dy (mG M 139) (mG M 140)) (mG M 138 0).toNat : Nat) : Int)) := fun hf => by
        unfold mX9_told_77 mX9_told_78
        rw [wI_s (p := k) (by omega), show (0 : Int) = ((0 : Nat) : Int) from rfl, ior_nn (by omega) (by omega), Nat.or_zero]
        have i := ih (k + 1) (by omega)
        have e : bitsOf (vwf dy (mG M 139) (mG M 140)) (k + 1) = bitsOf (vwf dy (mG M 139) (mG M 140)) k := by
          show (bitsOf _ k ||| _) = _
          rw [hf, if_neg (by decide), Nat.or_zero]
        rw [e] at i
        exact i
      have take : vwf dy (mG M 139) (mG M 140) k = true → pw (mX9_told_71 (mX9_told_30 fu) 126 dy (k : Int) ((bitsOf (vwf dy (mG M 139) (mG M 140)) k : Nat) : Int) M) (fun q => q.2 = M ∧ q.1 = ((bitsOf (vwf dy (mG M 139) (mG M 140)) (mG M 138 0).toNat : Nat) : Int)) := fun hf => by
        unfold mX9_told_71 mX9_told_78
        rw [wI_s (p := k) (by omega), ishl1 k (by omega), show (2 : Int) ^ k = ((2 ^ k : Nat) : Int) by simp, ior_nn (by omega) (by omega)]
        have i := ih (k + 1) (by omega)
        have e : bitsOf (vwf dy (mG M 139) (mG M 140)) (k + 1) = bitsOf (vwf dy (mG M 139) (mG M 140)) k ||| 2 ^ k := by
          show (bitsOf _ k ||| _) = _
          rw [hf, if_pos rfl]
        rw [e] at i
        exact i
      refine p_gFc (ji := 13) rfl k9.c13 (p_aGc rfl (p_if (fun c1 => skip ?_) (fun c1 => p_gFc (ji := 14) rfl k9.c14 (p_aGc rfl (p_if (fun c2 => take ?_) (fun c2 => p_gFc (ji := 14) rfl k9.c14 (p_aGc rfl (p_if (fun c3 => skip ?_) (fun c3 => take ?_)))))))))
      · unfold vwf; rw [decide_eq_false (show ¬ mG M 139 (k : Int) ≤ dy by omega)]; rfl
      · unfold vwf; rw [decide_eq_true (show mG M 139 (k : Int) ≤ dy by omega), decide_eq_true c2]; rfl
      · unfold vwf; rw [decide_eq_false c2, decide_eq_false (show ¬ dy < mG M 140 (k : Int) by omega), Bool.or_false, Bool.and_false]
      · unfold vwf; rw [decide_eq_true (show mG M 139 (k : Int) ≤ dy by omega), decide_eq_true (show dy < mG M 140 (k : Int) by omega), Bool.or_true]; rfl
  have fin : ∀ v, v = dy → pw (mX9_told_25 126 v M) (fun q => q.2 = M ∧ q.1 = ((bitsOf (vwf dy (mG M 139) (mG M 140)) (mG M 138 0).toNat : Nat) : Int)) := fun v hv => by
    subst hv
    unfold mX9_told_25
    exact loop FU 0 hn.1
  unfold mX9_told
  refine p_gFc (ji := 6) rfl k9.c6 (p_aGc rfl (p_if (fun c => p_gFc (ji := 5) rfl k9.c5 (p_aGc rfl (fin _ ?_))) (fun c => p_gFc (ji := 6) rfl k9.c6 (p_aGc rfl (fin _ ?_)))))
  · rw [hdy]; unfold vdy; rw [if_pos c]
  · rw [hdy]; unfold vdy; rw [if_neg c]
end
