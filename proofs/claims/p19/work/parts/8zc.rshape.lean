section
/-! ===== the reference lays out a shape, tells what is told ===== -/
/-- the shape as it is told; as it is laid out -/
def RST (S : SH) (M : Mem) : Prop := (∀ k : Int, 0 ≤ k → k < 3 → mG M 133 k = S.sz k) ∧ mG M 134 0 = S.nr ∧ ∀ r : Int, 0 ≤ r → r < S.nr → mG M 135 r = S.k1 r ∧ mG M 136 r = S.k2 r
def RSH (S : SH) (M : Mem) : Prop := (∀ k : Int, 0 ≤ k → k < 3 → mG M 152 k = S.sz k) ∧ (mG M 134 0 = S.nr ∧ ∀ r : Int, 0 ≤ r → r < S.nr → mG M 135 r = S.k1 r ∧ mG M 136 r = S.k2 r) ∧ ∀ r : Nat, (r : Int) ≤ S.nr → mG M 153 (r : Int) = S.st r
/-- other cells than the sizes and starts of now -/
def FN (M M' : Mem) : Prop := ∀ c j : Int, ¬ c = 152 → ¬ c = 153 → mG M' c j = mG M c j
theorem K9.fn {M M' : Mem} (h : K9 M) (k : FN M M') : K9 M' := h.kp (fun j _ => k 126 j (by decide) (by decide))
section
variable {S : SH} {M : Mem}
theorem RSH.kp {M' : Mem} (h : RSH S M) (g : ∀ c j : Int, c = 152 ∨ c = 153 ∨ (134 ≤ c ∧ c ≤ 136) → mG M' c j = mG M c j) : RSH S M' :=
  ⟨fun k x y => (g _ _ (by omega)).trans (h.1 k x y), ⟨(g _ _ (by omega)).trans h.2.1.1, fun r x y => ⟨(g _ _ (by omega)).trans (h.2.1.2 r x y).1, (g _ _ (by omega)).trans (h.2.1.2 r x y).2⟩⟩, fun r x => (g _ _ (by omega)).trans (h.2.2 r x)⟩
theorem RST.kp {M' : Mem} (h : RST S M) (g : ∀ c j : Int, 133 ≤ c ∧ c ≤ 136 → mG M' c j = mG M c j) : RST S M' :=
  ⟨fun k x y => (g _ _ (by omega)).trans (h.1 k x y), (g _ _ (by omega)).trans h.2.1, fun r x y => ⟨(g _ _ (by omega)).trans (h.2.2 r x y).1, (g _ _ (by omega)).trans (h.2.2 r x y).2⟩⟩
theorem v_sizeOf {k : Int} (k9 : K9 M) (h : ∀ k : Int, 0 ≤ k → k < 3 → mG M 152 k = S.sz k) (hk : -1 ≤ k ∧ k ≤ 2) : pw (mX9_sizeOf 126 k M) (fun q => q.2 = M ∧ q.1 = S.zv k) := by
  unfold mX9_sizeOf
  refine p_if (fun c => p_ret ⟨rfl, ?_⟩) (fun c => p_gFc (ji := 26) rfl k9.c26 (p_aGc (h k (by omega) (by omega)) (p_ret ⟨rfl, ?_⟩)))
  · show 1 = S.zv k
    unfold SH.zv; rw [if_pos c]
  · show S.sz k = S.zv k
    unfold SH.zv; rw [if_neg c]
theorem v_findStarts (ok : S.ok) (k9 : K9 M) (h : ∀ k : Int, 0 ≤ k → k < 3 → mG M 152 k = S.sz k) (h1 : mG M 134 0 = S.nr ∧ ∀ r : Int, 0 ≤ r → r < S.nr → mG M 135 r = S.k1 r ∧ mG M 136 r = S.k2 r) : pw (mX9_findStarts 126 M) (fun q => RSH S q.2 ∧ ∀ c j : Int, ¬ c = 153 → mG q.2 c j = mG M c j) := by
  have n4 := ok.2.1
  have loop : ∀ (fu r : Nat) (m : Mem), (r : Int) ≤ S.nr → (∀ c j : Int, ¬ c = 153 → mG m c j = mG M c j) → (∀ x : Nat, x ≤ r → mG m 153 (x : Int) = S.st x) → pw (mX9_findStarts_9 fu 126 (r : Int) m) (fun q => RSH S q.2 ∧ ∀ c j : Int, ¬ c = 153 → mG q.2 c j = mG M c j) := by
    intro fu
    induction fu with
    | zero => intro r m _ _ _; exact p_none
    | succ fu ih =>
      intro r m hr fr hs
      show pw (bX9_findStarts_9 (mX9_findStarts_9 fu) 126 (r : Int) m) _
      have km : K9 m := k9.kp (fun j _ => fr 126 j (by decide))
      have hm : ∀ k : Int, 0 ≤ k → k < 3 → mG m 152 k = S.sz k := fun k x y => (fr _ _ (by decide)).trans (h k x y)
      have e134 : mG m 134 0 = S.nr := (fr _ _ (by decide)).trans h1.1
      have ek : ∀ r : Int, 0 ≤ r → r < S.nr → mG m 135 r = S.k1 r ∧ mG m 136 r = S.k2 r := fun r x y => ⟨(fr _ _ (by decide)).trans (h1.2 r x y).1, (fr _ _ (by decide)).trans (h1.2 r x y).2⟩
      unfold bX9_findStarts_9
      refine p_gFc (ji := 8) rfl km.c8 (p_aGc e134 (p_if (fun c => p_ret ?_) (fun c => ?_)))
      · refine ⟨⟨hm, ⟨e134, ek⟩, fun x hx => hs x (by omega)⟩, fr⟩
      have r1 : (r : Int) < S.nr := by omega
      obtain ⟨k1, k2⟩ := ek (r : Int) (by omega) r1
      have kk := ok.2.2 (r : Int) (by omega) r1
      have z1 := ok.zv (k := S.k1 r) (by omega)
      have z2 := ok.zv (k := S.k2 r) kk.2
      refine p_gFc (ji := 27) rfl km.c27 (p_gFc (ji := 27) rfl km.c27 (p_aGc (hs r (Nat.le_refl _)) (p_gFc (ji := 9) rfl km.c9 (p_aGc k1 (p_gK (p_call (v_sizeOf km hm (by omega)) (fun v m1 y => ?_)))))))
      obtain ⟨y1, y2⟩ := y
      replace y1 : m1 = m := y1
      replace y2 : v = S.zv (S.k1 r) := y2
      subst y1; subst y2
      refine p_gFc (ji := 10) rfl km.c10 (p_aGc k2 (p_gK (p_call (v_sizeOf km hm kk.2) (fun v m2 y => ?_))))
      obtain ⟨y1, y2⟩ := y
      replace y1 : m2 = m1 := y1
      replace y2 : v = S.zv (S.k2 r) := y2
      subst y1; subst y2
      refine p_aS (fun m3 h3 => ?_)
      have st := ok.st (r := r) hr
      have mb := mul_b (x := S.zv (S.k1 r)) (y := S.zv (S.k2 r)) (a := 3) (b := 3) (by omega) (by omega) (by omega) (by omega)
      rw [wI_id (x := S.zv (S.k1 r) * S.zv (S.k2 r)) (by omega) (by omega), wI_id (x := S.st r + S.zv (S.k1 r) * S.zv (S.k2 r)) (by omega) (by omega), wI_s (p := r) (by omega)] at h3
      rw [wI_s (p := r) (by omega)]
      refine ih (r + 1) m3 (by omega) (fun c j x => (st_ne h3 (fun w => x w.1)).trans (fr c j x)) (fun x hx => ?_)
      by_cases e : x = r + 1
      · rw [e, st_eq h3]; rfl
      · rw [st_ne h3 (fun w => e (by have := w.2; omega))]
        exact hs x (by omega)
  unfold mX9_findStarts
  refine p_gFc (ji := 27) rfl k9.c27 (p_aS (fun m h2 => ?_))
  refine loop FU 0 m (by omega) (fun c j x => st_ne h2 (fun w => x w.1)) (fun x hx => ?_)
  have e : x = 0 := by omega
  subst e
  exact st_eq h2
theorem v_bringSizes (ok : S.ok) (k9 : K9 M) (h : RST S M) : pw (mX9_bringSizes 126 M) (fun q => RSH S q.2 ∧ FN M q.2) := by
  have loop : ∀ (fu k : Nat) (m : Mem), k ≤ 3 → (∀ c j : Int, ¬ c = 152 → mG m c j = mG M c j) → (∀ x : Int, 0 ≤ x → x < (k : Int) → mG m 152 x = S.sz x) → pw (mX9_bringSizes_2 fu 126 (k : Int) m) (fun q => RSH S q.2 ∧ FN M q.2) := by
    intro fu
    induction fu with
    | zero => intro k m _ _ _; exact p_none
    | succ fu ih =>
      intro k m hk fr hs
      show pw (bX9_bringSizes_2 (mX9_bringSizes_2 fu) 126 (k : Int) m) _
      have km : K9 m := k9.kp (fun j _ => fr 126 j (by decide))
      have rst : RST S m := h.kp (fun c j hc => fr c j (by omega))
      unfold bX9_bringSizes_2
      refine p_if (fun c => p_gK (p_call (v_findStarts ok km (fun x x0 x1 => hs x x0 (by omega)) rst.2) (fun v m1 y => p_ret ?_))) (fun c => ?_)
      · exact ⟨y.1, fun c j x z => (y.2 c j z).trans (fr c j x)⟩
      · refine p_gFc (ji := 26) rfl km.c26 (p_gFc (ji := 7) rfl km.c7 (p_aGc (rst.1 (k : Int) (by omega) (by omega)) (p_aS (fun m2 h2 => ?_))))
        rw [wI_s (p := k) (by omega)]
        refine ih (k + 1) m2 (by omega) (fun c j x => (st_ne h2 (fun w => x w.1)).trans (fr c j x)) (fun x x0 x1 => ?_)
        by_cases e : x = (k : Int)
        · rw [e]; exact st_eq h2
        · rw [st_ne h2 (fun w => e w.2)]
          exact hs x x0 (by omega)
  unfold mX9_bringSizes
  exact loop FU 0 M (by omega) (fun _ _ _ => rfl) (fun x x0 x1 => absurd x1 (by omega))
theorem v_manyFacts (ok : S.ok) (k9 : K9 M) (h : RSH S M) : pw (mX9_manyFacts 126 M) (fun q => q.2 = M ∧ q.1 = S.nf) := by
  have n4 := ok.2.1
  unfold mX9_manyFacts
  refine p_gFc (ji := 27) rfl k9.c27 (p_gFc (ji := 8) rfl k9.c8 (p_aGc h.2.1.1 (p_aGc ?_ (p_ret ⟨rfl, rfl⟩))))
  have := h.2.2 S.nr.toNat (by omega)
  rw [show ((S.nr.toNat : Nat) : Int) = S.nr by omega] at this
  exact this
theorem v_canTell (ok : S.ok) (k9 : K9 M) (h : RST S M) : pw (mX9_canTell 126 M) (fun q => RSH S q.2 ∧ FN M q.2 ∧ ((12 < S.nf ∧ q.1 = 0) ∨ (S.nf ≤ 12 ∧ q.1 = 1))) := by
  unfold mX9_canTell
  refine p_gK (p_call (v_bringSizes ok k9 h) (fun v m y => ?_))
  obtain ⟨y1, y2⟩ := y
  replace y1 : RSH S m := y1
  replace y2 : FN M m := y2
  refine p_gK (p_call (v_manyFacts ok (k9.fn y2) y1) (fun v m1 y => ?_))
  obtain ⟨y3, y4⟩ := y
  replace y3 : m1 = m := y3
  replace y4 : v = S.nf := y4
  subst y3; subst y4
  exact p_if (fun c => p_ret ⟨y1, y2, Or.inl ⟨c, rfl⟩⟩) (fun c => p_ret ⟨y1, y2, Or.inr ⟨by omega, rfl⟩⟩)
/-- the stories of the view, as bits -/
def tvb (M : Mem) : Nat := bitsOf (vwf (vdy (mG M 131 0) (mG M 132 0)) (mG M 139) (mG M 140)) (mG M 138 0).toNat
theorem v_told (k9 : K9 M) (hn : 0 ≤ mG M 138 0 ∧ mG M 138 0 ≤ 8) : pw (mX9_told 126 M) (fun q => q.2 = M ∧ q.1 = ((tvb M : Nat) : Int)) := by
  obtain ⟨dy, hdy⟩ : ∃ dy, dy = vdy (mG M 131 0) (mG M 132 0) := ⟨_, rfl⟩
  unfold tvb
  rw [← hdy]
  have loop : ∀ (fu k : Nat), (k : Int) ≤ mG M 138 0 → pw (mX9_told_30 fu 126 dy ((bitsOf (vwf dy (mG M 139) (mG M 140)) k : Nat) : Int) (k : Int) M) (fun q => q.2 = M ∧ q.1 = ((bitsOf (vwf dy (mG M 139) (mG M 140)) (mG M 138 0).toNat : Nat) : Int)) := by
    intro fu
    induction fu with
    | zero => intro k _; exact p_none
    | succ fu ih =>
      intro k hk
      show pw (bX9_told_30 (mX9_told_30 fu) 126 dy _ (k : Int) M) _
      unfold bX9_told_30
      have bl := bitsOf_lt (vwf dy (mG M 139) (mG M 140)) k
      have pl : 2 ^ k ≤ 2 ^ 8 := Nat.pow_le_pow_right (by decide) (by omega)
      refine p_gFc (ji := 12) rfl k9.c12 (p_aGc rfl (p_if (fun c => p_ret ⟨rfl, ?_⟩) (fun c => ?_)))
      · show ((bitsOf (vwf dy (mG M 139) (mG M 140)) k : Nat) : Int) = _
        rw [show (mG M 138 0).toNat = k by omega]
      have skip : vwf dy (mG M 139) (mG M 140) k = false → pw (mX9_told_77 (mX9_told_30 fu) 126 dy (k : Int) ((bitsOf (vwf dy (mG M 139) (mG M 140)) k : Nat) : Int) M) (fun q => q.2 = M ∧ q.1 = ((bitsOf (vwf dy (mG M 139) (mG M 140)) (mG M 138 0).toNat : Nat) : Int)) := fun hf => by
        unfold mX9_told_77 mX9_told_78
        rw [wI_s (p := k) (by omega), show (0 : Int) = ((0 : Nat) : Int) from rfl, ior_nn (by omega) (by omega), Nat.or_zero]
        have i := ih (k + 1) (by omega)
        have e : bitsOf (vwf dy (mG M 139) (mG M 140)) (k + 1) = bitsOf (vwf dy (mG M 139) (mG M 140)) k := by
          show (bitsOf _ k ||| _) = _
          rw [hf, if_neg (by decide), Nat.or_zero]
        rw [e] at i
        exact i
      have take : vwf dy (mG M 139) (mG M 140) k = true → pw (mX9_told_71 (mX9_told_30 fu) 126 dy (k : Int) ((bitsOf (vwf dy (mG M 139) (mG M 140)) k : Nat) : Int) M) (fun q => q.2 = M ∧ q.1 = ((bitsOf (vwf dy (mG M 139) (mG M 140)) (mG M 138 0).toNat : Nat) : Int)) := fun hf => by
        unfold mX9_told_71 mX9_told_78
        rw [wI_s (p := k) (by omega), ishl1 k (by omega), show (2 : Int) ^ k = ((2 ^ k : Nat) : Int) by simp, ior_nn (by omega) (by omega)]
        have i := ih (k + 1) (by omega)
        have e : bitsOf (vwf dy (mG M 139) (mG M 140)) (k + 1) = bitsOf (vwf dy (mG M 139) (mG M 140)) k ||| 2 ^ k := by
          show (bitsOf _ k ||| _) = _
          rw [hf, if_pos rfl]
        rw [e] at i
        exact i
      refine p_gFc (ji := 13) rfl k9.c13 (p_aGc rfl (p_if (fun c1 => skip ?_) (fun c1 => p_gFc (ji := 14) rfl k9.c14 (p_aGc rfl (p_if (fun c2 => take ?_) (fun c2 => p_gFc (ji := 14) rfl k9.c14 (p_aGc rfl (p_if (fun c3 => skip ?_) (fun c3 => take ?_)))))))))
      · unfold vwf; rw [decide_eq_false (show ¬ mG M 139 (k : Int) ≤ dy by omega)]; rfl
      · unfold vwf; rw [decide_eq_true (show mG M 139 (k : Int) ≤ dy by omega), decide_eq_true c2]; rfl
      · unfold vwf; rw [decide_eq_false c2, decide_eq_false (show ¬ dy < mG M 140 (k : Int) by omega), Bool.or_false, Bool.and_false]
      · unfold vwf; rw [decide_eq_true (show mG M 139 (k : Int) ≤ dy by omega), decide_eq_true (show dy < mG M 140 (k : Int) by omega), Bool.or_true]; rfl
  have fin : ∀ v, v = dy → pw (mX9_told_25 126 v M) (fun q => q.2 = M ∧ q.1 = ((bitsOf (vwf dy (mG M 139) (mG M 140)) (mG M 138 0).toNat : Nat) : Int)) := fun v hv => by
    subst hv
    unfold mX9_told_25
    exact loop FU 0 hn.1
  unfold mX9_told
  refine p_gFc (ji := 6) rfl k9.c6 (p_aGc rfl (p_if (fun c => p_gFc (ji := 5) rfl k9.c5 (p_aGc rfl (fin _ ?_))) (fun c => p_gFc (ji := 6) rfl k9.c6 (p_aGc rfl (fin _ ?_)))))
  · rw [hdy]; unfold vdy; rw [if_pos c]
  · rw [hdy]; unfold vdy; rw [if_neg c]
end
end
section
/-! ===== what is known, as bits ===== -/
section
variable {S : SH} {M : Mem}
theorem v_factAt15 {r i j : Int} (ok : S.ok) (k9 : K9 M) (h : RSH S M) (h0 : 0 ≤ r) (h1 : r < S.nr) : pw (mX9_factAt_15 126 r i (S.col r j) M) (fun q => q.2 = M ∧ ((S.inr r i j ∧ q.1 = S.at' r i j) ∨ (¬ S.inr r i j ∧ q.1 = -1))) := by
  obtain ⟨b1, b2⟩ := h.2.1.2 r h0 h1
  have b3 : mG M 153 r = S.st r.toNat := by
    have := h.2.2 r.toNat (by omega)
    rw [show ((r.toNat : Nat) : Int) = r by omega] at this
    exact this
  have a1 := k9.c9
  have a2 := k9.c10
  have a9 := k9.c27
  have k := ok.2.2 r h0 h1
  have z1 := ok.zv (k := S.k1 r) (by omega)
  have z2 := ok.zv (k := S.k2 r) k.2
  have s9 := ok.st9 h0 h1
  unfold mX9_factAt_15
  refine p_gFc (ji := 9) rfl a1 (p_aGc b1 (p_gK (p_call (v_sizeOf k9 h.1 (by omega)) (fun v m y => ?_))))
  obtain ⟨e, y⟩ := y
  replace e : m = M := e
  replace y : v = S.zv (S.k1 r) := y
  subst e; subst y
  rw [wI_id (x := S.zv (S.k1 r) - 1) (by omega) (by omega)]
  refine p_call w_in (fun v m2 y => ?_)
  obtain ⟨e, y⟩ := y
  replace e : m2 = m := e
  subst e
  rcases y with ⟨c1, hv⟩ | ⟨c1, hv⟩
  · replace hv : v = 1 := hv
    subst hv
    refine p_it0 (show ¬ (1 : Int) = 0 by decide) (p_gFc (ji := 10) rfl a2 (p_aGc b2 (p_gK (p_call (v_sizeOf k9 h.1 k.2) (fun v m y => ?_)))))
    obtain ⟨e, y⟩ := y
    replace e : m = m2 := e
    replace y : v = S.zv (S.k2 r) := y
    subst e; subst y
    rw [wI_id (x := S.zv (S.k2 r) - 1) (by omega) (by omega)]
    refine p_call w_in (fun v m2 y => ?_)
    obtain ⟨e, y⟩ := y
    replace e : m2 = m := e
    subst e
    rcases y with ⟨c2, hv⟩ | ⟨c2, hv⟩
    · replace hv : v = 1 := hv
      subst hv
      refine p_it0 (show ¬ (1 : Int) = 0 by decide) (p_gFc (ji := 27) rfl a9 (p_aGc b3 (p_gFc (ji := 10) rfl a2 (p_aGc b2 (p_gK (p_call (v_sizeOf k9 h.1 k.2) (fun v m y => p_ret ?_)))))))
      obtain ⟨e, y⟩ := y
      replace e : m = m2 := e
      replace y : v = S.zv (S.k2 r) := y
      subst e; subst y
      refine ⟨rfl, Or.inl ⟨⟨by omega, by omega⟩, ?_⟩⟩
      have p := mul_b (x := S.zv (S.k2 r)) (y := i) (a := 3) (b := 3) (by omega) (by omega) (by omega) (by omega)
      show wI (wI (S.st r.toNat + wI (S.zv (S.k2 r) * i)) + S.col r j) = S.st r.toNat + S.zv (S.k2 r) * i + S.col r j
      rw [wI_id (x := S.zv (S.k2 r) * i) (by omega) (by omega), wI_id (x := S.st r.toNat + S.zv (S.k2 r) * i) (by omega) (by omega), wI_id (x := S.st r.toNat + S.zv (S.k2 r) * i + S.col r j) (by omega) (by omega)]
    · replace hv : v = 0 := hv
      subst hv
      exact p_it1 rfl (p_ret ⟨rfl, Or.inr ⟨fun w => c2 (by have := w.2; omega), rfl⟩⟩)
  · replace hv : v = 0 := hv
    subst hv
    exact p_it1 rfl (p_ret ⟨rfl, Or.inr ⟨fun w => c1 (by have := w.1; omega), rfl⟩⟩)
theorem v_factAt {r i j : Int} (ok : S.ok) (k9 : K9 M) (h : RSH S M) (h0 : 0 ≤ r) (h1 : r < S.nr) : pw (mX9_factAt 126 r i j M) (fun q => q.2 = M ∧ ((S.inr r i j ∧ q.1 = S.at' r i j) ∨ (¬ S.inr r i j ∧ q.1 = -1))) := by
  have fin := v_factAt15 (i := i) (j := j) ok k9 h h0 h1
  obtain ⟨b1, b2⟩ := h.2.1.2 r h0 h1
  have a2 := k9.c10
  unfold mX9_factAt
  refine p_gFc (ji := 10) rfl a2 (p_aGc b2 (p_if (fun c3 => ?_) (fun c3 => ?_)))
  · have e : S.col r j = 0 := if_pos c3
    rw [e] at fin; exact fin
  · have e : S.col r j = j := if_neg c3
    rw [e] at fin; exact fin
/-- a fact stands at one place -/
theorem at_inj {r i j r' i' j' : Int} (ok : S.ok) (h0 : 0 ≤ r) (h1 : r < S.nr) (h0' : 0 ≤ r') (h1' : r' < S.nr) (hi : S.inr r i j) (hi' : S.inr r' i' j') (e : S.at' r i j = S.at' r' i' j') : r = r' ∧ i = i' ∧ S.col r j = S.col r j' := by
  have p := ok.pos h0 h1 hi
  have p' := ok.pos h0' h1' hi'
  have lt : ∀ a b : Nat, a < b → (b : Int) ≤ S.nr → S.st (a + 1) ≤ S.st b := fun a b hab hb => by
    have := (ok.mono (a := a + 1) (b - (a + 1)) (by omega)).1
    rw [show a + 1 + (b - (a + 1)) = b by omega] at this
    exact this
  have er : r = r' := by
    apply Classical.byContradiction
    intro hne
    by_cases c : r < r'
    · have := lt r.toNat r'.toNat (by omega) (by omega)
      omega
    · have := lt r'.toNat r.toNat (by omega) (by omega)
      omega
  subst er
  unfold SH.at' at e
  obtain ⟨_, c1, c2⟩ := hi
  obtain ⟨_, c1', c2'⟩ := hi'
  have z := zv_c ok h0 h1
  generalize S.zv (S.k2 r) = z at *
  refine ⟨rfl, ?_⟩
  rcases z with z | z | z <;> subst z <;> omega
/-- where what is known of a fact belongs -/
def SH.pl (S : SH) (x : Int) : Int := if (0 ≤ x / 9 ∧ x / 9 < S.nr) ∧ S.inr (x / 9) (x / 3 % 3) (x % 3) then S.at' (x / 9) (x / 3 % 3) (x % 3) else -1
theorem pl_rg (ok : S.ok) (x : Int) : S.pl x = -1 ∨ (0 ≤ S.pl x ∧ S.pl x < S.nf) := by
  unfold SH.pl
  split
  · rename_i h
    have p := ok.pos h.1.1 h.1.2 h.2
    have s := ok.st9 h.1.1 h.1.2
    exact Or.inr ⟨by omega, by omega⟩
  · exact Or.inl rfl
theorem pl_iff {x r i j : Int} (ok : S.ok) (h0 : 0 ≤ r) (h1 : r < S.nr) (hi : S.inr r i j) (hj : 0 ≤ j ∧ j < S.zv (S.k2 r)) (hx : 0 ≤ x ∧ x < 9 * S.nr) (ho : S.k2 (x / 9) = -1 → x % 3 = 0) : S.pl x = S.at' r i j ↔ x = 9 * r + 3 * i + j := by
  have z1 := ok.zv (k := S.k1 r) (by have := (ok.2.2 r h0 h1).1; omega)
  have z2 := zv_c ok h0 h1
  have p := ok.pos h0 h1 hi
  have s := ok.st9 h0 h1
  have hi1 := hi.1
  constructor
  · intro e
    unfold SH.pl at e
    split at e
    · rename_i h
      obtain ⟨e1, e2, e3⟩ := at_inj ok h.1.1 h.1.2 h0 h1 h.2 hi e
      rw [e1] at e3 ho
      have e4 : x % 3 = j := by
        unfold SH.col at e3
        split at e3
        · rename_i h2
          have := ho h2
          have : S.zv (S.k2 r) = 1 := by unfold SH.zv; rw [if_pos h2]
          omega
        · exact e3
      omega
    · omega
  · intro e
    have a1 : x / 9 = r := by omega
    have a2 : x / 3 % 3 = i := by omega
    have a3 : x % 3 = j := by omega
    unfold SH.pl
    rw [a1, a2, a3, if_pos ⟨⟨h0, h1⟩, hi⟩]
/-- what is known of each place, as the reference has it -/
def knR (S : SH) (M : Mem) (p : Int) : Int := knf (mG M 147) (mG M 148) (mG M 149) (vdy (mG M 131 0) (mG M 132 0)) (fun x => decide (S.pl x = p)) (mG M 146 0).toNat
def kbs (F : Int → Int) (n : Nat) : Nat := bitsOf (fun b => !decide (F ((n : Int) - 1 - (b : Int)) = -1)) n
def kss (F : Int → Int) (n : Nat) : Nat := bitsOf (fun b => decide (F ((n : Int) - 1 - (b : Int)) = 1)) n
theorem up_kb {F G : Int → Int} {n p : Nat} (hp : p < n) (h : G (p : Int) = 0 ∨ G (p : Int) = 1) (e : ∀ q : Int, ¬ q = (p : Int) → G q = F q) : kbs G n = kbs F n ||| 2 ^ (n - 1 - p) := by
  refine Nat.eq_of_testBit_eq (fun i => ?_)
  unfold kbs
  rw [Nat.testBit_or, bitsOf_b, bitsOf_b]
  by_cases c : i = n - 1 - p
  · subst c
    rw [Nat.testBit_two_pow_self, Bool.or_true, decide_eq_true (show n - 1 - p < n by omega), show (n : Int) - 1 - ((n - 1 - p : Nat) : Int) = (p : Int) by omega]
    rcases h with h | h <;> rw [h] <;> rfl
  · rw [Nat.testBit_two_pow_of_ne (fun y => c y.symm), Bool.or_false]
    by_cases d : i < n
    · rw [e _ (by omega)]
    · rw [decide_eq_false d]; rfl
theorem up_ks1 {F G : Int → Int} {n p : Nat} (hp : p < n) (h : G (p : Int) = 1) (e : ∀ q : Int, ¬ q = (p : Int) → G q = F q) : kss G n = kss F n ||| 2 ^ (n - 1 - p) := by
  refine Nat.eq_of_testBit_eq (fun i => ?_)
  unfold kss
  rw [Nat.testBit_or, bitsOf_b, bitsOf_b]
  by_cases c : i = n - 1 - p
  · subst c
    rw [Nat.testBit_two_pow_self, Bool.or_true, decide_eq_true (show n - 1 - p < n by omega), show (n : Int) - 1 - ((n - 1 - p : Nat) : Int) = (p : Int) by omega, h]; rfl
  · rw [Nat.testBit_two_pow_of_ne (fun y => c y.symm), Bool.or_false]
    by_cases d : i < n
    · rw [e _ (by omega)]
    · rw [decide_eq_false d]; rfl
theorem up_ks0 {F G : Int → Int} {n p : Nat} (hn : n ≤ 12) (hp : p < n) (h : G (p : Int) = 0) (e : ∀ q : Int, ¬ q = (p : Int) → G q = F q) : kss G n = kss F n &&& (4095 ^^^ 2 ^ (n - 1 - p)) := by
  refine Nat.eq_of_testBit_eq (fun i => ?_)
  unfold kss
  rw [Nat.testBit_and, Nat.testBit_xor, bitsOf_b, bitsOf_b, show (4095 : Nat) = 2 ^ 12 - 1 from rfl, Nat.testBit_two_pow_sub_one]
  by_cases c : i = n - 1 - p
  · subst c
    rw [Nat.testBit_two_pow_self, decide_eq_true (show n - 1 - p < 12 by omega), show (n : Int) - 1 - ((n - 1 - p : Nat) : Int) = (p : Int) by omega, h]
    cases decide (n - 1 - p < n) <;> cases decide (F (p : Int) = 1) <;> rfl
  · rw [Nat.testBit_two_pow_of_ne (fun y => c y.symm), Bool.xor_false]
    by_cases d : i < n
    · rw [e _ (by omega), decide_eq_true (show i < 12 by omega), Bool.and_true]
    · rw [decide_eq_false d]; rfl
theorem kb_congr {F G : Int → Int} {n : Nat} (e : ∀ p : Int, 0 ≤ p → G p = F p) : kbs G n = kbs F n ∧ kss G n = kss F n :=
  ⟨bitsOf_congr n (fun i hi => by rw [e _ (by omega)]), bitsOf_congr n (fun i hi => by rw [e _ (by omega)])⟩
theorem kb_lt (F : Int → Int) (n : Nat) : kbs F n < 2 ^ n := bitsOf_lt _ _
theorem ks_lt (F : Int → Int) (n : Nat) : kss F n < 2 ^ n := bitsOf_lt _ _
/-- as it is known, by bits -/
theorem as_known {F : Int → Int} {n w : Nat} (h : ∀ p, F p = -1 ∨ F p = 0 ∨ F p = 1) : (w &&& kbs F n = kss F n) ↔ allb (okp (n : Int) F w) n = true := by
  have tb : ∀ i, i < n → ((w &&& kbs F n).testBit i = (kss F n).testBit i ↔ okp (n : Int) F w (n - 1 - i) = true) := fun i hi => by
    unfold kbs kss okp phw
    rw [Nat.testBit_and, bitsOf_b, bitsOf_b, decide_eq_true hi, show (n : Int) - 1 - ((n - 1 - i : Nat) : Int) = (i : Int) by omega, show ((n - 1 - i : Nat) : Int) = (n : Int) - 1 - (i : Int) by omega, Int.toNat_natCast]
    rcases h ((n : Int) - 1 - (i : Int)) with e | e | e <;> rw [e] <;> cases w.testBit i <;> decide
  rw [allb_t]
  constructor
  · intro e i hi
    have := (tb (n - 1 - i) (by omega)).mp (by rw [e])
    rw [show n - 1 - (n - 1 - i) = i by omega] at this
    exact this
  · intro e
    refine Nat.eq_of_testBit_eq (fun i => ?_)
    by_cases c : i < n
    · exact (tb i c).mpr (e _ (by omega))
    · unfold kbs kss
      rw [Nat.testBit_and, bitsOf_b, bitsOf_b, decide_eq_false c, Bool.false_and, Bool.false_and, Bool.and_false]
/-- clear a bit -/
theorem ix_b {b : Nat} (hb : b < 4096) : (Int32.ofInt (ixor (b : Int) (-1))).toBitVec.toNat = b ^^^ 4294967295 := by
  unfold ixor
  rw [Int32.ofInt_toInt, Int32.toBitVec_xor, BitVec.toNat_xor, nonneg_bv (by omega) (by omega), Int.toNat_natCast]
  congr 1
theorem iand_clr {a b : Nat} (ha : a < 4096) (hb : b < 4096) : iand (a : Int) (ixor (b : Int) (-1)) = ((a &&& (4095 ^^^ b) : Nat) : Int) := by
  have e : (Int32.ofInt (a : Int) &&& Int32.ofInt (ixor (b : Int) (-1))).toBitVec.toNat = a &&& (4095 ^^^ b) := by
    rw [Int32.toBitVec_and, BitVec.toNat_and, nonneg_bv (by omega) (by omega), ix_b hb, Int.toNat_natCast]
    refine Nat.eq_of_testBit_eq (fun i => ?_)
    rw [Nat.testBit_and, Nat.testBit_and, Nat.testBit_xor, Nat.testBit_xor, show (4294967295 : Nat) = 2 ^ 32 - 1 from rfl, show (4095 : Nat) = 2 ^ 12 - 1 from rfl, Nat.testBit_two_pow_sub_one, Nat.testBit_two_pow_sub_one]
    by_cases c : i < 12
    · rw [decide_eq_true c, decide_eq_true (show i < 32 by omega), Bool.xor_comm]
    · have : a.testBit i = false := Nat.testBit_lt_two_pow (Nat.lt_of_lt_of_le ha (Nat.pow_le_pow_right (n := 2) (by decide) (show 12 ≤ i by omega)))
      rw [this]; rfl
  have h2 : a &&& (4095 ^^^ b) ≤ a := Nat.and_le_left
  unfold iand
  rw [toInt_small _ (by rw [e]; omega), e]
/-- the known entries -/
def KNO (S : SH) (M : Mem) : Prop := (0 ≤ mG M 146 0 ∧ mG M 146 0 ≤ 40) ∧ ∀ k : Nat, (k : Int) < mG M 146 0 → (0 ≤ mG M 147 (k : Int) ∧ mG M 147 (k : Int) < 9 * S.nr) ∧ (mG M 148 (k : Int) = 0 ∨ mG M 148 (k : Int) = 1)
def FK (M M' : Mem) : Prop := ∀ c j : Int, ¬ (c = 126 ∧ (j = 49 ∨ j = 50)) → mG M' c j = mG M c j
theorem v_findKnown {n : Nat} (ok : S.ok) (hn : S.nf = (n : Int)) (n12 : n ≤ 12) (k9 : K9 M) (h : RSH S M) (kn : KNO S M) : pw (mX9_findKnown 126 M) (fun q => mG q.2 126 49 = ((kbs (knR S M) n : Nat) : Int) ∧ mG q.2 126 50 = ((kss (knR S M) n : Nat) : Int) ∧ FK M q.2) := by
  obtain ⟨dy, hdy⟩ : ∃ dy, dy = vdy (mG M 131 0) (mG M 132 0) := ⟨_, rfl⟩
  obtain ⟨F, hF⟩ : ∃ F : Nat → Int → Int, F = fun k p => knf (mG M 147) (mG M 148) (mG M 149) dy (fun x => decide (S.pl x = p)) k := ⟨_, rfl⟩
  have eF : knR S M = F (mG M 146 0).toNat := by rw [hF]; funext p; unfold knR; rw [hdy]
  rw [eF]
  obtain ⟨Q, hQ⟩ : ∃ Q : Int × Mem → Prop, Q = fun q => mG q.2 126 49 = ((kbs (F (mG M 146 0).toNat) n : Nat) : Int) ∧ mG q.2 126 50 = ((kss (F (mG M 146 0).toNat) n : Nat) : Int) ∧ FK M q.2 := ⟨_, rfl⟩
  rw [← hQ]
  have p12 : 2 ^ n ≤ 2 ^ 12 := Nat.pow_le_pow_right (n := 2) (by decide) n12
  have step : ∀ (k : Nat) (p : Int), F (k + 1) p = if S.pl (mG M 147 (k : Int)) = p ∧ mG M 149 (k : Int) ≤ dy then (if mG M 148 (k : Int) = 0 then 0 else 1) else F k p := fun k p => by
    rw [hF]
    show (if decide _ = true ∧ _ then _ else _) = _
    by_cases c : S.pl (mG M 147 (k : Int)) = p
    · by_cases d : mG M 149 (k : Int) ≤ dy
      · exact (if_pos ⟨decide_eq_true c, d⟩).trans (if_pos ⟨c, d⟩).symm
      · exact (if_neg (fun w => d w.2)).trans (if_neg (fun w => d w.2)).symm
    · exact (if_neg (fun w => c (of_decide_eq_true w.1))).trans (if_neg (fun w => c w.1)).symm
  have loop : ∀ (fu k : Nat) (m : Mem), (k : Int) ≤ mG M 146 0 → FK M m → mG m 126 49 = ((kbs (F k) n : Nat) : Int) → mG m 126 50 = ((kss (F k) n : Nat) : Int) → pw (mX9_findKnown_43 fu 126 dy (n : Int) (k : Int) m) Q := by
    intro fu
    induction fu with
    | zero => intro k m _ _ _ _; exact p_none
    | succ fu ih =>
      intro k m hk fr e49 e50
      show pw (bX9_findKnown_43 (mX9_findKnown_43 fu) 126 dy (n : Int) (k : Int) m) _
      have k40 := kn.1.2
      have g : ∀ c j : Int, ¬ c = 126 → mG m c j = mG M c j := fun c j x => fr c j (fun w => x w.1)
      have km : K9 m := k9.kp (fun j hj => fr 126 j (fun w => by omega))
      unfold bX9_findKnown_43
      refine p_gFc (ji := 20) rfl km.c20 (p_aGc (g 146 0 (by decide)) (p_if (fun c => p_ret ?_) (fun c => ?_)))
      · rw [show k = (mG M 146 0).toNat by omega] at e49 e50
        rw [hQ]
        exact ⟨e49, e50, fr⟩
      have k1 : (k : Int) < mG M 146 0 := by omega
      obtain ⟨⟨x0, x1⟩, hb⟩ := kn.2 k k1
      obtain ⟨x, hx⟩ : ∃ x, x = mG M 147 (k : Int) := ⟨_, rfl⟩
      have n4 := ok.2.1
      rw [← hx] at x0 x1
      have ex : mG m 147 (k : Int) = x := (g 147 _ (by decide)).trans hx.symm
      have stk := step k
      rw [← hx] at stk
      refine p_gFc (ji := 21) rfl km.c21 (p_aGc ex (p_dQc (idiv_e x0 (by omega) (by decide) (by decide)) (p_gFc (ji := 21) rfl km.c21 (p_aGc ex (p_dQc (idiv_e x0 (by omega) (by decide) (by decide)) (p_dMc (irem_e (by omega) (by omega) (by decide) (by decide)) (p_gFc (ji := 21) rfl km.c21 (p_aGc ex (p_dMc (irem_e x0 (by omega) (by decide) (by decide)) (p_gK (p_call (v_factAt (r := x / 9) (i := x / 3 % 3) (j := x % 3) ok km (h.kp (fun c j hc => g c j (by omega))) (by omega) (by omega)) (fun v m1 y => ?_))))))))))))
      obtain ⟨y1, y2⟩ := y
      replace y1 : m1 = m := y1
      subst y1
      have skip : (∀ p : Int, 0 ≤ p → F (k + 1) p = F k p) → pw (mX9_findKnown_163 (mX9_findKnown_43 fu) 126 dy (n : Int) (k : Int) m1) Q := fun hs => by
        unfold mX9_findKnown_163
        rw [wI_s (p := k) (by omega)]
        have e := kb_congr (n := n) hs
        exact ih (k + 1) m1 (by omega) fr (by rw [e.1]; exact e49) (by rw [e.2]; exact e50)
      rcases y2 with ⟨c1, hv⟩ | ⟨c1, hv⟩
      · replace hv : v = S.at' (x / 9) (x / 3 % 3) (x % 3) := hv
        have pl : S.pl x = v := by unfold SH.pl; rw [if_pos ⟨⟨by omega, by omega⟩, c1⟩, hv]
        have pr := ok.pos (by omega) (by omega) c1
        have s9 := ok.st9 (r := x / 9) (by omega) (by omega)
        rw [← hv] at pr
        obtain ⟨p, hp⟩ := Int.eq_ofNat_of_zero_le (show 0 ≤ v by omega)
        subst hp
        refine p_it0 (by show ¬ ((p : Nat) : Int) = -1; omega) (p_gFc (ji := 23) rfl km.c23 (p_aGc (g 149 _ (by decide)) (p_if (fun c2 => ?_) (fun c2 => skip (fun q _ => ?_)))))
        · refine p_some (fun b hb' => ?_)
          rw [wI_id (x := (n : Int) - 1) (by omega) (by omega), wI_id (x := (n : Int) - 1 - (p : Int)) (by omega) (by omega), show (n : Int) - 1 - (p : Int) = ((n - 1 - p : Nat) : Int) by omega, ishl1 (n - 1 - p) (by omega), show (2 : Int) ^ (n - 1 - p) = ((2 ^ (n - 1 - p) : Nat) : Int) by simp] at hb'
          subst hb'
          have pb : 2 ^ (n - 1 - p) < 2 ^ n := Nat.pow_lt_pow_right (n := n) (by decide) (by omega)
          have l1 := kb_lt (F k) n
          have l2 := ks_lt (F k) n
          have fp : F (k + 1) (p : Int) = (if mG M 148 (k : Int) = 0 then 0 else 1) := by rw [stk, if_pos ⟨pl, c2⟩]
          have fo : ∀ q : Int, ¬ q = (p : Int) → F (k + 1) q = F k q := fun q hq => by rw [stk, if_neg (fun w => hq (w.1.symm.trans pl))]
          have hp1 : p < n := by omega
          have hkb := up_kb (F := F k) (G := F (k + 1)) hp1 (by rw [fp]; split <;> simp) fo
          refine p_gFc (ji := 49) rfl e49 (p_pF (ji := 49) rfl (fun m2 h2 => ?_))
          rw [ior_nn (by omega) (by omega), ← hkb] at h2
          have f2 : FK M m2 := fun c j z => (st_ne h2 (fun w => z ⟨w.1, Or.inl w.2⟩)).trans (fr c j z)
          have g2 : ∀ c j : Int, ¬ c = 126 → mG m2 c j = mG M c j := fun c j z => f2 c j (fun w => z w.1)
          have km2 : K9 m2 := k9.kp (fun j hj => f2 126 j (fun w => by omega))
          have e50' : mG m2 126 50 = ((kss (F k) n : Nat) : Int) := (st_ne h2 (fun w => absurd w.2 (by decide))).trans e50
          have fin : ∀ v : Nat, v = kss (F (k + 1)) n → pw (mX9_findKnown_160 (mX9_findKnown_43 fu) 126 dy (n : Int) (k : Int) 126 (v : Int) m2) Q := fun v hv => by
            unfold mX9_findKnown_160 mX9_findKnown_163
            refine p_pF (ji := 50) rfl (fun m3 h3 => ?_)
            rw [wI_s (p := k) (by omega)]
            exact ih (k + 1) m3 (by omega) (fun c j z => (st_ne h3 (fun w => z ⟨w.1, Or.inr w.2⟩)).trans (f2 c j z)) ((st_ne h3 (fun w => absurd w.2 (by decide))).trans (st_eq h2)) (by rw [st_eq h3, hv])
          refine p_gFc (ji := 22) rfl km2.c22 (p_aGc (g2 148 _ (by decide)) (p_if (fun c3 => ?_) (fun c3 => ?_)))
          · refine p_gFc (ji := 50) rfl e50' ?_
            rw [ior_nn (by omega) (by omega)]
            refine fin _ (up_ks1 hp1 ?_ fo).symm
            rw [fp, if_neg (by omega)]
          · refine p_gFc (ji := 50) rfl e50' ?_
            rw [iand_clr (by omega) (by omega)]
            refine fin _ (up_ks0 n12 hp1 ?_ fo).symm
            rw [fp, if_pos (by omega)]
        · rw [stk, if_neg (fun w => c2 w.2)]
      · replace hv : v = -1 := hv
        have pl : S.pl x = -1 := by unfold SH.pl; rw [if_neg (fun w => c1 w.2)]
        refine p_it1 hv (skip (fun q hq => ?_))
        rw [stk, if_neg (fun w => by have := w.1; omega)]
  have fin : ∀ v, v = dy → pw (mX9_findKnown_25 126 v M) Q := fun v hv => by
    subst hv
    unfold mX9_findKnown_25
    refine p_gK (p_call (v_manyFacts ok k9 h) (fun v m y => ?_))
    obtain ⟨y1, y2⟩ := y
    replace y1 : m = M := y1
    replace y2 : v = S.nf := y2
    subst y1
    rw [hn] at y2
    subst y2
    refine p_pF (ji := 49) rfl (fun m1 h1 => p_pF (ji := 50) rfl (fun m2 h2 => ?_))
    have z0 : kbs (F 0) n = 0 := by
      refine Nat.eq_of_testBit_eq (fun i => ?_)
      unfold kbs
      rw [bitsOf_b, Nat.zero_testBit]
      have : F 0 ((n : Int) - 1 - (i : Int)) = -1 := by rw [hF]; rfl
      rw [this]; exact Bool.and_false _
    have z1 : kss (F 0) n = 0 := by
      refine Nat.eq_of_testBit_eq (fun i => ?_)
      unfold kss
      rw [bitsOf_b, Nat.zero_testBit]
      have : F 0 ((n : Int) - 1 - (i : Int)) = -1 := by rw [hF]; rfl
      rw [this]; exact Bool.and_false _
    refine loop FU 0 m2 kn.1.1 (fun c j z => ?_) ?_ ?_
    · rw [st_ne h2 (fun w => z ⟨w.1, Or.inr w.2⟩), st_ne h1 (fun w => z ⟨w.1, Or.inl w.2⟩)]
    · rw [z0, st_ne h2 (fun w => absurd w.2 (by decide)), st_eq h1]; rfl
    · rw [z1, st_eq h2]; rfl
  unfold mX9_findKnown
  refine p_gFc (ji := 6) rfl k9.c6 (p_aGc rfl (p_if (fun c => p_gFc (ji := 5) rfl k9.c5 (p_aGc rfl (fin _ ?_))) (fun c => p_gFc (ji := 6) rfl k9.c6 (p_aGc rfl (fin _ ?_)))))
  · rw [hdy]; unfold vdy; rw [if_pos c]
  · rw [hdy]; unfold vdy; rw [if_neg c]
end
end
section
/-! ===== the reference: is it a world ===== -/
/-- a world is laid out -/
def LW (S : SH) (φ : Int → Bool) (M : Mem) : Prop := ∀ f : Int, 0 ≤ f → f < S.nf → mG M 154 f = b2i (φ f)
/-- the texts that are told -/
def RTP (S : SH) (P : Nat → List Row) (K : Int) (M : Mem) : Prop := ∀ s : Nat, (s : Int) < K → RT (P s) (s : Int) M ∧ (P s).length ≤ 40 ∧ ty S.nr S.k1 S.k2 [(0, 255)] (P s)
/-- what asking for worlds changes -/
def FI (M M' : Mem) : Prop := ∀ c j : Int, ¬ (c = 126 ∧ j = 46) → ¬ c = 154 → ¬ c = 160 → ¬ c = 161 → mG M' c j = mG M c j
theorem FI.rf {M : Mem} : FI M M := fun _ _ _ _ _ _ => rfl
theorem FI.tr {M M' M'' : Mem} (h : FI M M') (k : FI M' M'') : FI M M'' := fun c j x y z w => (k c j x y z w).trans (h c j x y z w)
theorem FM.fi {M M' : Mem} (h : FM M M') : FI M M' := fun c j x _ z w => h c j x z w
theorem K9.fi {M M' : Mem} (h : K9 M) (k : FI M M') : K9 M' := h.kp (fun j hj => k 126 j (by omega) (by decide) (by decide) (by decide))
section
variable {S : SH} {M : Mem} {P : Nat → List Row}
theorem RSH.fi {M' : Mem} (h : RSH S M) (k : FI M M') : RSH S M' := h.kp (fun c j hc => k c j (by omega) (by omega) (by omega) (by omega))
theorem RT.fi {ps : List Row} {t : Int} {M' : Mem} (h : RT ps t M) (k : FI M M') : RT ps t M' :=
  ⟨(k 141 t (by omega) (by decide) (by decide) (by decide)).trans h.1, fun i r hr => (h.2 i r hr).kp (fun c c0 c1 => k c _ (by omega) (by omega) (by omega) (by omega))⟩
theorem RTP.fi {K : Int} {M' : Mem} (h : RTP S P K M) (k : FI M M') : RTP S P K M' := fun s hs => ⟨(h s hs).1.fi k, (h s hs).2⟩
theorem RM.mk {ps : List Row} {t : Int} {φ : Int → Bool} (ok : S.ok) (k9 : K9 M) (h : RSH S M) (hl : LW S φ M) (rt : RT ps t M) : RM S ps t φ M :=
  ⟨⟨k9.c9, k9.c10, k9.c15, k9.c16, k9.c17, k9.c18, k9.c19, k9.c26, k9.c27, k9.c28, k9.c45, k9.c47⟩, h.1, fun r r0 r1 => ⟨(h.2.1.2 r r0 r1).1, (h.2.1.2 r r0 r1).2, by
    have := h.2.2 r.toNat (by omega)
    rw [show ((r.toNat : Nat) : Int) = r by omega] at this
    exact this⟩, hl, rt⟩
theorem v_layWorld {n w : Nat} (ok : S.ok) (hn : S.nf = (n : Int)) (n12 : n ≤ 12) (k9 : K9 M) (h : RSH S M) (hw : w < 4096) : pw (mX9_layWorld 126 (w : Int) M) (fun q => LW S (phw S.nf w) q.2 ∧ ∀ c j : Int, ¬ c = 154 → mG q.2 c j = mG M c j) := by
  have loop : ∀ (fu f : Nat) (m : Mem), f ≤ n → (∀ c j : Int, ¬ c = 154 → mG m c j = mG M c j) → (∀ x : Nat, x < f → mG m 154 (x : Int) = b2i (phw S.nf w (x : Int))) → pw (mX9_layWorld_7 fu 126 (w : Int) (n : Int) (f : Int) m) (fun q => LW S (phw S.nf w) q.2 ∧ ∀ c j : Int, ¬ c = 154 → mG q.2 c j = mG M c j) := by
    intro fu
    induction fu with
    | zero => intro f m _ _ _; exact p_none
    | succ fu ih =>
      intro f m hf fr hl
      show pw (bX9_layWorld_7 (mX9_layWorld_7 fu) 126 (w : Int) (n : Int) (f : Int) m) _
      unfold bX9_layWorld_7
      refine p_if (fun c => p_ret ⟨fun x x0 x1 => ?_, fr⟩) (fun c => ?_)
      · obtain ⟨y, rfl⟩ := Int.eq_ofNat_of_zero_le x0
        exact hl y (by omega)
      have k28 : mG m 126 28 = 154 := (fr 126 28 (by decide)).trans k9.c28
      have go : ∀ v : Int, v = b2i (phw S.nf w (f : Int)) → pw (mX9_layWorld_34 (mX9_layWorld_7 fu) 126 (w : Int) (n : Int) (f : Int) 154 (f : Int) v m) (fun q => LW S (phw S.nf w) q.2 ∧ ∀ c j : Int, ¬ c = 154 → mG q.2 c j = mG M c j) := fun v hv => by
        unfold mX9_layWorld_34
        refine p_aSZ (fun m2 h2 => ?_)
        rw [wI_s (p := f) (by omega)]
        refine ih (f + 1) m2 (by omega) (fun c j x => (st_ne h2 (fun y => x y.1)).trans (fr c j x)) (fun x hx => ?_)
        by_cases e : x = f
        · rw [e, st_eq h2, hv]
        · rw [st_ne h2 (fun y => e (by have := y.2; omega))]
          exact hl x (by omega)
      have ph : phw S.nf w (f : Int) = w.testBit (n - 1 - f) := by
        unfold phw
        rw [hn, show ((n : Int) - 1 - (f : Int)).toNat = n - 1 - f by omega]
      refine p_gFc (ji := 28) rfl k28 ?_
      rw [wI_id (x := (n : Int) - 1) (by omega) (by omega), wI_id (x := (n : Int) - 1 - (f : Int)) (by omega) (by omega), show (n : Int) - 1 - (f : Int) = ((n - 1 - f : Nat) : Int) by omega]
      refine p_if (fun c2 => go 0 ?_) (fun c2 => go 1 ?_)
      · rw [ph, (ibit (by omega) (by omega)).mp c2]; rfl
      · have : w.testBit (n - 1 - f) = true := by
          cases e : w.testBit (n - 1 - f) with
          | true => rfl
          | false => exact absurd ((ibit (by omega) (by omega)).mpr e) c2
        rw [ph, this]; rfl
  unfold mX9_layWorld
  refine p_gK (p_call (v_manyFacts ok k9 h) (fun v m y => ?_))
  obtain ⟨y1, y2⟩ := y
  replace y1 : m = M := y1
  replace y2 : v = S.nf := y2
  subst y1
  rw [hn] at y2
  subst y2
  exact loop FU 0 m (by omega) (fun _ _ _ => rfl) (fun x hx => absurd hx (by omega))
/-- what stands while worlds are asked for -/
def RWd (S : SH) (P : Nat → List Row) (K : Int) (vw : Nat) (F : Int → Int) (n : Nat) (M : Mem) : Prop := (K9 M ∧ RSH S M) ∧ (mG M 138 0 = K ∧ mG M 126 48 = (vw : Int) ∧ mG M 126 49 = ((kbs F n : Nat) : Int) ∧ mG M 126 50 = ((kss F n : Nat) : Int)) ∧ RTP S P K M
theorem RWd.fi {K : Int} {vw n : Nat} {F : Int → Int} {M' : Mem} (h : RWd S P K vw F n M) (k : FI M M') : RWd S P K vw F n M' :=
  ⟨⟨h.1.1.fi k, h.1.2.fi k⟩, ⟨(k _ _ (by omega) (by decide) (by decide) (by decide)).trans h.2.1.1, (k _ _ (by omega) (by decide) (by decide) (by decide)).trans h.2.1.2.1, (k _ _ (by omega) (by decide) (by decide) (by decide)).trans h.2.1.2.2.1, (k _ _ (by omega) (by decide) (by decide) (by decide)).trans h.2.1.2.2.2⟩, h.2.2.fi k⟩
def WDr (S : SH) (P : Nat → List Row) (K : Nat) (vw : Nat) (F : Int → Int) (n w : Nat) : Bool := allb (okp (n : Int) F w) n && allb (stw S P vw w) K
theorem v_isWorld {n w K vw : Nat} {F : Int → Int} (ok : S.ok) (hn : S.nf = (n : Int)) (n12 : n ≤ 12) (hw : w < 2 ^ n) (hF : ∀ p, F p = -1 ∨ F p = 0 ∨ F p = 1) (hK : K ≤ 8) (hv : vw < 256) (h : RWd S P (K : Int) vw F n M) : pw (mX9_isWorld 126 (w : Int) M) (fun q => FI M q.2 ∧ q.1 = b2i (WDr S P K vw F n w) ∧ (q.1 = 1 → LW S (phw S.nf w) q.2)) := by
  obtain ⟨⟨k9, sh⟩, ⟨e138, e48, e49, e50⟩, rt⟩ := h
  have p12 : 2 ^ n ≤ 2 ^ 12 := Nat.pow_le_pow_right (n := 2) (by decide) n12
  obtain ⟨Q, hQ⟩ : ∃ Q : Int × Mem → Prop, Q = fun q => FI M q.2 ∧ q.1 = b2i (WDr S P K vw F n w) ∧ (q.1 = 1 → LW S (phw S.nf w) q.2) := ⟨_, rfl⟩
  rw [← hQ]
  have ak := as_known (n := n) (w := w) hF
  have l1 := kb_lt F n
  unfold mX9_isWorld
  refine p_gK (p_call (P := fun q => q.2 = M ∧ ((allb (okp (n : Int) F w) n = true ∧ q.1 = 1) ∨ (allb (okp (n : Int) F w) n = false ∧ q.1 = 0))) ?_ (fun v m y => ?_))
  · unfold mX9_isAsKnown
    refine p_gFc (ji := 49) rfl e49 (p_gFc (ji := 50) rfl e50 ?_)
    rw [iand_nat (by omega) (by omega) (by omega) (by omega), Int.toNat_natCast, Int.toNat_natCast]
    refine p_if (fun c => p_ret ⟨rfl, Or.inl ⟨ak.mp (by omega), rfl⟩⟩) (fun c => p_ret ⟨rfl, Or.inr ⟨?_, rfl⟩⟩)
    cases e : allb (okp (n : Int) F w) n with
    | false => rfl
    | true => exact absurd (congrArg (fun x : Nat => (x : Int)) (ak.mpr e)) c
  obtain ⟨y1, y2⟩ := y
  replace y1 : m = M := y1
  subst y1
  rcases y2 with ⟨a1, a2⟩ | ⟨a1, a2⟩
  · replace a2 : v = 1 := a2
    refine p_it0 (show ¬ v = 0 by omega) (p_gK (p_call (v_layWorld (w := w) ok hn n12 k9 sh (by omega)) (fun v m1 y => ?_)))
    obtain ⟨y3, y4⟩ := y
    replace y3 : LW S (phw S.nf w) m1 := y3
    replace y4 : ∀ c j : Int, ¬ c = 154 → mG m1 c j = mG m c j := y4
    have f1 : FI m m1 := fun c j _ y _ _ => y4 c j y
    have loop : ∀ (fu s : Nat) (m2 : Mem), s ≤ K → FI m m2 → LW S (phw S.nf w) m2 → allb (stw S P vw w) s = true → pw (mX9_isWorld_17 fu 126 (s : Int) m2) Q := by
      intro fu
      induction fu with
      | zero => intro s m2 _ _ _ _; exact p_none
      | succ fu ih =>
        intro s m2 hs fi lw hall
        show pw (bX9_isWorld_17 (mX9_isWorld_17 fu) 126 (s : Int) m2) _
        have km := k9.fi fi
        have shm := sh.fi fi
        unfold bX9_isWorld_17
        refine p_gFc (ji := 12) rfl km.c12 (p_aGc ((fi 138 0 (by omega) (by decide) (by decide) (by decide)).trans e138) (p_if (fun c => p_ret ?_) (fun c => ?_)))
        · have e : s = K := by omega
          rw [hQ]
          refine ⟨fi, ?_, fun _ => lw⟩
          unfold WDr
          rw [a1, ← e, hall]; rfl
        have go : stw S P vw w s = true → ∀ m3, FI m m3 → LW S (phw S.nf w) m3 → pw (mX9_isWorld_48 (mX9_isWorld_17 fu) 126 (s : Int) m3) Q := fun hst m3 f3 lw3 => by
          unfold mX9_isWorld_48
          rw [wI_s (p := s) (by omega)]
          refine ih (s + 1) m3 (by omega) f3 lw3 ?_
          show (allb _ s && stw S P vw w s) = true
          rw [hall, hst]; rfl
        refine p_gFc (ji := 48) rfl ((fi 126 48 (by decide) (by decide) (by decide) (by decide)).trans e48) (p_if (fun c2 => go ?_ m2 fi lw) (fun c2 => ?_))
        · unfold stw; rw [(ibit (by omega) (by omega)).mp c2]; rfl
        have vb : vw.testBit s = true := by
          cases e : vw.testBit s with
          | true => rfl
          | false => exact absurd ((ibit (by omega) (by omega)).mpr e) c2
        have sts : stw S P vw w s = TMw S (P s) w := by unfold stw; rw [vb]; rfl
        obtain ⟨r1, r2, r3⟩ := rt s (by omega)
        refine p_gK (p_call (w_means (t := (s : Int)) ok (RM.mk ok km shm lw (r1.fi fi)) (by omega) r2 r3) (fun v m3 y => ?_))
        obtain ⟨⟨y5, y6⟩, y7⟩ := y
        replace y6 : FM m2 m3 := y6
        replace y7 : v = b2i (TMw S (P s) w) := y7
        have f3 : FI m m3 := fi.tr y6.fi
        refine p_if (fun c3 => p_ret ?_) (fun c3 => go ?_ m3 f3 y5.2.2.2.1)
        · rw [hQ]
          refine ⟨f3, ?_, fun e => absurd (show (0 : Int) = 1 from e) (by decide)⟩
          have tf : TMw S (P s) w = false := b2i_0.mp (y7.symm.trans c3)
          have : allb (stw S P vw w) K = false := by
            cases e : allb (stw S P vw w) K with
            | false => rfl
            | true =>
              have z := (allb_t K).mp e s (by omega)
              rw [sts, tf] at z
              cases z
          unfold WDr
          rw [this, Bool.and_false]; rfl
        · rw [sts]
          cases e : TMw S (P s) w with
          | true => rfl
          | false => rw [e] at y7; exact absurd y7 c3
    exact loop FU 0 m1 (by omega) f1 y3 rfl
  · replace a2 : v = 0 := a2
    refine p_it1 a2 (p_ret ?_)
    rw [hQ]
    refine ⟨FI.rf, ?_, fun e => absurd (show (0 : Int) = 1 from e) (by decide)⟩
    unfold WDr
    rw [a1]; rfl
/-- what preparing leaves -/
theorem v_prepare {n : Nat} (ok : S.ok) (hn : S.nf = (n : Int)) (n12 : n ≤ 12) (k9 : K9 M) (h : RSH S M) (kn : KNO S M) (h8 : 0 ≤ mG M 138 0 ∧ mG M 138 0 ≤ 8) (rt : RTP S P (mG M 138 0) M) : pw (mX9_prepare 126 M) (fun q => RWd S P (mG M 138 0) (tvb M) (knR S M) n q.2 ∧ ∀ c j : Int, ¬ (c = 126 ∧ (j = 48 ∨ j = 49 ∨ j = 50)) → mG q.2 c j = mG M c j) := by
  unfold mX9_prepare
  refine p_gK (p_call (v_told k9 h8) (fun v m y => ?_))
  obtain ⟨y1, y2⟩ := y
  replace y1 : m = M := y1
  replace y2 : v = ((tvb M : Nat) : Int) := y2
  subst y1; subst y2
  refine p_pF (ji := 48) rfl (fun m1 h1 => ?_)
  have g1 : ∀ c j : Int, ¬ c = 126 → mG m1 c j = mG m c j := fun c j x => st_ne h1 (fun w => x w.1)
  have k1 : K9 m1 := k9.kp (fun j hj => st_ne h1 (fun w => by omega))
  have kn1 : KNO S m1 := by
    refine ⟨by rw [g1 146 0 (by decide)]; exact kn.1, fun k hk => ?_⟩
    rw [g1 146 0 (by decide)] at hk
    rw [g1 147 _ (by decide), g1 148 _ (by decide)]
    exact kn.2 k hk
  have ek : knR S m1 = knR S m := by
    funext p
    unfold knR
    rw [g1 131 0 (by decide), g1 132 0 (by decide), g1 146 0 (by decide), show mG m1 147 = mG m 147 from funext (fun j => g1 147 j (by decide)), show mG m1 148 = mG m 148 from funext (fun j => g1 148 j (by decide)), show mG m1 149 = mG m 149 from funext (fun j => g1 149 j (by decide))]
  refine p_gK (p_call (v_findKnown ok hn n12 k1 (h.kp (fun c j hc => g1 c j (by omega))) kn1) (fun v m2 y => p_ret ?_))
  obtain ⟨y3, y4, y5⟩ := y
  rw [ek] at y3 y4
  replace y3 : mG m2 126 49 = ((kbs (knR S m) n : Nat) : Int) := y3
  replace y4 : mG m2 126 50 = ((kss (knR S m) n : Nat) : Int) := y4
  replace y5 : FK m1 m2 := y5
  have g2 : ∀ c j : Int, ¬ (c = 126 ∧ (j = 48 ∨ j = 49 ∨ j = 50)) → mG m2 c j = mG m c j := fun c j x => (y5 c j (fun w => x ⟨w.1, Or.inr w.2⟩)).trans (st_ne h1 (fun w => x ⟨w.1, Or.inl w.2⟩))
  have g3 : ∀ c j : Int, ¬ c = 126 → mG m2 c j = mG m c j := fun c j x => g2 c j (fun w => x w.1)
  refine ⟨⟨⟨k9.kp (fun j hj => g2 126 j (fun w => by omega)), h.kp (fun c j hc => g3 c j (by omega))⟩, ⟨g3 138 0 (by decide), ?_, y3, y4⟩, fun s hs => ⟨?_, (rt s hs).2⟩⟩, g2⟩
  · exact (y5 126 48 (fun w => absurd w.2 (by decide))).trans (st_eq h1)
  · exact ⟨(g3 141 _ (by decide)).trans (rt s hs).1.1, fun i r hr => ((rt s hs).1.2 i r hr).kp (fun c c0 c1 => g3 c _ (by omega))⟩
theorem ctn_s (f : Nat → Bool) (k : Nat) : ctn f (k + 1) = ctn f k + (f k).toNat := rfl
theorem b2i_n (b : Bool) : b2i b = ((b.toNat : Nat) : Int) := by cases b <;> rfl
/-- how many worlds -/
theorem v_worlds {n : Nat} (ok : S.ok) (hn : S.nf = (n : Int)) (k9 : K9 M) (h : RST S M) (kn : KNO S M) (h8 : 0 ≤ mG M 138 0 ∧ mG M 138 0 ≤ 8) (rt : RTP S P (mG M 138 0) M) : pw (mX9_worlds 126 M) (fun q => (12 < n ∧ q.1 = -1) ∨ (n ≤ 12 ∧ q.1 = ((ctn (WDr S P (mG M 138 0).toNat (tvb M) (knR S M) n) (2 ^ n) : Nat) : Int))) := by
  obtain ⟨K, hK⟩ := Int.eq_ofNat_of_zero_le h8.1
  rw [hK] at h8
  unfold mX9_worlds
  refine p_pF (ji := 0) rfl (fun m1 h1 => ?_)
  have g1 : ∀ c j : Int, ¬ c = 126 → mG m1 c j = mG M c j := fun c j x => st_ne h1 (fun w => x w.1)
  have k1 : K9 m1 := k9.kp (fun j hj => st_ne h1 (fun w => by omega))
  refine p_gK (p_call (v_canTell ok k1 (h.kp (fun c j hc => g1 c j (by omega)))) (fun v m2 y => ?_))
  obtain ⟨y1, y2, y3⟩ := y
  replace y1 : RSH S m2 := y1
  replace y2 : FN m1 m2 := y2
  have g2 : ∀ c j : Int, ¬ c = 126 → ¬ c = 152 → ¬ c = 153 → mG m2 c j = mG M c j := fun c j x y z => (y2 c j y z).trans (g1 c j x)
  rcases y3 with ⟨z1, z2⟩ | ⟨z1, z2⟩
  · exact p_it1 z2 (p_ret (Or.inl ⟨by omega, rfl⟩))
  have z3 : v = 1 := z2
  refine p_it0 (show ¬ v = 0 by omega) ?_
  have n12 : n ≤ 12 := by omega
  have e138 : mG m2 138 0 = mG M 138 0 := g2 138 0 (by decide) (by decide) (by decide)
  have kn2 : KNO S m2 := by
    refine ⟨by rw [g2 146 0 (by decide) (by decide) (by decide)]; exact kn.1, fun k hk => ?_⟩
    rw [g2 146 0 (by decide) (by decide) (by decide)] at hk
    rw [g2 147 _ (by decide) (by decide) (by decide), g2 148 _ (by decide) (by decide) (by decide)]
    exact kn.2 k hk
  have ek : knR S m2 = knR S M := by
    funext p
    unfold knR
    rw [g2 131 0 (by decide) (by decide) (by decide), g2 132 0 (by decide) (by decide) (by decide), g2 146 0 (by decide) (by decide) (by decide), show mG m2 147 = mG M 147 from funext (fun j => g2 147 j (by decide) (by decide) (by decide)), show mG m2 148 = mG M 148 from funext (fun j => g2 148 j (by decide) (by decide) (by decide)), show mG m2 149 = mG M 149 from funext (fun j => g2 149 j (by decide) (by decide) (by decide))]
  have et : tvb m2 = tvb M := by
    unfold tvb
    rw [g2 131 0 (by decide) (by decide) (by decide), g2 132 0 (by decide) (by decide) (by decide), e138, show mG m2 139 = mG M 139 from funext (fun j => g2 139 j (by decide) (by decide) (by decide)), show mG m2 140 = mG M 140 from funext (fun j => g2 140 j (by decide) (by decide) (by decide))]
  have rt2 : RTP S P (mG m2 138 0) m2 := by
    rw [e138]
    exact fun s hs => ⟨⟨(g2 141 _ (by decide) (by decide) (by decide)).trans (rt s hs).1.1, fun i r hr => ((rt s hs).1.2 i r hr).kp (fun c c0 c1 => g2 c _ (by omega) (by omega) (by omega))⟩, (rt s hs).2⟩
  refine p_gK (p_call (v_prepare ok hn n12 (k1.fn y2) y1 kn2 (by rw [e138, hK]; exact h8) rt2) (fun v m3 y => ?_))
  obtain ⟨y4, y5⟩ := y
  rw [e138, et, ek, hK] at y4
  rw [hK, Int.toNat_natCast]
  replace y4 : RWd S P (K : Int) (tvb M) (knR S M) n m3 := y4
  have tlt : tvb M < 256 := by
    have := bitsOf_lt (vwf (vdy (mG M 131 0) (mG M 132 0)) (mG M 139) (mG M 140)) (mG M 138 0).toNat
    have : 2 ^ (mG M 138 0).toNat ≤ 2 ^ 8 := Nat.pow_le_pow_right (by decide) (by omega)
    unfold tvb
    omega
  have hF : ∀ p, knR S M p = -1 ∨ knR S M p = 0 ∨ knR S M p = 1 := fun p => knf_rg _ _ _ _ _ _
  have p12 : 2 ^ n ≤ 2 ^ 12 := Nat.pow_le_pow_right (n := 2) (by decide) n12
  have loop : ∀ (fu w : Nat) (m : Mem), w ≤ 2 ^ n → RWd S P (K : Int) (tvb M) (knR S M) n m → pw (mX9_worlds_22 fu 126 ((ctn (WDr S P K (tvb M) (knR S M) n) w : Nat) : Int) (w : Int) m) (fun q => (12 < n ∧ q.1 = -1) ∨ (n ≤ 12 ∧ q.1 = ((ctn (WDr S P K (tvb M) (knR S M) n) (2 ^ n) : Nat) : Int))) := by
    intro fu
    induction fu with
    | zero => intro w m _ _; exact p_none
    | succ fu ih =>
      intro w m hw rw'
      show pw (bX9_worlds_22 (mX9_worlds_22 fu) 126 _ (w : Int) m) _
      unfold bX9_worlds_22
      refine p_gK (p_call (v_manyFacts ok rw'.1.1 rw'.1.2) (fun v m4 y => ?_))
      obtain ⟨y6, y7⟩ := y
      replace y6 : m4 = m := y6
      replace y7 : v = S.nf := y7
      subst y6
      rw [hn] at y7
      subst y7
      rw [ishl1 n (by omega), show (2 : Int) ^ n = ((2 ^ n : Nat) : Int) by simp]
      refine p_if (fun c => p_ret (Or.inr ⟨n12, ?_⟩)) (fun c => ?_)
      · show _ = _
        rw [show w = 2 ^ n by omega]
      have cl := ctn_le (WDr S P K (tvb M) (knR S M) n) w
      refine p_gK (p_call (v_isWorld (w := w) ok hn n12 (by omega) hF (by omega) tlt rw') (fun v m5 y => ?_))
      obtain ⟨y8, y9, _⟩ := y
      replace y8 : FI m4 m5 := y8
      replace y9 : v = b2i (WDr S P K (tvb M) (knR S M) n w) := y9
      have go : ∀ x : Int, x = b2i (WDr S P K (tvb M) (knR S M) n w) → pw (mX9_worlds_46 (mX9_worlds_22 fu) 126 (w : Int) ((ctn (WDr S P K (tvb M) (knR S M) n) w : Nat) : Int) x m5) (fun q => (12 < n ∧ q.1 = -1) ∨ (n ≤ 12 ∧ q.1 = ((ctn (WDr S P K (tvb M) (knR S M) n) (2 ^ n) : Nat) : Int))) := fun x hx => by
        unfold mX9_worlds_46
        have bb := b2i_b (WDr S P K (tvb M) (knR S M) n w)
        rw [wI_s (p := w) (by omega), wI_id (x := ((ctn (WDr S P K (tvb M) (knR S M) n) w : Nat) : Int) + x) (by omega) (by omega), hx, b2i_n, ← Int.natCast_add, ← ctn_s]
        exact ih (w + 1) m5 (by omega) (rw'.fi y8)
      refine p_if (fun c2 => go 0 (by omega)) (fun c2 => go 1 ?_)
      have := b2i_b (WDr S P K (tvb M) (knR S M) n w)
      omega
  exact loop FU 0 m3 (Nat.zero_le _) y4
end
end
