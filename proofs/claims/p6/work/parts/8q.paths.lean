/-! ===== the class finds paths ===== -/
/-- a shape's cells -/
def SHC (S : SH) (s : Int) (M : Mem) : Prop := (mG M s 0 = s + 1 ∧ mG M s 1 = s + 2 ∧ mG M s 2 = s + 3 ∧ mG M s 3 = s + 4 ∧ mG M s 4 = s + 5 ∧ mG M s 5 = s + 6 ∧ mG M s 6 = S.nr ∧ mG M s 7 = S.nf) ∧ (∀ k : Int, 0 ≤ k → k < 3 → mG M (s + 1) k = S.sz k) ∧ ∀ r : Int, 0 ≤ r → r < S.nr → mG M (s + 2) r = S.k1 r ∧ mG M (s + 3) r = S.k2 r ∧ mG M (s + 4) r = S.st r.toNat ∧ mG M (s + 5) r = S.zv (S.k1 r) ∧ mG M (s + 6) r = S.zv (S.k2 r)
theorem SHC.kp {S : SH} {s : Int} {M M' : Mem} (h : SHC S s M) (g : ∀ c j : Int, s ≤ c → c ≤ s + 6 → mG M' c j = mG M c j) : SHC S s M' := by
  obtain ⟨⟨a0, a1, a2, a3, a4, a5, a6, a7⟩, h2, h3⟩ := h
  have e : ∀ j, mG M' s j = mG M s j := fun j => g s j (by omega) (by omega)
  refine ⟨⟨(e _).trans a0, (e _).trans a1, (e _).trans a2, (e _).trans a3, (e _).trans a4, (e _).trans a5, (e _).trans a6, (e _).trans a7⟩, fun k k0 k1 => (g _ _ (by omega) (by omega)).trans (h2 k k0 k1), fun r r0 r1 => ?_⟩
  obtain ⟨b1, b2, b3, b4, b5⟩ := h3 r r0 r1
  exact ⟨(g _ _ (by omega) (by omega)).trans b1, (g _ _ (by omega) (by omega)).trans b2, (g _ _ (by omega) (by omega)).trans b3, (g _ _ (by omega) (by omega)).trans b4, (g _ _ (by omega) (by omega)).trans b5⟩
section
variable {S : SH} {s r i j : Int} {M : Mem}
theorem SH.ok.st9 (ok : S.ok) {r : Int} (h0 : 0 ≤ r) (h1 : r < S.nr) : 0 ≤ S.st r.toNat ∧ S.st r.toNat ≤ 27 := by
  have := ok.st (r := r.toNat) (by omega)
  have := ok.2.1
  omega
theorem q_place_29 (ok : S.ok) (h : SHC S s M) (h0 : 0 ≤ r) (h1 : r < S.nr) : pw (mX3_place_29 s r i (S.col r j) M) (fun q => q.2 = M ∧ ((S.inr r i j ∧ q.1 = S.at' r i j) ∨ (¬ S.inr r i j ∧ q.1 = -1))) := by
  obtain ⟨⟨a0, a1, a2, a3, a4, a5, a6, a7⟩, h2, h3⟩ := h
  obtain ⟨b1, b2, b3, b4, b5⟩ := h3 r h0 h1
  have k := ok.2.2 r h0 h1
  have z1 := ok.zv (k := S.k1 r) (by omega)
  have z2 := ok.zv (k := S.k2 r) k.2
  have s9 := ok.st9 h0 h1
  unfold mX3_place_29
  refine p_if (fun c => p_ret ⟨rfl, Or.inr ⟨fun y => by have := y.1.1; omega, rfl⟩⟩) (fun c => ?_)
  refine p_gFc (ji := 4) rfl a4 (p_aGc b4 (p_if (fun c2 => p_ret ⟨rfl, Or.inr ⟨fun y => by have := y.1.2; omega, rfl⟩⟩) (fun c2 => ?_)))
  refine p_if (fun c3 => p_ret ⟨rfl, Or.inr ⟨fun y => by have := y.2.1; omega, rfl⟩⟩) (fun c3 => ?_)
  refine p_gFc (ji := 5) rfl a5 (p_aGc b5 (p_if (fun c4 => ?_) (fun c4 => p_ret ⟨rfl, Or.inr ⟨fun y => by have := y.2.2; omega, rfl⟩⟩)))
  refine p_gFc (ji := 3) rfl a3 (p_aGc b3 (p_gFc (ji := 5) rfl a5 (p_aGc b5 (p_ret ⟨rfl, Or.inl ⟨⟨⟨by omega, by omega⟩, by omega, c4⟩, ?_⟩⟩))))
  have p := mul_b (x := i) (y := S.zv (S.k2 r)) (a := 3) (b := 3) (by omega) (by omega) (by omega) (by omega)
  have e : S.at' r i j = S.st r.toNat + i * S.zv (S.k2 r) + S.col r j := by unfold SH.at'; rw [Int.mul_comm]
  show wI (wI (S.st r.toNat + wI (i * S.zv (S.k2 r))) + S.col r j) = _
  rw [e, wI_id (x := i * S.zv (S.k2 r)) (by omega) (by omega), wI_id (x := S.st r.toNat + i * S.zv (S.k2 r)) (by omega) (by omega), wI_id (x := S.st r.toNat + i * S.zv (S.k2 r) + S.col r j) (by omega) (by omega)]
theorem q_place (ok : S.ok) (h : SHC S s M) : pw (mX3_place s r i j M) (fun q => q.2 = M ∧ (((0 ≤ r ∧ r < S.nr) ∧ S.inr r i j ∧ q.1 = S.at' r i j) ∨ (¬ ((0 ≤ r ∧ r < S.nr) ∧ S.inr r i j) ∧ q.1 = -1))) := by
  have h' := h
  obtain ⟨⟨a0, a1, a2, a3, a4, a5, a6, a7⟩, h2, h3⟩ := h'
  unfold mX3_place
  refine p_if (fun c => p_ret ⟨rfl, Or.inr ⟨fun y => by have := y.1.1; omega, rfl⟩⟩) (fun c => ?_)
  refine p_gFc (ji := 6) rfl a6 (p_if (fun c2 => ?_) (fun c2 => p_ret ⟨rfl, Or.inr ⟨fun y => by have := y.1.2; omega, rfl⟩⟩))
  have r0 : 0 ≤ r := by omega
  obtain ⟨b1, b2, b3, b4, b5⟩ := h3 r r0 c2
  have fin := q_place_29 (i := i) (j := j) ok h r0 c2
  have fin2 : pw (mX3_place_29 s r i (S.col r j) M) (fun q => q.2 = M ∧ (((0 ≤ r ∧ r < S.nr) ∧ S.inr r i j ∧ q.1 = S.at' r i j) ∨ (¬ ((0 ≤ r ∧ r < S.nr) ∧ S.inr r i j) ∧ q.1 = -1))) := p_mono fin (fun q z => ⟨z.1, z.2.elim (fun y => Or.inl ⟨⟨r0, c2⟩, y⟩) (fun y => Or.inr ⟨fun w => y.1 w.2, y.2⟩)⟩)
  refine p_gFc (ji := 2) rfl a2 (p_aGc b2 (p_if (fun c3 => ?_) (fun c3 => ?_)))
  · have e : S.col r j = 0 := if_pos c3
    rw [e] at fin2; exact fin2
  · have e : S.col r j = j := if_neg c3
    rw [e] at fin2; exact fin2
theorem q_bit {p : Int} (h : SHC S s M) (ok : S.ok) (hp : 0 ≤ p ∧ p ≤ 100) : pw (mX3_bit s p M) (fun q => q.2 = M ∧ q.1 = S.nf - 1 - p) := by
  have nf := ok.nf
  unfold mX3_bit
  refine p_gFc (ji := 7) rfl h.1.2.2.2.2.2.2.2 (p_ret ⟨rfl, ?_⟩)
  show wI (wI (S.nf - 1) - p) = _
  rw [wI_id (x := S.nf - 1) (by omega) (by omega), wI_id (x := S.nf - 1 - p) (by omega) (by omega)]
theorem q_twice' (h : SHC S s M) : pw (mX3_isOfOneKindTwice s r M) (fun q => q.2 = M ∧ (((0 ≤ r ∧ r < S.nr) ∧ S.k1 r = S.k2 r ∧ q.1 = 1) ∨ (¬ ((0 ≤ r ∧ r < S.nr) ∧ S.k1 r = S.k2 r) ∧ q.1 = 0))) := by
  obtain ⟨⟨a0, a1, a2, a3, a4, a5, a6, a7⟩, h2, h3⟩ := h
  unfold mX3_isOfOneKindTwice
  refine p_if (fun c => p_ret ⟨rfl, Or.inr ⟨fun y => by have := y.1.1; omega, rfl⟩⟩) (fun c => ?_)
  refine p_gFc (ji := 6) rfl a6 (p_if (fun c2 => p_ret ⟨rfl, Or.inr ⟨fun y => by have := y.1.2; omega, rfl⟩⟩) (fun c2 => ?_))
  obtain ⟨b1, b2, b3, b4, b5⟩ := h3 r (by omega) (by omega)
  refine p_gFc (ji := 1) rfl a1 (p_aGc b1 (p_gFc (ji := 2) rfl a2 (p_aGc b2 (p_if (fun c3 => p_ret ⟨rfl, Or.inl ⟨by omega, c3, rfl⟩⟩) (fun c3 => p_ret ⟨rfl, Or.inr ⟨fun y => c3 y.2, rfl⟩⟩)))))
/-- a relation of one kind twice: where its facts stand -/
theorem tw_at (ok : S.ok) (h0 : 0 ≤ r) (h1 : r < S.nr) (hk : S.k1 r = S.k2 r) : S.zv (S.k1 r) = S.zv (S.k2 r) ∧ S.at' r i j = S.st r.toNat + i * S.zv (S.k2 r) + j ∧ (S.inr r i j ↔ (0 ≤ i ∧ i < S.zv (S.k2 r)) ∧ (0 ≤ j ∧ j < S.zv (S.k2 r))) := by
  have k := ok.2.2 r h0 h1
  have e : S.col r j = j := if_neg (by omega)
  refine ⟨by rw [hk], ?_, ?_⟩
  · unfold SH.at'; rw [e, Int.mul_comm]
  · unfold SH.inr; rw [e, hk]
end
/-! paths -/
section
variable {A : Int → Int → Bool}
theorem wst_out {k : Int} (h : ∀ i, A i k = false) : wst A k = A := by
  funext i j
  unfold wst
  rw [h i]; simp
theorem wsn_out {s : Int} (h : ∀ i j, ¬ ((0 ≤ i ∧ i < s) ∧ (0 ≤ j ∧ j < s)) → A i j = false) : ∀ n : Nat, ∀ i j, ¬ ((0 ≤ i ∧ i < s) ∧ (0 ≤ j ∧ j < s)) → wsn A n i j = false := by
  intro n
  induction n with
  | zero => exact h
  | succ n ih =>
    intro i j hij
    show wst (wsn A n) (n : Int) i j = false
    unfold wst
    rw [ih i j hij]
    by_cases c : 0 ≤ i ∧ i < s
    · have : wsn A n (n : Int) j = false := ih _ _ (fun y => hij ⟨c, y.2⟩)
      rw [this]; simp
    · have : wsn A n i (n : Int) = false := ih _ _ (fun y => c y.1)
      rw [this]; simp
theorem wsn_stay {s : Nat} (h : ∀ i j, ¬ ((0 ≤ i ∧ i < (s : Int)) ∧ (0 ≤ j ∧ j < (s : Int))) → A i j = false) : ∀ d : Nat, wsn A (s + d) = wsn A s := by
  intro d
  induction d with
  | zero => rfl
  | succ d ih =>
    show wst (wsn A (s + d)) ((s + d : Nat) : Int) = wsn A s
    rw [wst_out (fun i => wsn_out h (s + d) i _ (fun y => by omega)), ih]
theorem clo_s {s : Nat} (hs : s ≤ 3) (h : ∀ i j, ¬ ((0 ≤ i ∧ i < (s : Int)) ∧ (0 ≤ j ∧ j < (s : Int))) → A i j = false) : clo A = wsn A s := by
  have := wsn_stay h (3 - s)
  rw [show s + (3 - s) = 3 by omega] at this
  exact this
theorem wst_diag (k j : Int) : wst A k k j = A k j := by
  unfold wst
  cases A k j <;> simp
theorem wst_col (k i : Int) : wst A k i k = A i k := by
  unfold wst
  cases A i k <;> simp
end
section
variable {M : Mem} {a s : Int}
/-- the paths' cells, half done -/
def PST (a s : Int) (W : Nat → Int → Int → Bool) (k i j : Int) (M : Mem) : Prop := ∀ i' j' : Int, 0 ≤ i' → i' < s → 0 ≤ j' → j' < s → InLL (mG M 23 (a + i' * s + j')) ∧ ∀ b : Nat, b < 64 → lb (mG M 23 (a + i' * s + j')) b = if i' < i ∨ (i' = i ∧ j' < j) then wst (W b) k i' j' else W b i' j'
def FP (a s : Int) (M M' : Mem) : Prop := ∀ c j : Int, ¬ (c = 23 ∧ a ≤ j ∧ j < a + s * s) → mG M' c j = mG M c j
theorem ad_1 (hs : s = 1 ∨ s = 2 ∨ s = 3) (ha : 0 ≤ a ∧ a ≤ 27) {i j : Int} (i0 : 0 ≤ i ∧ i < s) (j0 : 0 ≤ j ∧ j < s) : wI (wI (a + wI (i * s)) + j) = a + i * s + j ∧ a ≤ a + i * s + j ∧ a + i * s + j < a + s * s := by
  rcases hs with e | e | e <;> subst e
  · rw [wI_id (x := i * 1) (by omega) (by omega), wI_id (x := a + i * 1) (by omega) (by omega), wI_id (x := a + i * 1 + j) (by omega) (by omega)]; omega
  · rw [wI_id (x := i * 2) (by omega) (by omega), wI_id (x := a + i * 2) (by omega) (by omega), wI_id (x := a + i * 2 + j) (by omega) (by omega)]; omega
  · rw [wI_id (x := i * 3) (by omega) (by omega), wI_id (x := a + i * 3) (by omega) (by omega), wI_id (x := a + i * 3 + j) (by omega) (by omega)]; omega
theorem ad_inj (hs : s = 1 ∨ s = 2 ∨ s = 3) {i j i' j' : Int} (j0 : 0 ≤ j ∧ j < s) (j1 : 0 ≤ j' ∧ j' < s) (h : a + i * s + j = a + i' * s + j') : i = i' ∧ j = j' := by
  rcases hs with e | e | e <;> subst e <;> omega
theorem q_fp63 {W0 : Nat → Int → Int → Bool} (e4 : mG M 20 4 = 23) (hs : s = 1 ∨ s = 2 ∨ s = 3) (ha : 0 ≤ a ∧ a ≤ 27) : ∀ (fu k : Nat) (M' : Mem), (k : Int) ≤ s → FP a s M M' → PST a s (fun b => wsn (W0 b) k) k 0 0 M' → pw (mX0_findPaths_63 fu 20 a s (k : Int) M') (fun q => FP a s M q.2 ∧ ∀ i' j' : Int, 0 ≤ i' → i' < s → 0 ≤ j' → j' < s → InLL (mG q.2 23 (a + i' * s + j')) ∧ ∀ b : Nat, b < 64 → lb (mG q.2 23 (a + i' * s + j')) b = wsn (W0 b) s.toNat i' j') := by
  intro fu
  induction fu with
  | zero => intro k M' _ _ _; exact p_none
  | succ fu ih =>
    intro k M' hk fr ps
    show pw (bX0_findPaths_63 (mX0_findPaths_63 fu) 20 a s (k : Int) M') _
    unfold bX0_findPaths_63
    refine p_if (fun c => p_ret ⟨fr, fun i' j' i0 i1 j0 j1 => ?_⟩) (fun c => ?_)
    · have ek : s.toNat = k := by omega
      obtain ⟨x, y⟩ := ps i' j' i0 i1 j0 j1
      refine ⟨x, fun b hb => ?_⟩
      rw [y b hb, if_neg (by omega), ek]
    have k72 : ∀ (fu2 : Nat) (i : Int) (M2 : Mem), 0 ≤ i → i ≤ s → FP a s M M2 → PST a s (fun b => wsn (W0 b) k) k i 0 M2 → pw (mX0_findPaths_72 (mX0_findPaths_63 fu) fu2 20 a s (k : Int) i M2) (fun q => FP a s M q.2 ∧ ∀ i' j' : Int, 0 ≤ i' → i' < s → 0 ≤ j' → j' < s → InLL (mG q.2 23 (a + i' * s + j')) ∧ ∀ b : Nat, b < 64 → lb (mG q.2 23 (a + i' * s + j')) b = wsn (W0 b) s.toNat i' j') := by
      intro fu2
      induction fu2 with
      | zero => intro i M2 _ _ _ _; exact p_none
      | succ fu2 ih2 =>
        intro i M2 i0 i1 fr ps
        show pw (bX0_findPaths_72 (mX0_findPaths_63 fu) (mX0_findPaths_72 (mX0_findPaths_63 fu) fu2) 20 a s (k : Int) i M2) _
        unfold bX0_findPaths_72
        refine p_if (fun c2 => ?_) (fun c2 => ?_)
        · rw [wI_id (x := (k : Int) + 1) (by omega) (by omega), show (k : Int) + 1 = ((k + 1 : Nat) : Int) by omega]
          refine ih (k + 1) M2 (by omega) fr (fun i' j' i0' i1' j0 j1 => ?_)
          obtain ⟨x, y⟩ := ps i' j' i0' i1' j0 j1
          refine ⟨x, fun b hb => ?_⟩
          rw [y b hb, if_pos (by omega), if_neg (by omega)]; rfl
        · have g4 : mG M2 20 4 = 23 := (fr 20 4 (by omega)).trans e4
          have ik : 0 ≤ (k : Int) ∧ (k : Int) < s := by omega
          obtain ⟨w1, w2, w3⟩ := ad_1 hs ha (i := i) (j := (k : Int)) (by omega) ik
          refine p_gFc (ji := 4) rfl g4 ?_
          rw [w1]
          refine p_aG (fun th hth => ?_)
          have hth1 : InLL th ∧ ∀ b : Nat, b < 64 → lb th b = wsn (W0 b) k i k := by
            obtain ⟨x, y⟩ := ps i k i0 (by omega) ik.1 ik.2
            rw [hth] at x y
            exact ⟨x, fun b hb => by rw [y b hb, if_neg (by omega)]⟩
          have k97 : ∀ (fu3 : Nat) (j : Int) (M3 : Mem), 0 ≤ j → j ≤ s → FP a s M M3 → PST a s (fun b => wsn (W0 b) k) k i j M3 → pw (mX0_findPaths_97 (mX0_findPaths_63 fu) (mX0_findPaths_72 (mX0_findPaths_63 fu) fu2) fu3 20 a s (k : Int) i th j M3) (fun q => FP a s M q.2 ∧ ∀ i' j' : Int, 0 ≤ i' → i' < s → 0 ≤ j' → j' < s → InLL (mG q.2 23 (a + i' * s + j')) ∧ ∀ b : Nat, b < 64 → lb (mG q.2 23 (a + i' * s + j')) b = wsn (W0 b) s.toNat i' j') := by
            intro fu3
            induction fu3 with
            | zero => intro j M3 _ _ _ _; exact p_none
            | succ fu3 ih3 =>
              intro j M3 j0 j1 fr3 ps3
              show pw (bX0_findPaths_97 (mX0_findPaths_63 fu) (mX0_findPaths_72 (mX0_findPaths_63 fu) fu2) (mX0_findPaths_97 (mX0_findPaths_63 fu) (mX0_findPaths_72 (mX0_findPaths_63 fu) fu2) fu3) 20 a s (k : Int) i th j M3) _
              unfold bX0_findPaths_97
              refine p_if (fun c3 => ?_) (fun c3 => ?_)
              · rw [wI_id (x := i + 1) (by omega) (by omega)]
                refine ih2 (i + 1) M3 (by omega) (by omega) fr3 (fun i' j' x0 x1 y0 y1 => ?_)
                obtain ⟨x, y⟩ := ps3 i' j' x0 x1 y0 y1
                refine ⟨x, fun b hb => ?_⟩
                rw [y b hb]
                by_cases e : i' < i ∨ (i' = i ∧ j' < j)
                · rw [if_pos e, if_pos (by omega)]
                · rw [if_neg e, if_neg (by omega)]
              · have g4 : mG M3 20 4 = 23 := (fr3 20 4 (by omega)).trans e4
                obtain ⟨u1, u2, u3⟩ := ad_1 hs ha (i := i) (j := j) (by omega) (by omega)
                obtain ⟨v1, v2, v3⟩ := ad_1 hs ha (i := (k : Int)) (j := j) ik (by omega)
                refine p_gFc (ji := 4) rfl g4 ?_
                rw [u1, v1]
                refine p_aG (fun x hx => p_gFc (ji := 4) rfl g4 (p_aG (fun y hy => p_aS (fun M4 h4 => ?_))))
                rw [wI_id (x := j + 1) (by omega) (by omega)]
                obtain ⟨_, x2⟩ := ps3 i j i0 (by omega) j0 (by omega)
                obtain ⟨_, y2⟩ := ps3 k j ik.1 ik.2 j0 (by omega)
                rw [hx] at x2
                rw [hy] at y2
                refine ih3 (j + 1) M4 (by omega) (by omega) (fun c' j' z => (st_ne h4 (fun w => z ⟨w.1, by omega, by omega⟩)).trans (fr3 c' j' z)) (fun i' j' i0' i1' j0' j1' => ?_)
                by_cases e : i' = i ∧ j' = j
                · obtain ⟨e1, e2⟩ := e
                  rw [e1, e2, st_eq h4]
                  refine ⟨lor_L _ _, fun b hb => ?_⟩
                  have x3 : lb x b = wsn (W0 b) k i j := by rw [x2 b hb, if_neg (by omega)]
                  have y3 : lb y b = wsn (W0 b) k (k : Int) j := by
                    rw [y2 b hb]
                    split
                    · exact wst_diag _ _
                    · rfl
                  rw [lb_or, lb_and, x3, y3, hth1.2 b hb, if_pos (show i < i ∨ (i = i ∧ j < j + 1) from Or.inr ⟨rfl, by omega⟩)]
                  rfl
                · have ne : ¬ (a + i' * s + j' = a + i * s + j) := fun y => e (ad_inj hs ⟨j0', j1'⟩ ⟨j0, by omega⟩ y)
                  rw [st_ne h4 (fun z => ne z.2)]
                  obtain ⟨x, y⟩ := ps3 i' j' i0' i1' j0' j1'
                  refine ⟨x, fun b hb => ?_⟩
                  rw [y b hb]
                  by_cases e3 : i' < i ∨ (i' = i ∧ j' < j)
                  · rw [if_pos e3, if_pos (by omega)]
                  · rw [if_neg e3, if_neg (by omega)]
          refine k97 FU 0 M2 (by decide) (by omega) fr (fun i' j' x0 x1 y0 y1 => ?_)
          obtain ⟨x, y⟩ := ps i' j' x0 x1 y0 y1
          refine ⟨x, fun b hb => ?_⟩
          rw [y b hb]
    exact k72 FU 0 M' (by decide) (by omega) fr ps
end
