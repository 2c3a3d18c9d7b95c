/-! ===== the class judges ===== -/
/-- what stands while a text is judged: the shape at s, the text at t, the facts -/
def JF (S : SH) (ps : List Row) (t s : Int) (Φ : Nat → Int → Bool) (M : Mem) : Prop := (mG M 20 0 = s ∧ mG M 20 1 = t ∧ mG M 20 2 = 21 ∧ mG M 20 3 = 22 ∧ mG M 20 4 = 23) ∧ SHC S s M ∧ TT ps t M ∧ ∀ p : Int, 0 ≤ p → p < S.nf → InLL (mG M 21 p) ∧ ∀ b : Nat, b < 64 → lb (mG M 21 p) b = Φ b p
/-- the paths that are called found are right -/
def JP (S : SH) (Φ : Nat → Int → Bool) (M : Mem) : Prop := ∀ r : Int, 0 ≤ r → r < S.nr → S.k1 r = S.k2 r → ¬ iand (ishr (mG M 20 5) r) 1 = 0 → ∀ i j : Int, 0 ≤ i → i < S.zv (S.k2 r) → 0 ≤ j → j < S.zv (S.k2 r) → InLL (mG M 23 (S.at' r i j)) ∧ ∀ b : Nat, b < 64 → lb (mG M 23 (S.at' r i j)) b = clo (S.fa (Φ b) r) i j
def FJ (d : Int) (M M' : Mem) : Prop := ∀ c j : Int, ¬ (c = 20 ∧ j = 5) → ¬ (c = 22 ∧ d ≤ j) → ¬ c = 23 → mG M' c j = mG M c j
theorem FJ.rf {d : Int} {M : Mem} : FJ d M M := fun _ _ _ _ _ => rfl
theorem FJ.tr {d d' : Int} {M M1 M2 : Mem} (h1 : FJ d M M1) (h2 : FJ d' M1 M2) (hd : d ≤ d') : FJ d M M2 := fun c j x y z => (h2 c j x (fun w => y ⟨w.1, by omega⟩) z).trans (h1 c j x y z)
/-- cells that a shape and a text may have -/
def okST (s t : Int) : Prop := (s = 4 ∨ s = 38) ∧ 169 < t
section
variable {S : SH} {ps : List Row} {t s : Int} {Φ : Nat → Int → Bool} {M : Mem}
theorem JF.kp {M' : Mem} (h : JF S ps t s Φ M) (o : okST s t) (g : ∀ c j : Int, ¬ (c = 20 ∧ j = 5) → ¬ c = 22 → ¬ c = 23 → mG M' c j = mG M c j) : JF S ps t s Φ M' := by
  obtain ⟨⟨a0, a1, a2, a3, a4⟩, h2, h3, h4⟩ := h
  obtain ⟨o1, o2⟩ := o
  have e : ∀ j : Int, ¬ j = 5 → mG M' 20 j = mG M 20 j := fun j hj => g 20 j (fun z => hj z.2) (by decide) (by decide)
  refine ⟨⟨(e _ (by decide)).trans a0, (e _ (by decide)).trans a1, (e _ (by decide)).trans a2, (e _ (by decide)).trans a3, (e _ (by decide)).trans a4⟩, h2.kp (fun c j c0 c1 => g c j (by omega) (by omega) (by omega)), h3.of (fun c j c0 c1 => g c j (by omega) (by omega) (by omega)), fun p p0 p1 => ?_⟩
  rw [g 21 p (by omega) (by decide) (by decide)]
  exact h4 p p0 p1
theorem FJ.jf {d : Int} {M' : Mem} (f : FJ d M M') (hd : 0 ≤ d) (h : JF S ps t s Φ M) (o : okST s t) : JF S ps t s Φ M' := h.kp o (fun c j x y z => f c j x (fun w => y w.1) z)
theorem FJ.st {d i x : Int} {M' : Mem} (hM : M' = mS M 22 i x) (hi : d ≤ i) : FJ d M M' := fun c j _ y _ => st_ne hM (fun w => y ⟨w.1, by omega⟩)
theorem JP.st {i x : Int} {M' : Mem} (h : JP S Φ M) (hM : M' = mS M 22 i x) : JP S Φ M' := fun r r0 r1 hk hb i' j' i0 i1 j0 j1 => by
  rw [st_ne hM (by omega)] at hb ⊢
  exact h r r0 r1 hk hb i' j' i0 i1 j0 j1
theorem zv_c (ok : S.ok) {r : Int} (r0 : 0 ≤ r) (r1 : r < S.nr) : S.zv (S.k2 r) = 1 ∨ S.zv (S.k2 r) = 2 ∨ S.zv (S.k2 r) = 3 := by
  have := ok.zv (k := S.k2 r) (ok.2.2 r r0 r1).2
  omega
/-- the bit of a relation -/
theorem pbit1 : ∀ p : Nat, p < 16 → ∀ r : Nat, r < 4 → ∀ u : Nat, u < 4 → decide (iand (ishr (ior (p : Int) (ishl 1 (r : Int))) (u : Int)) 1 = 0) = decide (¬ u = r ∧ iand (ishr (p : Int) (u : Int)) 1 = 0) := by decide +kernel
theorem pbit2 : ∀ p : Nat, p < 16 → ∀ r : Nat, r < 4 → 0 ≤ ior (p : Int) (ishl 1 (r : Int)) ∧ ior (p : Int) (ishl 1 (r : Int)) < 16 := by decide +kernel
theorem pbit (p : Nat) (hp : p < 16) (r : Nat) (hr : r < 4) (u : Nat) (hu : u < 4) : (iand (ishr (ior (p : Int) (ishl 1 (r : Int))) (u : Int)) 1 = 0 ↔ (¬ u = r ∧ iand (ishr (p : Int) (u : Int)) 1 = 0)) ∧ 0 ≤ ior (p : Int) (ishl 1 (r : Int)) ∧ ior (p : Int) (ishl 1 (r : Int)) < 16 := ⟨decide_eq_decide.mp (pbit1 p hp r hr u hu), pbit2 p hp r hr⟩
theorem q_findPaths {r : Int} (ok : S.ok) (o : okST s t) (h : JF S ps t s Φ M) (hp : JP S Φ M) (h5 : 0 ≤ mG M 20 5 ∧ mG M 20 5 < 16) (r0 : 0 ≤ r) (r1 : r < S.nr) (hk : S.k1 r = S.k2 r) : pw (mX0_findPaths 20 r M) (fun q => JF S ps t s Φ q.2 ∧ JP S Φ q.2 ∧ (0 ≤ mG q.2 20 5 ∧ mG q.2 20 5 < 16) ∧ FJ 100 M q.2 ∧ ¬ iand (ishr (mG q.2 20 5) r) 1 = 0) := by
  obtain ⟨p5, hp5⟩ := Int.eq_ofNat_of_zero_le h5.1
  obtain ⟨rn, hrn⟩ := Int.eq_ofNat_of_zero_le r0
  have nr4 := ok.2.1.2
  obtain ⟨⟨a0, a1, a2, a3, a4⟩, sh, tt, fa⟩ := id h
  obtain ⟨b1, b2, b3, b4, b5⟩ := sh.2.2 r r0 r1
  have s9 := ok.st9 r0 r1
  have hs := zv_c ok r0 r1
  unfold mX0_findPaths
  refine p_gF (ji := 5) rfl (fun v hv => p_if (fun c => ?_) (fun c => p_ret ⟨h, hp, h5, FJ.rf, by show ¬ iand (ishr (mG M 20 5) r) 1 = 0; rw [hv]; exact c⟩))
  refine p_gFc (ji := 5) rfl hp5 (p_pF (ji := 5) rfl (fun M1 h1 => ?_))
  have g1 : ∀ c j : Int, ¬ (c = 20 ∧ j = 5) → mG M1 c j = mG M c j := fun c j z => st_ne h1 z
  have jf1 : JF S ps t s Φ M1 := h.kp o (fun c j x _ _ => g1 c j x)
  have e5 : mG M1 20 5 = ior (p5 : Int) (ishl 1 r) := st_eq h1
  rw [hrn] at e5
  have pb := pbit p5 (by omega) rn (by omega)
  refine p_gFc (ji := 0) rfl jf1.1.1 (p_gFc (ji := 3) rfl jf1.2.1.1.2.2.2.1 (p_aGc (jf1.2.1.2.2 r r0 r1).2.2.1 ?_))
  refine p_gFc (ji := 0) rfl jf1.1.1 (p_gFc (ji := 5) rfl jf1.2.1.1.2.2.2.2.2.1 (p_aGc (jf1.2.1.2.2 r r0 r1).2.2.2.2 ?_))
  refine p_gFc (ji := 2) rfl jf1.1.2.2.1 (p_gFc (ji := 4) rfl jf1.1.2.2.2.2 (p_aC (fun M2 h2 => ?_)))
  obtain ⟨a, ha⟩ : ∃ a, a = S.st r.toNat := ⟨_, rfl⟩
  obtain ⟨z, hz⟩ : ∃ z, z = S.zv (S.k2 r) := ⟨_, rfl⟩
  have zk : S.zv (S.k1 r) = z := by rw [hz, hk]
  rw [← ha] at h2 s9
  rw [← hz] at h2 hs
  rw [← ha, ← hz]
  have z9 : wI (z * z) = z * z ∧ 1 ≤ z * z ∧ z * z ≤ 9 := by
    rcases hs with e | e | e <;> rw [e] <;> decide
  rw [z9.1] at h2
  have g2 : ∀ c j : Int, ¬ (c = 23 ∧ a ≤ j ∧ j < a + z * z) → mG M2 c j = mG M1 c j := fun c j w => by rw [cp_g h2, if_neg w]
  have nfb : a + z * z ≤ S.nf := by
    have hin : S.inr r (z - 1) (z - 1) := by rw [(tw_at ok r0 r1 hk).2.2, ← hz]; omega
    have := ok.pos r0 r1 hin
    rw [(tw_at ok r0 r1 hk).2.1, ← ha, ← hz] at this
    rcases hs with e | e | e <;> rw [e] at this ⊢ <;> omega
  have ps2 : PST a z (fun b => wsn (S.fa (Φ b) r) 0) ((0 : Nat) : Int) 0 0 M2 := fun i' j' i0 i1 j0 j1 => by
    obtain ⟨w1, w2, w3⟩ := ad_1 hs s9 (i := i') (j := j') ⟨i0, i1⟩ ⟨j0, j1⟩
    have hin : S.inr r i' j' := by rw [(tw_at ok r0 r1 hk).2.2, ← hz]; exact ⟨⟨i0, i1⟩, j0, j1⟩
    rw [cp_g h2, if_pos ⟨rfl, w2, w3⟩, show a + (a + i' * z + j' - a) = a + i' * z + j' by omega]
    obtain ⟨x, y⟩ := jf1.2.2.2 (a + i' * z + j') (by omega) (by omega)
    refine ⟨x, fun b hb => ?_⟩
    rw [y b hb, if_neg (by omega)]
    show Φ b _ = S.fa (Φ b) r i' j'
    rw [SH.fa_in hin, (tw_at ok r0 r1 hk).2.1, ← ha, ← hz]
  refine p_mono (q_fp63 (M := M2) (W0 := fun b => S.fa (Φ b) r) ((g2 20 4 (by omega)).trans jf1.1.2.2.2.2) hs s9 FU 0 M2 (by rcases hs with e | e | e <;> rw [e] <;> decide) (fun _ _ _ => rfl) ps2) (fun q y => ?_)
  obtain ⟨fr, y⟩ := y
  have g3 : ∀ c j : Int, ¬ (c = 23 ∧ a ≤ j ∧ j < a + z * z) → mG q.2 c j = mG M1 c j := fun c j w => (fr c j w).trans (g2 c j w)
  have e53 : mG q.2 20 5 = ior (p5 : Int) (ishl 1 (rn : Int)) := (g3 20 5 (by omega)).trans e5
  refine ⟨jf1.kp o (fun c j _ _ x => g3 c j (fun w => x w.1)), fun u u0 u1 uk ub i' j' i0 i1 j0 j1 => ?_, ?_, fun c j x _ w => (g3 c j (fun y => w y.1)).trans (g1 c j x), ?_⟩
  · by_cases e : u = r
    · subst e
      rw [← hz] at i1 j1
      obtain ⟨x, y⟩ := y i' j' i0 i1 j0 j1
      rw [(tw_at ok u0 u1 uk).2.1, ← ha, ← hz]
      refine ⟨x, fun b hb => ?_⟩
      rw [y b hb]
      have hcl : clo (S.fa (Φ b) u) = wsn (S.fa (Φ b) u) z.toNat := clo_s (by omega) (fun i j hij => SH.fa_out (fun w => hij (by
        have w := (tw_at ok u0 u1 uk).2.2.mp w
        rw [← hz] at w
        omega)))
      rw [hcl]
    · obtain ⟨un, hun⟩ := Int.eq_ofNat_of_zero_le u0
      rw [e53, hun] at ub
      have ub2 : ¬ iand (ishr (p5 : Int) (un : Int)) 1 = 0 := fun w => ub ((pb un (by omega)).1.mpr ⟨by omega, w⟩)
      have hin : S.inr u i' j' := by rw [(tw_at ok u0 u1 uk).2.2]; exact ⟨⟨i0, i1⟩, j0, j1⟩
      have pu := ok.pos u0 u1 hin
      have dis : ¬ (a ≤ S.at' u i' j' ∧ S.at' u i' j' < a + z * z) := fun w => by
        have er : S.st (r.toNat + 1) = a + z * z := by
          show S.st r.toNat + S.zv (S.k1 (r.toNat : Int)) * S.zv (S.k2 (r.toNat : Int)) = _
          rw [show ((r.toNat : Nat) : Int) = r by omega, zk, ← hz, ← ha]
        by_cases lt : u < r
        · have m := ok.mono (a := u.toNat + 1) (r.toNat - (u.toNat + 1)) (by omega)
          rw [show u.toNat + 1 + (r.toNat - (u.toNat + 1)) = r.toNat by omega, ← ha] at m
          omega
        · have m := ok.mono (a := r.toNat + 1) (u.toNat - (r.toNat + 1)) (by omega)
          rw [show r.toNat + 1 + (u.toNat - (r.toNat + 1)) = u.toNat by omega, er] at m
          omega
      rw [g3 23 _ (fun w => dis w.2), g1 23 _ (by omega)]
      exact hp u u0 u1 uk (by rw [hp5, hun]; exact ub2) i' j' i0 i1 j0 j1
  · rw [e53]; exact (pb 0 (by decide)).2
  · rw [e53, hrn]
    intro w
    exact ((pb rn (by omega)).1.mp w).1 rfl
theorem q_reached {r i j : Int} (ok : S.ok) (o : okST s t) (h : JF S ps t s Φ M) (hp : JP S Φ M) (h5 : 0 ≤ mG M 20 5 ∧ mG M 20 5 < 16) (r0 : 0 ≤ r) (r1 : r < S.nr) (hk : S.k1 r = S.k2 r) : pw (mX0_reached 20 r i j M) (fun q => (InLL q.1 ∧ ∀ b : Nat, b < 64 → lb q.1 b = clo (S.fa (Φ b) r) i j) ∧ JF S ps t s Φ q.2 ∧ JP S Φ q.2 ∧ (0 ≤ mG q.2 20 5 ∧ mG q.2 20 5 < 16) ∧ FJ 100 M q.2) := by
  unfold mX0_reached
  refine p_gFc (ji := 0) rfl h.1.1 (p_gK (p_call (q_twice' h.2.1) (fun v m y => ?_)))
  obtain ⟨e, y⟩ := y
  replace e : m = M := e
  subst e
  rcases y with ⟨_, _, hv⟩ | ⟨y, _⟩
  · replace hv : v = 1 := hv
    subst hv
    refine p_it0 (show ¬ (1 : Int) = 0 by decide) (p_gK (p_call (q_findPaths ok o h hp h5 r0 r1 hk) (fun v m1 y => ?_)))
    obtain ⟨jf, jp, h5', fr, hb⟩ := y
    replace jf : JF S ps t s Φ m1 := jf
    refine p_gFc (ji := 0) rfl jf.1.1 (p_gK (p_call (q_place (i := i) (j := j) (r := r) ok jf.2.1) (fun v m2 y => ?_)))
    obtain ⟨e, y⟩ := y
    replace e : m2 = m1 := e
    subst e
    have out : ∀ b : Nat, ¬ S.inr r i j → clo (S.fa (Φ b) r) i j = false := fun b hin => wsn_out (s := S.zv (S.k2 r)) (fun i j hij => SH.fa_out (fun w => hij ((tw_at ok r0 r1 hk).2.2.mp w))) 3 i j (fun w => hin ((tw_at ok r0 r1 hk).2.2.mpr w))
    rcases y with ⟨_, hin, hv⟩ | ⟨y, hv⟩
    · replace hv : v = S.at' r i j := hv
      have pp := ok.pos r0 r1 hin
      have s9 := ok.st9 r0 r1
      have nf := ok.nf
      refine p_if (fun c => ?_) (fun c => p_if (fun c2 => ?_) (fun c2 => ?_))
      · have c : v < 0 := c
        omega
      · have c2 : 36 ≤ v := c2
        omega
      · have w := (tw_at ok r0 r1 hk).2.2.mp hin
        refine p_gFc (ji := 4) rfl jf.1.2.2.2.2 (p_aG (fun x hx => p_ret ⟨?_, jf, jp, h5', fr⟩))
        show InLL x ∧ _
        rw [← hx, hv]
        exact jp r r0 r1 hk hb i j w.1.1 w.1.2 w.2.1 w.2.2
    · replace hv : v = -1 := hv
      refine p_it1 (by show v < 0; omega) (p_ret ⟨⟨L_0, fun b hb => ?_⟩, jf, jp, h5', fr⟩)
      show lb 0 b = _
      rw [lb_zero, out b (fun w => y ⟨⟨r0, r1⟩, w⟩)]
  · exact absurd ⟨⟨r0, r1⟩, hk⟩ y
theorem q_factAt {r i j : Int} (ok : S.ok) (h : JF S ps t s Φ M) (r0 : 0 ≤ r) (r1 : r < S.nr) : pw (mX0_factAt 20 r i j M) (fun q => (InLL q.1 ∧ ∀ b : Nat, b < 64 → lb q.1 b = S.fa (Φ b) r i j) ∧ q.2 = M) := by
  unfold mX0_factAt
  refine p_gFc (ji := 0) rfl h.1.1 (p_gK (p_call (q_place (i := i) (j := j) (r := r) ok h.2.1) (fun v m y => ?_)))
  obtain ⟨e, y⟩ := y
  replace e : m = M := e
  subst e
  rcases y with ⟨_, hin, hv⟩ | ⟨y, hv⟩
  · replace hv : v = S.at' r i j := hv
    have pp := ok.pos r0 r1 hin
    have s9 := ok.st9 r0 r1
    have nf := ok.nf
    refine p_if (fun c => ?_) (fun c => p_if (fun c2 => ?_) (fun c2 => ?_))
    · have c : v < 0 := c
      omega
    · have c2 : 36 ≤ v := c2
      omega
    · refine p_gFc (ji := 2) rfl h.1.2.2.1 (p_aG (fun x hx => p_ret ⟨?_, rfl⟩))
      show InLL x ∧ _
      rw [← hx, hv]
      obtain ⟨x1, x2⟩ := h.2.2.2 (S.at' r i j) (by omega) (by omega)
      exact ⟨x1, fun b hb => by rw [x2 b hb, SH.fa_in hin]⟩
  · replace hv : v = -1 := hv
    refine p_it1 (by show v < 0; omega) (p_ret ⟨⟨L_0, fun b hb => ?_⟩, rfl⟩)
    show lb 0 b = _
    rw [lb_zero, SH.fa_out (fun w => y ⟨⟨r0, r1⟩, w⟩)]
end
/-! trees -/
/-- what is bad in a row, its first j -/
def rbad (A : Int → Int → Bool) (i : Int) : Nat → Bool × Bool
  | 0 => (false, false)
  | j + 1 => ((rbad A i j).1 || ((rbad A i j).2 && A i (j : Int)), (rbad A i j).2 || A i (j : Int))
def tbad (A : Int → Int → Bool) (C : Int → Int → Bool) (s : Nat) : Nat → Bool
  | 0 => false
  | i + 1 => tbad A C s i || (rbad A (i : Int) s).1 || C (i : Int) (i : Int)
theorem tree_s {A : Int → Int → Bool} {s : Nat} (hs : s = 1 ∨ s = 2 ∨ s = 3) (h : ∀ i j, ¬ ((0 ≤ i ∧ i < (s : Int)) ∧ (0 ≤ j ∧ j < (s : Int))) → A i j = false) : treeA A = !tbad A (clo A) s s := by
  have hc : ∀ i j, ¬ ((0 ≤ i ∧ i < (s : Int)) ∧ (0 ≤ j ∧ j < (s : Int))) → clo A i j = false := wsn_out h 3
  unfold treeA trow
  rcases hs with e | e | e
  · subst e
    rw [h 0 1 (by decide), h 0 2 (by decide), h 1 0 (by decide), h 1 1 (by decide), h 1 2 (by decide), h 2 0 (by decide), h 2 1 (by decide), h 2 2 (by decide), hc 1 1 (by decide), hc 2 2 (by decide)]
    show _ = !((false || ((false || (false && A 0 0)))) || clo A 0 0)
    cases A 0 0 <;> cases clo A 0 0 <;> rfl
  · subst e
    rw [h 0 2 (by decide), h 1 2 (by decide), h 2 0 (by decide), h 2 1 (by decide), h 2 2 (by decide), hc 2 2 (by decide)]
    show _ = !(((false || ((false || (false && A 0 0)) || ((false || A 0 0) && A 0 1))) || clo A 0 0) || ((false || (false && A 1 0)) || ((false || A 1 0) && A 1 1)) || clo A 1 1)
    cases A 0 0 <;> cases A 0 1 <;> cases A 1 0 <;> cases A 1 1 <;> cases clo A 0 0 <;> cases clo A 1 1 <;> rfl
  · subst e
    show _ = !((((false || (((false || (false && A 0 0)) || ((false || A 0 0) && A 0 1)) || (((false || A 0 0) || A 0 1) && A 0 2))) || clo A 0 0) || (((false || (false && A 1 0)) || ((false || A 1 0) && A 1 1)) || (((false || A 1 0) || A 1 1) && A 1 2)) || clo A 1 1) || (((false || (false && A 2 0)) || ((false || A 2 0) && A 2 1)) || (((false || A 2 0) || A 2 1) && A 2 2)) || clo A 2 2)
    generalize clo A 0 0 = c0
    generalize clo A 1 1 = c1
    generalize clo A 2 2 = c2
    cases A 0 0 <;> cases A 0 1 <;> cases A 0 2 <;> cases A 1 0 <;> cases A 1 1 <;> cases A 1 2 <;> cases A 2 0 <;> cases A 2 1 <;> cases A 2 2 <;> cases c0 <;> cases c1 <;> cases c2 <;> rfl
section
variable {S : SH} {ps : List Row} {t s : Int} {Φ : Nat → Int → Bool} {M : Mem}
theorem q_tree44 {a z : Int} {A C : Nat → Int → Int → Bool} (e2 : mG M 20 2 = 21) (e4 : mG M 20 4 = 23) (hs : z = 1 ∨ z = 2 ∨ z = 3) (ha : 0 ≤ a ∧ a ≤ 27) (hA : ∀ i j : Int, 0 ≤ i → i < z → 0 ≤ j → j < z → InLL (mG M 21 (a + i * z + j)) ∧ ∀ b : Nat, b < 64 → lb (mG M 21 (a + i * z + j)) b = A b i j) (hC : ∀ i j : Int, 0 ≤ i → i < z → 0 ≤ j → j < z → InLL (mG M 23 (a + i * z + j)) ∧ ∀ b : Nat, b < 64 → lb (mG M 23 (a + i * z + j)) b = C b i j) : ∀ (fu i : Nat) (bad : Int), (i : Int) ≤ z → (InLL bad ∧ ∀ b : Nat, b < 64 → lb bad b = tbad (A b) (C b) z.toNat i) → pw (mX0_treeLike_44 fu 20 a z bad (i : Int) M) (fun q => (InLL q.1 ∧ ∀ b : Nat, b < 64 → lb q.1 b = !tbad (A b) (C b) z.toNat z.toNat) ∧ q.2 = M) := by
  intro fu
  induction fu with
  | zero => intro i bad _ _; exact p_none
  | succ fu ih =>
    intro i bad hi hb
    show pw (bX0_treeLike_44 (mX0_treeLike_44 fu) 20 a z bad (i : Int) M) _
    unfold bX0_treeLike_44
    refine p_if (fun c => p_ret ⟨⟨lxor_L _ _, fun b h => ?_⟩, rfl⟩) (fun c => ?_)
    · show lb (lxor bad (-1)) b = _
      rw [lb_not _ h, hb.2 b h, show z.toNat = i by omega]
    have inner : ∀ (fu2 j : Nat) (bad2 tk : Int), (j : Int) ≤ z → (InLL bad2 ∧ ∀ b : Nat, b < 64 → lb bad2 b = (tbad (A b) (C b) z.toNat i || (rbad (A b) (i : Int) j).1)) → (InLL tk ∧ ∀ b : Nat, b < 64 → lb tk b = (rbad (A b) (i : Int) j).2) → pw (mX0_treeLike_56 (mX0_treeLike_44 fu) fu2 20 a z bad2 (i : Int) tk (j : Int) M) (fun q => (InLL q.1 ∧ ∀ b : Nat, b < 64 → lb q.1 b = !tbad (A b) (C b) z.toNat z.toNat) ∧ q.2 = M) := by
      intro fu2
      induction fu2 with
      | zero => intro j bad2 tk _ _ _; exact p_none
      | succ fu2 ih2 =>
        intro j bad2 tk hj hb2 ht
        show pw (bX0_treeLike_56 (mX0_treeLike_44 fu) (mX0_treeLike_56 (mX0_treeLike_44 fu) fu2) 20 a z bad2 (i : Int) tk (j : Int) M) _
        unfold bX0_treeLike_56
        refine p_if (fun c2 => ?_) (fun c2 => ?_)
        · obtain ⟨w1, w2, w3⟩ := ad_1 hs ha (i := (i : Int)) (j := (i : Int)) (by omega) (by omega)
          refine p_gFc (ji := 4) rfl e4 ?_
          rw [w1]
          refine p_aG (fun x hx => ?_)
          rw [wI_id (x := (i : Int) + 1) (by omega) (by omega), show (i : Int) + 1 = ((i + 1 : Nat) : Int) by omega]
          refine ih (i + 1) _ (by omega) ⟨lor_L _ _, fun b h => ?_⟩
          obtain ⟨_, y⟩ := hC i i (by omega) (by omega) (by omega) (by omega)
          rw [hx] at y
          rw [lb_or, hb2.2 b h, y b h, show j = z.toNat by omega]; rfl
        · obtain ⟨w1, w2, w3⟩ := ad_1 hs ha (i := (i : Int)) (j := (j : Int)) (by omega) (by omega)
          refine p_gFc (ji := 2) rfl e2 ?_
          rw [w1]
          refine p_aG (fun x hx => ?_)
          rw [wI_id (x := (j : Int) + 1) (by omega) (by omega), show (j : Int) + 1 = ((j + 1 : Nat) : Int) by omega]
          obtain ⟨_, y⟩ := hA i j (by omega) (by omega) (by omega) (by omega)
          rw [hx] at y
          refine ih2 (j + 1) _ _ (by omega) ⟨lor_L _ _, fun b h => ?_⟩ ⟨lor_L _ _, fun b h => ?_⟩
          · rw [lb_or, lb_and, hb2.2 b h, ht.2 b h, y b h, Bool.or_assoc]; rfl
          · rw [lb_or, ht.2 b h, y b h]; rfl
    exact inner FU 0 bad 0 (by omega) ⟨hb.1, fun b h => by rw [hb.2 b h]; show _ = (_ || false); rw [Bool.or_false]⟩ ⟨L_0, fun b h => lb_zero b⟩
theorem q_tree {r : Int} (ok : S.ok) (o : okST s t) (h : JF S ps t s Φ M) (hp : JP S Φ M) (h5 : 0 ≤ mG M 20 5 ∧ mG M 20 5 < 16) (r0 : 0 ≤ r) (r1 : r < S.nr) (hk : S.k1 r = S.k2 r) : pw (mX0_treeLike 20 r M) (fun q => (InLL q.1 ∧ ∀ b : Nat, b < 64 → lb q.1 b = treeA (S.fa (Φ b) r)) ∧ JF S ps t s Φ q.2 ∧ JP S Φ q.2 ∧ (0 ≤ mG q.2 20 5 ∧ mG q.2 20 5 < 16) ∧ FJ 100 M q.2) := by
  unfold mX0_treeLike
  refine p_gFc (ji := 0) rfl h.1.1 (p_gK (p_call (q_twice' h.2.1) (fun v m y => ?_)))
  obtain ⟨e, y⟩ := y
  replace e : m = M := e
  subst e
  rcases y with ⟨_, _, hv⟩ | ⟨y, _⟩
  · replace hv : v = 1 := hv
    subst hv
    refine p_it0 (show ¬ (1 : Int) = 0 by decide) (p_gK (p_call (q_findPaths ok o h hp h5 r0 r1 hk) (fun v m1 y => ?_)))
    obtain ⟨jf, jp, h5', fr, hb⟩ := y
    replace jf : JF S ps t s Φ m1 := jf
    obtain ⟨b1, b2, b3, b4, b5⟩ := jf.2.1.2.2 r r0 r1
    refine p_gFc (ji := 0) rfl jf.1.1 (p_gFc (ji := 3) rfl jf.2.1.1.2.2.2.1 (p_aGc b3 (p_gFc (ji := 0) rfl jf.1.1 (p_gFc (ji := 5) rfl jf.2.1.1.2.2.2.2.2.1 (p_aGc b5 ?_)))))
    have hs := zv_c ok r0 r1
    have at' : ∀ i j : Int, 0 ≤ i → i < S.zv (S.k2 r) → 0 ≤ j → j < S.zv (S.k2 r) → S.inr r i j ∧ S.at' r i j = S.st r.toNat + i * S.zv (S.k2 r) + j ∧ 0 ≤ S.at' r i j ∧ S.at' r i j < S.nf := fun i j i0 i1 j0 j1 => by
      have hin : S.inr r i j := (tw_at ok r0 r1 hk).2.2.mpr ⟨⟨i0, i1⟩, j0, j1⟩
      have pp := ok.pos r0 r1 hin
      have s9 := ok.st9 r0 r1
      exact ⟨hin, (tw_at ok r0 r1 hk).2.1, by omega, by omega⟩
    refine p_mono (q_tree44 (A := fun b => S.fa (Φ b) r) (C := fun b => clo (S.fa (Φ b) r)) jf.1.2.2.1 jf.1.2.2.2.2 hs (ok.st9 r0 r1) (fun i j i0 i1 j0 j1 => ?_) (fun i j i0 i1 j0 j1 => ?_) FU 0 0 (by omega) ⟨L_0, fun b _ => lb_zero b⟩) (fun q y => ?_)
    · obtain ⟨x1, x2, x3, x4⟩ := at' i j i0 i1 j0 j1
      rw [← x2]
      obtain ⟨y1, y2⟩ := jf.2.2.2 _ x3 x4
      exact ⟨y1, fun b hb => by rw [y2 b hb, SH.fa_in x1]⟩
    · obtain ⟨x1, x2, x3, x4⟩ := at' i j i0 i1 j0 j1
      rw [← x2]
      exact jp r r0 r1 hk hb i j i0 i1 j0 j1
    · obtain ⟨⟨y1, y2⟩, y3⟩ := y
      rw [y3]
      refine ⟨⟨y1, fun b hb => ?_⟩, jf, jp, h5', fr⟩
      rw [y2 b hb, tree_s (s := (S.zv (S.k2 r)).toNat) (by omega) (fun i j hij => SH.fa_out (fun w => hij (by
        have w := (tw_at ok r0 r1 hk).2.2.mp w
        omega)))]
  · exact absurd ⟨⟨r0, r1⟩, hk⟩ y
end
