section
/-! ===== apart: alike ===== -/
theorem pop12 {x : Nat} (h : x < 4096) : pop16 x ≤ 12 := by
  have h' : x < 2 ^ 12 := by omega
  rw [pop16_c]
  unfold pop16c
  have := ctn_cut (f := fun s => x.testBit s) (a := 12) (fun w hw => Nat.testBit_lt_two_pow (Nat.lt_of_lt_of_le h' (Nat.pow_le_pow_right (n := 2) (i := 12) (by decide) (by omega)))) 4
  rw [show 12 + 4 = 16 by omega] at this
  rw [this]
  exact ctn_le _ 12
/-- in how few facts one world is apart from all that another one is -/
def FAPa (S : SH) (n k own v : Nat) : Prop := (∃ x, IM S n k x ∧ v = pop16 (own ^^^ x)) ∧ ∀ x, IM S n k x → v ≤ pop16 (own ^^^ x)
theorem FAPa.uniq {S : SH} {n k own v v' : Nat} (h : FAPa S n k own v) (h' : FAPa S n k own v') : v = v' := by
  obtain ⟨⟨x, x1, x2⟩, x3⟩ := h
  obtain ⟨⟨y, y1, y2⟩, y3⟩ := h'
  have := x3 y y1
  have := y3 x x1
  omega
section
variable {S : SH} {M : Mem} {n W : Nat} {A : Nat → Nat}
theorem q_fa12 {k own : Nat} (ok : S.ok) (hn : S.nf = (n : Int)) (n12 : n ≤ 12) (k2 : K2 M) (h : LAID S n W A M) (hk : k < 2 ^ n) (ho : own < 2 ^ n) : pw (mX1_fewestApart_12 FU 24 (own : Int) (k : Int) 12 0 M) (fun q => q.2 = M ∧ ∃ v : Nat, q.1 = (v : Int) ∧ FAPa S n k own v) := by
  have p12 : 2 ^ n ≤ 2 ^ 12 := Nat.pow_le_pow_right (n := 2) (by decide) n12
  have xl : ∀ x, x < 2 ^ n → own ^^^ x < 4096 := fun x hx => Nat.xor_lt_two_pow (n := 12) (by omega) (by omega)
  have loop : ∀ (fu y v : Nat), y ≤ W → (v = 12 ∨ ∃ x, IM S n k x ∧ v = pop16 (own ^^^ x)) → (∀ z, z < y → v ≤ pop16 (own ^^^ imN S n (frO (A z)) k)) → pw (mX1_fewestApart_12 fu 24 (own : Int) (k : Int) (v : Int) (y : Int) M) (fun q => q.2 = M ∧ ∃ v : Nat, q.1 = (v : Int) ∧ FAPa S n k own v) := by
    intro fu
    induction fu with
    | zero => intro y v _ _ _; exact p_none
    | succ fu ih =>
      intro y v hy hv hz
      show pw (bX1_fewestApart_12 (mX1_fewestApart_12 fu) 24 (own : Int) (k : Int) (v : Int) (y : Int) M) _
      have w216 := h.1.2.2
      unfold bX1_fewestApart_12
      refine p_gFc (ji := 4) rfl h.1.2.1 (p_if (fun c => p_ret ⟨rfl, v, rfl, ?_⟩) (fun c => ?_))
      · have al : ∀ x, IM S n k x → v ≤ pop16 (own ^^^ x) := fun u hu => by
          obtain ⟨z, z1, z2⟩ := (h.im ok hn hk).mp hu
          rw [z2]
          exact hz z (by omega)
        rcases hv with e | e
        · have a1 := al k (IM.rf hk)
          have a2 := pop12 (xl k hk)
          exact ⟨⟨k, IM.rf hk, by omega⟩, al⟩
        · exact ⟨e, al⟩
      have y1 : y < W := by omega
      refine p_gK (p_call (q_renumbered ok hn n12 k2 h y1 hk) (fun u m2 yy => ?_))
      obtain ⟨e1, e2⟩ := yy
      replace e1 : m2 = M := e1
      replace e2 : u = ((imN S n (frO (A y)) k : Nat) : Int) := e2
      subst e1; subst e2
      have im := (h.im ok hn hk).mpr ⟨y, y1, rfl⟩
      have il := im.2.1
      have xx := xl _ il
      have xe : ixor (own : Int) ((imN S n (frO (A y)) k : Nat) : Int) = ((own ^^^ imN S n (frO (A y)) k : Nat) : Int) := ixor_nn (by omega) (by omega)
      dsimp only
      rw [xe]
      refine p_call (q_bc16 (by omega)) (fun u m3 yy => ?_)
      obtain ⟨e1, e2⟩ := yy
      replace e1 : m3 = m2 := e1
      replace e2 : u = ((pop16 (own ^^^ imN S n (frO (A y)) k) : Nat) : Int) := e2
      subst e1; subst e2
      refine p_some (fun b hb => ?_)
      rw [wI_s (p := y) (by omega)]
      by_cases c2 : pop16 (own ^^^ imN S n (frO (A y)) k) < v
      · have eb : b = ((pop16 (own ^^^ imN S n (frO (A y)) k) : Nat) : Int) := by
          rw [hb]
          exact if_pos (by show ((pop16 (own ^^^ imN S n (frO (A y)) k) : Nat) : Int) < (v : Int); omega)
        rw [eb]
        refine ih (y + 1) _ (by omega) (Or.inr ⟨_, im, rfl⟩) (fun z hz2 => ?_)
        by_cases e : z = y
        · rw [e]; exact Nat.le_refl _
        · have := hz z (by omega)
          omega
      · have eb : b = (v : Int) := by
          rw [hb]
          exact if_neg (by show ¬ ((pop16 (own ^^^ imN S n (frO (A y)) k) : Nat) : Int) < (v : Int); omega)
        rw [eb]
        refine ih (y + 1) v (by omega) hv (fun z hz2 => ?_)
        by_cases e : z = y
        · rw [e]; omega
        · exact hz z (by omega)
  exact loop FU 0 12 (Nat.zero_le _) (Or.inl rfl) (fun z hz => absurd hz (by omega))
/-! the reference's -/
theorem v_ones {x : Nat} (hx : x < 65536) : pw (mX9_ones (x : Int) M) (fun q => q.2 = M ∧ q.1 = ((pop16 x : Nat) : Int)) := by
  obtain ⟨F, hF⟩ : ∃ F : Nat → Bool, F = fun (s : Nat) => x.testBit s := ⟨_, rfl⟩
  have loop : ∀ (fu k : Nat), k ≤ 16 → pw (mX9_ones_4 fu (x : Int) ((ctn F k : Nat) : Int) (k : Int) M) (fun q => q.2 = M ∧ q.1 = ((ctn F 16 : Nat) : Int)) := by
    intro fu
    induction fu with
    | zero => intro k _; exact p_none
    | succ fu ih =>
      intro k hk
      show pw (bX9_ones_4 (mX9_ones_4 fu) (x : Int) _ (k : Int) M) _
      unfold bX9_ones_4
      have cle := ctn_le F k
      refine p_if (fun c => p_ret ⟨rfl, ?_⟩) (fun c => p_some (fun b hb => ?_))
      · show ((ctn F k : Nat) : Int) = _
        rw [show k = 16 by omega]
      have e : iand (ishr (x : Int) (k : Int)) 1 = b2i (F k) := by
        have bb := iand_r (x := ishr (x : Int) (k : Int)) (y := 1) (by decide) (by decide)
        have i := ibit (x := x) (k := k) (by omega) (by omega)
        rw [hF]
        show iand (ishr (x : Int) (k : Int)) 1 = b2i (x.testBit k)
        cases t : x.testBit k with
        | false => exact i.mpr t
        | true =>
          have : ¬ iand (ishr (x : Int) (k : Int)) 1 = 0 := fun z => by
            have := i.mp z
            rw [t] at this; cases this
          show _ = (1 : Int)
          omega
      have bb := b2i_b (F k)
      rw [e, wI_id (by omega) (by omega), b2i_n, ← Int.natCast_add, ← ctn_s] at hb
      rw [wI_s (p := k) (by omega), hb]
      exact ih (k + 1) (by omega)
  unfold mX9_ones
  refine p_mono (loop FU 0 (Nat.zero_le _)) (fun q y => ⟨y.1, y.2.trans ?_⟩)
  rw [pop16_c, hF]
  rfl
theorem v_apart79 {k own : Nat} (ok : S.ok) (hn : S.nf = (n : Int)) (n12 : n ≤ 12) (hk : k < 2 ^ n) (ho : own < 2 ^ n) (k9 : K9 M) (rs : RSH S M) (lw : LW S (phw (n : Int) k) M) : pw (mX9_apart_79 FU 126 (own : Int) 36 0 M) (fun q => ∃ v : Nat, q.1 = (v : Int) ∧ FAPa S n k own v) := by
  have p12 : 2 ^ n ≤ 2 ^ 12 := Nat.pow_le_pow_right (n := 2) (by decide) n12
  have xl : ∀ x, x < 2 ^ n → x ^^^ own < 4096 := fun x hx => Nat.xor_lt_two_pow (n := 12) (by omega) (by omega)
  have loop : ∀ (fu a v : Nat) (m : Mem), a ≤ 216 → (∀ c j : Int, ¬ c = 162 → mG m c j = mG M c j) → (v = 36 ∨ ∃ x, IM S n k x ∧ v = pop16 (own ^^^ x)) → (∀ b, b < a → isA S b = true → v ≤ pop16 (own ^^^ imN S n (frO b) k)) → pw (mX9_apart_79 fu 126 (own : Int) (v : Int) (a : Int) m) (fun q => ∃ v : Nat, q.1 = (v : Int) ∧ FAPa S n k own v) := by
    intro fu
    induction fu with
    | zero => intro a v m _ _ _ _; exact p_none
    | succ fu ih =>
      intro a v m ha g hv hz
      show pw (bX9_apart_79 (mX9_apart_79 fu) 126 (own : Int) (v : Int) (a : Int) m) _
      unfold bX9_apart_79
      refine p_if (fun c => p_ret ⟨v, rfl, ?_⟩) (fun c => ?_)
      · have al : ∀ x, IM S n k x → v ≤ pop16 (own ^^^ x) := fun u hu => by
          obtain ⟨b, b1, b2, b3⟩ := im_fr ok hn hu
          rw [b3]
          exact hz b (by omega) b2
        rcases hv with e | e
        · have a1 := al k (IM.rf hk)
          have a2 := pop12 (xl k hk)
          rw [Nat.xor_comm] at a2
          omega
        · exact ⟨e, al⟩
      have a1 : a < 216 := by omega
      have km : K9 m := k9.kp (fun j _ => g 126 j (by decide))
      have rm : RSH S m := rs.kp (fun c j hc => g c j (by omega))
      refine p_gK (p_call (v_takeOrders ok a1 km rm) (fun u m2 y => ?_))
      obtain ⟨y1, y2, y3⟩ := y
      replace y1 : ORD a m2 := y1
      replace y2 : ∀ c j : Int, ¬ c = 162 → mG m2 c j = mG m c j := y2
      replace y3 : u = b2i (isA S a) := y3
      have g2 : ∀ c j : Int, ¬ c = 162 → mG m2 c j = mG M c j := fun c j x => (y2 c j x).trans (g c j x)
      refine p_if (fun c2 => ?_) (fun c2 => ?_)
      · have nA := b2i_0.mp (y3.symm.trans c2)
        unfold mX9_apart_123
        rw [wI_s (p := a) (by omega)]
        refine ih (a + 1) v m2 (by omega) g2 hv (fun b hb hb2 => ?_)
        by_cases z : b = a
        · rw [z, nA] at hb2; cases hb2
        · exact hz b (by omega) hb2
      have hA : isA S a = true := by
        cases e : isA S a with
        | true => rfl
        | false => rw [e] at y3; exact absurd y3 c2
      have k2 : K9 m2 := k9.kp (fun j _ => g2 126 j (by decide))
      have im : IM S n k (imN S n (frO a) k) := IMf.im (frO_ren ok a1 hA) hk (imN_f ok hn (frO_ren ok a1 hA) k)
      refine p_gK (p_call (v_imageOf ok hn n12 a1 hA k2 (rs.kp (fun c j hc => g2 c j (by omega))) y1 (fun f f0 f1 => (g2 154 f (by decide)).trans (lw f f0 f1))) (fun u m3 y => ?_))
      obtain ⟨y4, y5⟩ := y
      replace y4 : m3 = m2 := y4
      replace y5 : u = ((imN S n (frO a) k : Nat) : Int) := y5
      subst y4; subst y5
      have il := im.2.1
      have xx := xl _ il
      have xe : ixor ((imN S n (frO a) k : Nat) : Int) (own : Int) = ((imN S n (frO a) k ^^^ own : Nat) : Int) := ixor_nn (by omega) (by omega)
      dsimp only
      rw [xe]
      refine p_call (v_ones (by omega)) (fun u m4 y => ?_)
      obtain ⟨y6, y7⟩ := y
      replace y6 : m4 = m3 := y6
      replace y7 : u = ((pop16 (imN S n (frO a) k ^^^ own) : Nat) : Int) := y7
      subst y6; subst y7
      rw [Nat.xor_comm (imN S n (frO a) k) own]
      refine p_if (fun c3 => ?_) (fun c3 => ?_)
      · replace c3 : (v : Int) ≤ ((pop16 (own ^^^ imN S n (frO a) k) : Nat) : Int) := c3
        unfold mX9_apart_121 mX9_apart_123
        rw [wI_s (p := a) (by omega)]
        refine ih (a + 1) v m4 (by omega) g2 hv (fun b hb hb2 => ?_)
        by_cases z : b = a
        · rw [z]; omega
        · exact hz b (by omega) hb2
      · replace c3 : ¬ (v : Int) ≤ ((pop16 (own ^^^ imN S n (frO a) k) : Nat) : Int) := c3
        unfold mX9_apart_121 mX9_apart_123
        rw [wI_s (p := a) (by omega)]
        refine ih (a + 1) _ m4 (by omega) g2 (Or.inr ⟨_, im, rfl⟩) (fun b hb hb2 => ?_)
        by_cases z : b = a
        · rw [z]; exact Nat.le_refl _
        · have := hz b (by omega) hb2
          omega
  exact loop FU 0 36 M (by omega) (fun _ _ _ => rfl) (Or.inl rfl) (fun b hb => absurd hb (by omega))
end
/-- what apart answers -/
def AP (S : SH) (n : Nat) (l : Int) (M : Mem) (v : Int) : Prop := (¬ (0 ≤ l ∧ l ≤ 3) ∧ v = -1) ∨ ((0 ≤ l ∧ l ≤ 3) ∧ mG M 151 l = 0 ∧ v = -1) ∨ ((0 ≤ l ∧ l ≤ 3) ∧ ¬ mG M 151 l = 0 ∧ 12 < n ∧ v = -1) ∨ ((0 ≤ l ∧ l ≤ 3) ∧ ¬ mG M 151 l = 0 ∧ n ≤ 12 ∧ ∃ x : Nat, FAPa S n (wn (fun f => mG M 150 (36 * l + f)) n) (wn (mG M 137) n) x ∧ v = (x : Int))
theorem AP.uniq {S : SH} {n : Nat} {l : Int} {M : Mem} {v v' : Int} (h : AP S n l M v) (h' : AP S n l M v') : v = v' := by
  rcases h with ⟨a, b⟩ | ⟨a, b, c⟩ | ⟨a, b, c, d⟩ | ⟨a, b, c, x, d, e⟩
  · rcases h' with ⟨a', b'⟩ | ⟨a', _⟩ | ⟨a', _⟩ | ⟨a', _⟩
    · rw [b, b']
    · exact absurd a' a
    · exact absurd a' a
    · exact absurd a' a
  · rcases h' with ⟨a', _⟩ | ⟨_, _, c'⟩ | ⟨_, b', _⟩ | ⟨_, b', _⟩
    · exact absurd a a'
    · rw [c, c']
    · exact absurd b b'
    · exact absurd b b'
  · rcases h' with ⟨a', _⟩ | ⟨_, b', _⟩ | ⟨_, _, _, d'⟩ | ⟨_, _, c', _⟩
    · exact absurd a a'
    · exact absurd b' b
    · rw [d, d']
    · omega
  · rcases h' with ⟨a', _⟩ | ⟨_, b', _⟩ | ⟨_, _, c', _⟩ | ⟨_, _, _, x', d', e'⟩
    · exact absurd a a'
    · exact absurd b' b
    · omega
    · rw [e, e', d.uniq d']
section
variable {M : Mem} {l : Int}
theorem q_apart8 {n : Nat} (h : J4 M) (hn : (shp M).nf = (n : Int)) : pw (mX8_apart 1 l M) (fun q => AP (shp M) n l M q.1) := by
  obtain ⟨P, n', ok, hn', k2, sh, tp, rf, ve, vlt, h1, hl⟩ := look h.1.1
  obtain ⟨en, n36, w0⟩ := h.n hn sh
  obtain ⟨_, _, _, _, se⟩ := h.1.1.1.2 0 (by decide) (by decide) (Or.inl rfl)
  have iM := h.1.1.1.1.1
  unfold mX8_apart
  refine p_if (fun c => p_ret (Or.inl ⟨by omega, rfl⟩)) (fun c => p_if (fun c2 => p_ret (Or.inl ⟨by omega, rfl⟩)) (fun c2 => ?_))
  have e12 : mG M 12 l = mG M 151 l := by
    have := se l (by omega) (by omega)
    rw [sOf_0, show 4 * (0 : Int) + l = l by omega] at this
    exact this
  refine p_gFc (ji := 1) rfl h1.2 (p_gFc (ji := 3) rfl k2.c3_3 (p_aGc e12 (p_if (fun c3 => p_ret (Or.inr (Or.inl ⟨⟨by omega, by omega⟩, c3, rfl⟩))) (fun c3 => ?_))))
  have hk := w0.2 l (by omega) (by omega) (by rw [e12]; exact c3)
  have k1 := wn_lt (fun f => mG M 150 (36 * l + f)) n
  have o1 := wn_lt (mG M 137) n
  obtain ⟨k, hkk⟩ : ∃ k, k = wn (fun f => mG M 150 (36 * l + f)) n := ⟨_, rfl⟩
  obtain ⟨own, hoo⟩ : ∃ own, own = wn (mG M 137) n := ⟨_, rfl⟩
  have w31 := w0.1.1
  rw [← hkk] at hk k1
  rw [← hoo] at o1 w31
  refine p_gFc (ji := 0) rfl h1.1 (p_gFc (ji := 1) rfl h1.2 (p_gFc (ji := 2) rfl k2.c3_2 (p_aGc hk (p_gK (p_call (P := fun q => (12 < n ∧ q.1 = -1) ∨ (n ≤ 12 ∧ ∃ x : Nat, FAPa (shp M) n k own x ∧ q.1 = (x : Int))) ?_ (fun v m y => p_ret ?_))))))
  · unfold mX4_fewestApart
    refine p_gK (p_call (q_canTell k2 sh) (fun v m y => ?_))
    obtain ⟨y1, y2⟩ := y
    replace y1 : m = M := y1
    subst y1
    rcases y2 with ⟨c, d⟩ | ⟨c, d⟩
    · exact p_it1 d (p_ret (Or.inl ⟨by omega, rfl⟩))
    replace d : v = 1 := d
    have n12 : n ≤ 12 := by omega
    have p12 : 2 ^ n ≤ 2 ^ 12 := Nat.pow_le_pow_right (n := 2) (by decide) n12
    refine p_it0 (show ¬ v = 0 by omega) (p_gFc (ji := 2) rfl k2.c2_2 (p_gFc (ji := 0) rfl k2.c2_0 (p_gFc (ji := 0) rfl k2.c3_0 (p_gFc (ji := 0) rfl k2.c2_0 (p_gFc (ji := 1) rfl w31 (p_gK ?_))))))
    rw [l2i_nat (show own < 4096 by omega), l2i_nat (show k < 4096 by omega)]
    refine p_call (P := fun q => ∃ x : Nat, q.1 = (x : Int) ∧ FAPa (shp m) n k own x) ?_ (fun v m2 y => p_ret ?_)
    · unfold mX1_fewestApart
      refine p_gK (p_call (q_layOut ok hn n12 k2 sh h.1.2) (fun _ m1 y => ?_))
      obtain ⟨⟨W, A, la⟩, _, fl, _⟩ := y
      replace la : LAID (shp m) n W A m1 := la
      replace fl : FLO m m1 := fl
      have k1' : K2 m1 := k2.kp (fun x hx => fl _ _ (by have := cst_24 x hx; omega) (by have c := cst_out x hx; omega) (by have c := cst_out x hx; omega))
      exact p_mono (q_fa12 ok hn n12 k1' la k1 o1) (fun q y => y.2)
    · obtain ⟨x, y1, y2⟩ := y
      exact Or.inr ⟨n12, x, y2, y1⟩
  · rcases y with ⟨a, b⟩ | ⟨a, x, b, d⟩
    · exact Or.inr (Or.inr (Or.inl ⟨⟨by omega, by omega⟩, c3, a, b⟩))
    · rw [hkk, hoo] at b
      exact Or.inr (Or.inr (Or.inr ⟨⟨by omega, by omega⟩, c3, a, x, b, d⟩))
theorem v_apart {S : SH} {P : Nat → List Row} {n : Nat} (ok : S.ok) (hn : S.nf = (n : Int)) (rf : RFB S P M) (hb : ∀ f : Int, 0 ≤ mG M 137 f ∧ mG M 137 f ≤ 1) (hb2 : ∀ f : Int, 0 ≤ mG M 150 f ∧ mG M 150 f ≤ 1) : pw (mX9_apart 126 l M) (fun q => AP S n l M q.1) := by
  unfold mX9_apart
  refine p_pF (ji := 0) rfl (fun m1 h1 => ?_)
  have g1 : ∀ c j : Int, ¬ c = 126 → mG m1 c j = mG M c j := fun c j x => st_ne h1 (fun w => x w.1)
  have k1 : K9 m1 := rf.1.kp (fun j hj => st_ne h1 (fun w => by omega))
  refine p_call pr_in (fun b m2 y => ?_)
  obtain ⟨y1, y2⟩ := y
  replace y1 : m2 = m1 := y1
  subst y1
  rcases y2 with ⟨b1, b2, b3⟩ | ⟨b1, b2⟩
  · replace b1 : b = 1 := b1
    refine p_it0 (show ¬ b = 0 by omega) (p_gFc (ji := 25) rfl k1.c25 (p_aGc (g1 151 l (by decide)) (p_if (fun c => p_ret (Or.inr (Or.inl ⟨⟨b2, b3⟩, c, rfl⟩))) (fun c => p_gK (p_call (v_can ok rf k1 (fun c j x _ _ => g1 c j x)) (fun v m3 y => ?_))))))
    obtain ⟨rb, y⟩ := y
    rcases y with ⟨z1, z2⟩ | ⟨z1, z2⟩
    · exact p_it1 z2 (p_ret (Or.inr (Or.inr (Or.inl ⟨⟨b2, b3⟩, c, by omega, rfl⟩))))
    replace z2 : v = 1 := z2
    have n12 : n ≤ 12 := by omega
    obtain ⟨⟨k3, s3, _⟩, _, g3⟩ := rb
    replace k3 : K9 m3 := k3
    replace s3 : RSH S m3 := s3
    replace g3 : ∀ c j : Int, ¬ c = 126 → ¬ c = 152 → ¬ c = 153 → mG m3 c j = mG M c j := g3
    refine p_it0 (show ¬ v = 0 by omega) (p_gK (p_call (v_manyFacts ok k3 s3) (fun u m4 y => ?_)))
    obtain ⟨y1, y2⟩ := y
    replace y1 : m4 = m3 := y1
    replace y2 : u = S.nf := y2
    subst y1
    rw [hn] at y2
    subst y2
    obtain ⟨k, hkk⟩ : ∃ k, k = wn (fun f => mG M 150 (36 * l + f)) n := ⟨_, rfl⟩
    obtain ⟨own, hoo⟩ : ∃ own, own = wn (mG M 137) n := ⟨_, rfl⟩
    have kl : k < 2 ^ n := by rw [hkk]; exact wn_lt _ n
    have ol : own < 2 ^ n := by rw [hoo]; exact wn_lt _ n
    have fin : ∀ m5, K9 m5 → RSH S m5 → (∀ f : Int, mG m5 137 f = mG M 137 f) → LW S (phw (n : Int) k) m5 → pw ((gK 9 m5 126).bind fun _ => (mX9_numberOfWorld 126 m5).bind fun q68 => mX9_apart_79 FU 126 q68.1 36 0 q68.2) (fun q => AP S n l M q.1) := fun m5 k5 s5 g5 lw => by
      have eg : mG m5 137 = mG M 137 := funext g5
      refine p_gK (p_call (v_number ok hn n12 k5 s5 (fun f => by rw [g5]; exact hb f)) (fun u m6 y => ?_))
      obtain ⟨y1, y2⟩ := y
      replace y1 : m6 = m5 := y1
      replace y2 : u = ((wn (mG m5 137) n : Nat) : Int) := y2
      subst y1
      rw [eg, ← hoo] at y2
      subst y2
      refine p_mono (v_apart79 ok hn n12 kl ol k5 s5 lw) (fun q y => ?_)
      obtain ⟨x, y1, y2⟩ := y
      rw [hkk, hoo] at y2
      exact Or.inr (Or.inr (Or.inr ⟨⟨b2, b3⟩, c, n12, x, y2, y1⟩))
    have loop : ∀ (fu f : Nat) (m : Mem), f ≤ n → (∀ c j : Int, ¬ c = 154 → mG m c j = mG m4 c j) → (∀ x : Nat, x < f → mG m 154 (x : Int) = mG M 150 (36 * l + (x : Int))) → pw (mX9_apart_39 fu 126 l (n : Int) (f : Int) m) (fun q => AP S n l M q.1) := by
      intro fu
      induction fu with
      | zero => intro f m _ _ _; exact p_none
      | succ fu ih =>
        intro f m hf g hx
        show pw (bX9_apart_39 (mX9_apart_39 fu) 126 l (n : Int) (f : Int) m) _
        unfold bX9_apart_39
        have km : K9 m := k3.kp (fun j _ => g 126 j (by decide))
        refine p_if (fun c2 => ?_) (fun c2 => ?_)
        · refine fin m km (s3.kp (fun c j hc => g c j (by omega))) (fun f => (g 137 f (by decide)).trans (g3 137 f (by decide) (by decide) (by decide))) (fun f f0 f1 => ?_)
          rw [hn] at f1
          obtain ⟨x, rfl⟩ := Int.eq_ofNat_of_zero_le f0
          have hh := hb2 (36 * l + (x : Int))
          rw [hx x (by omega), hkk, phw_wn (by omega) f1]
          by_cases d : mG M 150 (36 * l + (x : Int)) = 1
          · rw [d]; rfl
          · rw [decide_eq_false d]
            show _ = (0 : Int)
            omega
        · refine p_gFc (ji := 28) rfl km.c28 (p_gFc (ji := 24) rfl km.c24 ?_)
          rw [wI_id (x := 36 * l) (by omega) (by omega), wI_id (x := 36 * l + (f : Int)) (by omega) (by omega)]
          refine p_aGc ((g 150 _ (by decide)).trans (g3 150 _ (by decide) (by decide) (by decide))) (p_aSZ (fun m5 h5 => ?_))
          rw [wI_s (p := f) (by omega)]
          refine ih (f + 1) m5 (by omega) (fun c j x => (st_ne h5 (fun w => x w.1)).trans (g c j x)) (fun x hx2 => ?_)
          by_cases e : x = f
          · rw [e]; exact st_eq h5
          · rw [st_ne h5 (fun w => e (by have := w.2; omega))]
            exact hx x (by omega)
    exact loop FU 0 m4 (Nat.zero_le _) (fun _ _ _ => rfl) (fun x hx => absurd hx (by omega))
  · exact p_it1 b1 (p_ret (Or.inl ⟨b2, rfl⟩))
theorem AP.go {S : SH} {n : Nat} {M' : Mem} {v : Int} (h : AP S n l M' v) (g : F9 M M') : AP S n l M v := by
  unfold AP at h
  rw [show mG M' 151 l = mG M 151 l from g 151 l (by decide) (by decide), show mG M' 150 = mG M 150 from funext (fun f => g 150 f (by decide) (by decide)), show mG M' 137 = mG M 137 from funext (fun f => g 137 f (by decide) (by decide))] at h
  exact h
theorem eq_apart (r1 : (-2147483648) ≤ l ∧ l ≤ 2147483647) (h : J4 M) : pw (mX8_apart 1 l M) (fun q1 => pw (mX9_apart 126 l q1.2) (fun q2 => EQ q1 q2)) := by
  obtain ⟨P, n, ok, hn, k2, sh, tp, rf, ve, vlt, h1, hl⟩ := look h.1.1
  have iM := h.1.1.1.1.1
  have hn169 : (169 : Int) ≤ ((mN M : Nat) : Int) := by have := iM.2.2.2.2.1; omega
  refine p_mono (p_and (q_apart8 h hn) (p_wp (s_X8_apart r1 iM))) (fun q1 y => ?_)
  obtain ⟨c, i1, kp, _⟩ := y
  have g9 : F9 M q1.2 := kp.f9 (by omega) (fun b j z => by unfold W_X8_apart at z; omega)
  obtain ⟨rf1, e1, e2, e3⟩ := rf.f9 (M' := q1.2) g9
  refine p_mono (v_apart (l := l) ok hn rf1 (fun f => rd_Mworld i1 (a := 137) (i := f) rfl) (fun f => rd_Mheld i1 (a := 150) (i := f) rfl)) (fun q2 z => ?_)
  exact c.uniq (z.go g9)
theorem j4_apartE (r1 : (-2147483648) ≤ l ∧ l ≤ 2147483647) (h : J4 M) : wp (mX8_apart 1 l M) (fun q1 => wp (mX9_apart 126 l q1.2) (fun q2 => J4 q2.2 ∧ EQ q1 q2)) := w_and3 (M := M) (j4_apart r1 h) (eq_apart r1 h)
end
end
section
/-! ===== so: alike ===== -/
/-- whether a text is so in the world whose facts are g's -/
def TW (S : SH) (g : Int → Int) (ps : List Row) : Bool := hd (sm S (S.fa (fun p => decide (g p = 1))) ps) (envOf 0)
section
variable {S : SH} {M : Mem} {n : Nat} {g : Int → Int} {ps : List Row} {t : Int}
/-- the class lays its world out -/
theorem q_takeW (ok : S.ok) (hn : S.nf = (n : Int)) (n36 : n ≤ 36) (h169 : 169 < t) (k2 : K2 M) (sh : SHC S 4 M) (tt : TT ps t M) : pw (mX0_takeWorld 20 4 t ((wn g n : Nat) : Int) M) (fun q => JC S ps t 4 (fun _ p => decide (g p = 1)) q.2 ∧ FQ M q.2) := by
  obtain ⟨Φ, hΦ⟩ : ∃ Φ : Nat → Int → Bool, Φ = fun _ p => decide (g p = 1) := ⟨_, rfl⟩
  obtain ⟨Q, hQ⟩ : ∃ Q : Int × Mem → Prop, Q = fun q => JC S ps t 4 Φ q.2 ∧ FQ M q.2 := ⟨_, rfl⟩
  rw [← hΦ, ← hQ]
  have loop : ∀ (fu p : Nat) (m : Mem), p ≤ n → (mG m 20 0 = 4 ∧ mG m 20 1 = t ∧ mG m 20 5 = 0) → (∀ c j : Int, ¬ (c = 20 ∧ (j = 0 ∨ j = 1 ∨ j = 5)) → ¬ c = 21 → mG m c j = mG M c j) → (∀ x : Nat, x < p → InLL (mG m 21 (x : Int)) ∧ ∀ b : Nat, b < 64 → lb (mG m 21 (x : Int)) b = Φ b (x : Int)) → pw (mX0_takeWorld_18 fu 20 ((wn g n : Nat) : Int) (p : Int) m) Q := by
    intro fu
    induction fu with
    | zero => intro p m _ _ _ _; exact p_none
    | succ fu ih =>
      intro p m hp hb fr hf
      show pw (bX0_takeWorld_18 (mX0_takeWorld_18 fu) 20 _ (p : Int) m) Q
      have fr' : ∀ c j : Int, ¬ c = 20 → ¬ c = 21 → mG m c j = mG M c j := fun c j x y => fr c j (fun w => x w.1) y
      have shm : SHC S 4 m := sh.kp (fun c j c0 c1 => fr' c j (by omega) (by omega))
      have c20 : ∀ j, ¬ (j = 0 ∨ j = 1 ∨ j = 5) → mG m 20 j = mG M 20 j := fun j hj => fr 20 j (fun w => hj w.2) (by decide)
      have e2 : mG m 20 2 = 21 := (c20 2 (by decide)).trans k2.c20_2
      have fin : n ≤ p → Q (0, m) := fun c => by
        rw [hQ]
        have jf : JF S ps t 4 Φ m := ⟨⟨hb.1, hb.2.1, e2, (c20 3 (by decide)).trans k2.c20_3, (c20 4 (by decide)).trans k2.c20_4⟩, shm, tt.of (fun b j b0 b1 => fr' b j (by omega) (by omega)), fun x x0 x1 => by
          obtain ⟨y, rfl⟩ := Int.eq_ofNat_of_zero_le x0
          exact hf y (by omega)⟩
        have jp : JP S Φ m := fun r r0 r1 _ hz => by
          exfalso
          obtain ⟨y, rfl⟩ := Int.eq_ofNat_of_zero_le r0
          have := ok.2.1
          rw [hb.2.2] at hz
          exact hz (z_path y (by omega))
        have h5 : 0 ≤ mG m 20 5 ∧ mG m 20 5 < 16 := by rw [hb.2.2]; exact ⟨by decide, by decide⟩
        exact ⟨⟨jf, jp, h5⟩, fun c j x y => fr c j x (fun w => y (by omega))⟩
      unfold bX0_takeWorld_18
      refine p_gFc (ji := 0) rfl hb.1 (p_gFc (ji := 7) rfl (shm.1.2.2.2.2.2.2.2.trans hn) (p_if (fun c => p_ret (fin (by omega))) (fun c => p_it0 (by omega) ?_)))
      have p1 : p < n := by omega
      refine p_gFc (ji := 2) rfl e2 (p_gFc (ji := 0) rfl hb.1 (p_gK (p_call (q_bit (p := (p : Int)) shm ok ⟨by omega, by omega⟩) (fun bt m1 y => ?_))))
      obtain ⟨y1, y2⟩ := y
      replace y1 : m1 = m := y1
      replace y2 : bt = S.nf - 1 - (p : Int) := y2
      subst y1
      rw [hn, show (n : Int) - 1 - (p : Int) = ((n - 1 - p : Nat) : Int) by omega] at y2
      subst y2
      have e : lb ((wn g n : Nat) : Int) (n - 1 - p) = decide (g (p : Int) = 1) := by
        rw [lb_nat _ (by omega)]
        exact wn_pl p1
      have l := l_bitc (x := ((wn g n : Nat) : Int)) (n := n - 1 - p) (by omega)
      have go : ∀ v : Int, InLL v → (∀ b : Nat, b < 64 → lb v b = Φ b (p : Int)) → pw (mX0_takeWorld_68 (mX0_takeWorld_18 fu) 20 ((wn g n : Nat) : Int) (p : Int) 21 (p : Int) v m1) Q := fun v v1 v2 => by
        unfold mX0_takeWorld_68
        refine p_aS (fun m3 h3 => ?_)
        rw [wI_s (p := p) (by omega)]
        refine ih (p + 1) m3 (by omega) ⟨(st_ne h3 (fun w => absurd w.1 (by decide))).trans hb.1, (st_ne h3 (fun w => absurd w.1 (by decide))).trans hb.2.1, (st_ne h3 (fun w => absurd w.1 (by decide))).trans hb.2.2⟩ (fun c j x y => (st_ne h3 (fun w => y w.1)).trans (fr c j x y)) (fun x hx => ?_)
        by_cases e : x = p
        · rw [e, st_eq h3]
          exact ⟨v1, v2⟩
        · rw [st_ne h3 (fun w => e (by have := w.2; omega))]
          exact hf x (by omega)
      refine p_if (fun c2 => go 0 L_0 (fun b hb2 => ?_)) (fun c2 => go (-1) L_m1 (fun b hb2 => ?_))
      · rw [lb_zero, hΦ]
        show false = decide (g (p : Int) = 1)
        rw [← e, l.mp c2]
      · rw [lb_m1 hb2, hΦ]
        show true = decide (g (p : Int) = 1)
        rw [← e]
        cases h : lb ((wn g n : Nat) : Int) (n - 1 - p) with
        | true => rfl
        | false => exact absurd (l.mpr h) c2
  unfold mX0_takeWorld
  refine p_pF (ji := 0) rfl (fun M1 h1 => p_pF (ji := 1) rfl (fun M2 h2 => p_pF (ji := 5) rfl (fun M3 h3 => ?_)))
  refine loop FU 0 M3 (Nat.zero_le _) ⟨?_, ?_, st_eq h3⟩ (fun c j x y => ?_) (fun x hx => absurd hx (by omega))
  · rw [st_ne h3 (fun w => absurd w.2 (by decide)), st_ne h2 (fun w => absurd w.2 (by decide)), st_eq h1]
  · rw [st_ne h3 (fun w => absurd w.2 (by decide)), st_eq h2]
  · rw [st_ne h3 (fun w => x ⟨w.1, Or.inr (Or.inr w.2)⟩), st_ne h2 (fun w => x ⟨w.1, Or.inr (Or.inl w.2)⟩), st_ne h1 (fun w => x ⟨w.1, Or.inl w.2⟩)]
theorem q_isSoIn (ok : S.ok) (hn : S.nf = (n : Int)) (n36 : n ≤ 36) (h169 : 169 < t) (k2 : K2 M) (sh : SHC S 4 M) (tt : TT ps t M) (hty : ty S.nr S.k1 S.k2 [(0, 255)] ps) : pw (mX0_isSoIn 20 4 t ((wn g n : Nat) : Int) M) (fun q => q.1 = b2i (TW S g ps)) := by
  unfold mX0_isSoIn
  refine p_gK (p_call (q_takeW (g := g) ok hn n36 h169 k2 sh tt) (fun _ m y => ?_))
  obtain ⟨jc, fq⟩ := y
  replace jc : JC S ps t 4 (fun _ p => decide (g p = 1)) m := jc
  refine p_gK (p_call (q_judged ok ⟨Or.inl rfl, h169⟩ 45 0 0 0 255 [] (envOf 0) m jc hty ScS.start (Int.le_refl _) (Int.le_refl _) e_255) (fun r m' y => ?_))
  obtain ⟨⟨y1, y2⟩, _, _⟩ := y
  replace y1 : InLL r := y1
  have y3 : ∀ b : Nat, b < 64 → lb r b = TW S g ps := fun b hb => y2 b hb
  have lc : (lcmp r 0 = 0) ↔ r = 0 := lcmp_0 r 0
  refine p_if (fun c => p_ret ?_) (fun c => p_ret ?_)
  · have z := (l_zero y1).mp (lc.mp c) 0 (by decide)
    rw [← y3 0 (by decide), z]; rfl
  · cases e : TW S g ps with
    | true => rfl
    | false => exact absurd (lc.mpr ((l_zero y1).mpr (fun b hb => (y3 b hb).trans e))) c
/-! the reference's -/
theorem v_bringWorld (ok : S.ok) (k9 : K9 M) (rst : RST S M) (hb : ∀ f : Int, 0 ≤ mG M 137 f ∧ mG M 137 f ≤ 1) : pw (mX9_bringWorld 126 M) (fun q => (K9 q.2 ∧ RSH S q.2) ∧ LW S (fun p => decide (mG M 137 p = 1)) q.2 ∧ ∀ c j : Int, ¬ c = 152 → ¬ c = 153 → ¬ c = 154 → mG q.2 c j = mG M c j) := by
  have nf := ok.nf
  unfold mX9_bringWorld
  refine p_gK (p_call (v_bringSizes ok k9 rst) (fun _ m y => ?_))
  obtain ⟨rs, fn⟩ := y
  replace rs : RSH S m := rs
  replace fn : FN M m := fn
  have km := k9.fn fn
  have loop : ∀ (fu f : Nat) (m2 : Mem), f ≤ 36 → (∀ c j : Int, ¬ c = 154 → mG m2 c j = mG m c j) → (∀ x : Nat, x < f → mG m2 154 (x : Int) = mG M 137 (x : Int)) → pw (mX9_bringWorld_6 fu 126 (f : Int) m2) (fun q => (K9 q.2 ∧ RSH S q.2) ∧ LW S (fun p => decide (mG M 137 p = 1)) q.2 ∧ ∀ c j : Int, ¬ c = 152 → ¬ c = 153 → ¬ c = 154 → mG q.2 c j = mG M c j) := by
    intro fu
    induction fu with
    | zero => intro f m2 _ _ _; exact p_none
    | succ fu ih =>
      intro f m2 hf g hx
      show pw (bX9_bringWorld_6 (mX9_bringWorld_6 fu) 126 (f : Int) m2) _
      unfold bX9_bringWorld_6
      have k2 : K9 m2 := km.kp (fun j _ => g 126 j (by decide))
      refine p_if (fun c => p_ret ⟨⟨k2, rs.kp (fun c j hc => g c j (by omega))⟩, fun f f0 f1 => ?_, fun c j x y z => (g c j z).trans (fn c j x y)⟩) (fun c => ?_)
      · obtain ⟨x, rfl⟩ := Int.eq_ofNat_of_zero_le f0
        have hh := hb (x : Int)
        show mG m2 154 (x : Int) = b2i (decide (mG M 137 (x : Int) = 1))
        rw [hx x (by omega)]
        by_cases d : mG M 137 (x : Int) = 1
        · rw [d]; rfl
        · rw [decide_eq_false d]
          show _ = (0 : Int)
          omega
      · refine p_gFc (ji := 28) rfl k2.c28 (p_gFc (ji := 11) rfl k2.c11 (p_aGc ((g 137 (f : Int) (by decide)).trans (fn 137 (f : Int) (by decide) (by decide))) (p_aSZ (fun m3 h3 => ?_))))
        rw [wI_s (p := f) (by omega)]
        refine ih (f + 1) m3 (by omega) (fun c j x => (st_ne h3 (fun w => x w.1)).trans (g c j x)) (fun x hx2 => ?_)
        by_cases e : x = f
        · rw [e]; exact st_eq h3
        · rw [st_ne h3 (fun w => e (by have := w.2; omega))]
          exact hx x (by omega)
  exact loop FU 0 m (Nat.zero_le _) (fun _ _ _ => rfl) (fun x hx => absurd hx (by omega))
theorem v_so53 (ok : S.ok) (k9 : K9 M) (rst : RST S M) (hb : ∀ f : Int, 0 ≤ mG M 137 f ∧ mG M 137 f ≤ 1) (rt : RT ps t M) (ht : 0 ≤ t ∧ t < 36) (hl : ps.length ≤ 40) (hty : ty S.nr S.k1 S.k2 [(0, 255)] ps) : pw (mX9_so_53 126 t M) (fun q => q.1 = b2i (TW S (mG M 137) ps)) := by
  unfold mX9_so_53
  refine p_gK (p_call (v_bringWorld ok k9 rst hb) (fun _ m y => ?_))
  obtain ⟨⟨km, rs⟩, lw, g⟩ := y
  replace km : K9 m := km
  replace rs : RSH S m := rs
  replace lw : LW S (fun p => decide (mG M 137 p = 1)) m := lw
  replace g : ∀ c j : Int, ¬ c = 152 → ¬ c = 153 → ¬ c = 154 → mG m c j = mG M c j := g
  have rtm : RT ps t m := ⟨(g 141 t (by decide) (by decide) (by decide)).trans rt.1, fun i r hr => (rt.2 i r hr).kp (fun c c0 c1 => g c _ (by omega) (by omega) (by omega))⟩
  refine p_gK (p_call (w_means ok (RM.mk ok km rs lw rtm) ht hl hty) (fun v m2 y => ?_))
  have y2 : v = b2i (TW S (mG M 137) ps) := y.2
  refine p_if (fun c => p_ret ?_) (fun c => p_ret ?_)
  · replace c : v = 0 := c
    show (0 : Int) = _
    omega
  · replace c : ¬ v = 0 := c
    have bb := b2i_b (TW S (mG M 137) ps)
    show (1 : Int) = _
    omega
end
section
variable {M : Mem} {l : Int}
theorem q_so23 {n : Nat} {ps : List Row} {t : Int} (h : J4 M) (hn : (shp M).nf = (n : Int)) (h169 : 169 < t) (tt : TT ps t M) (hty : ty (shp M).nr (shp M).k1 (shp M).k2 [(0, 255)] ps) : pw (mX8_so_23 1 t M) (fun q => q.1 = b2i (TW (shp M) (mG M 137) ps)) := by
  obtain ⟨P, n', ok, hn', k2, sh, tp, rf, ve, vlt, h1, hl⟩ := look h.1.1
  obtain ⟨en, n36, w0⟩ := h.n hn sh
  unfold mX8_so_23
  refine p_it0 (show ¬ t = 0 by omega) (p_gFc (ji := 0) rfl h1.1 (p_gFc (ji := 1) rfl k2.c2_1 (p_gFc (ji := 1) rfl h1.2 (p_gFc (ji := 0) rfl k2.c3_0 (p_gFc (ji := 1) rfl h1.2 (p_gFc (ji := 1) rfl w0.1.1 (p_gK (p_call (q_isSoIn ok hn n36 h169 k2 sh tt hty) (fun v m y => ?_)))))))))
  have y2 : v = b2i (TW (shp M) (mG M 137) ps) := y
  refine p_if (fun c => p_ret ?_) (fun c => p_ret ?_)
  · replace c : v = 0 := c
    show (0 : Int) = _
    omega
  · replace c : ¬ v = 0 := c
    have bb := b2i_b (TW (shp M) (mG M 137) ps)
    show (1 : Int) = _
    omega
theorem eq_so (r1 : (-2147483648) ≤ l ∧ l ≤ 2147483647) (h : J4 M) : pw (mX8_so 1 l M) (fun q1 => pw (mX9_so 126 l q1.2) (fun q2 => EQ q1 q2)) := by
  obtain ⟨P, n, ok, hn, k2, sh, tp, rf, ve, vlt, h1, hl⟩ := look h.1.1
  have iM := h.1.1.1.1.1
  have hn169 : (169 : Int) ≤ ((mN M : Nat) : Int) := by have := iM.2.2.2.2.1; omega
  have s138 := rd_Mstories iM (a := 138) (i := 0) rfl
  obtain ⟨_, sb, _, _, _⟩ := h.1.1.1.2 0 (by decide) (by decide) (Or.inl rfl)
  have sb1 := sb.1
  rw [sOf_0] at sb1
  -- the reference, from a memory whose own cells are M's
  have ref : ∀ (m : Mem) (ps : List Row) (t : Int), K9 m → RST (shp M) m → (∀ f : Int, mG m 137 f = mG M 137 f) → RT ps t m → 0 ≤ t ∧ t < 36 → ps.length ≤ 40 → ty (shp M).nr (shp M).k1 (shp M).k2 [(0, 255)] ps → pw (mX9_so_53 126 t m) (fun q => q.1 = b2i (TW (shp M) (mG M 137) ps)) := fun m ps t km rst g rt ht hl hty => by
    have e : mG m 137 = mG M 137 := funext g
    rw [← e]
    exact v_so53 ok km rst (fun f => by rw [g]; exact rd_Mworld iM (a := 137) (i := f) rfl) rt ht hl hty
  by_cases c : l = -1
  · rcases guess_P h.1.1 with ⟨a, b⟩ | ⟨g0, ps, tt, rt, hty⟩
    · have c8 : pw (mX8_so 1 l M) (fun q => q.1 = -1 ∧ q.2 = M) := by
        unfold mX8_so mX8_so_23
        exact p_it1 c (p_gFc (ji := 1) rfl h1.2 (p_gFc (ji := 12) rfl a (p_it1 rfl (p_ret ⟨rfl, rfl⟩))))
      refine p_mono c8 (fun q1 y => ?_)
      rw [y.2]
      have c9 : pw (mX9_so 126 l M) (fun q => q.1 = -1) := by
        unfold mX9_so mX9_so_16
        refine p_pF (ji := 0) rfl (fun m1 h1 => ?_)
        have k1 : K9 m1 := rf.1.kp (fun j hj => st_ne h1 (fun w => by omega))
        exact p_it1 c (p_it1 c (p_gFc (ji := 15) rfl k1.c15 (p_aGc ((st_ne h1 (fun w => absurd w.1 (by decide))).trans b) (p_it1 rfl (p_ret rfl)))))
      exact p_mono c9 (fun q2 z => y.1.trans z.symm)
    · have c8 : pw (mX8_so 1 l M) (fun q => q.1 = b2i (TW (shp M) (mG M 137) ps)) := by
        unfold mX8_so
        exact p_it1 c (p_gFc (ji := 1) rfl h1.2 (p_gFc (ji := 12) rfl rfl (q_so23 h hn g0.2 tt hty)))
      refine p_mono (p_and c8 (p_wp (s_X8_so r1 iM))) (fun q1 y => ?_)
      obtain ⟨y1, i1, kp, _⟩ := y
      have g9 : F9 M q1.2 := kp.f9 (by omega) (fun b j z => by unfold W_X8_so at z; omega)
      obtain ⟨rf1, _⟩ := rf.f9 (M' := q1.2) g9
      have c9 : pw (mX9_so 126 l q1.2) (fun q => q.1 = b2i (TW (shp M) (mG M 137) ps)) := by
        unfold mX9_so mX9_so_16
        refine p_pF (ji := 0) rfl (fun m1 h1 => ?_)
        have g1 : ∀ c j : Int, ¬ c = 126 → mG m1 c j = mG q1.2 c j := fun c j x => st_ne h1 (fun w => x w.1)
        have k1 : K9 m1 := rf1.1.kp (fun j hj => st_ne h1 (fun w => by omega))
        have rt1 : RT ps 8 m1 := ⟨(g1 141 8 (by decide)).trans ((g9 141 8 (by decide) (by decide)).trans rt.1), fun i r hr => (rt.2 i r hr).kp (fun c c0 c1 => (g1 c _ (by omega)).trans (g9 c _ (by omega) (by omega)))⟩
        have gz : ¬ mG m1 141 8 = 0 := by
          have := ty_ne ps hty
          rw [rt1.1]
          omega
        exact p_it1 c (p_it1 c (p_gFc (ji := 15) rfl k1.c15 (p_aGc rfl (p_it0 gz (ref m1 ps 8 k1 (rf1.2.1.kp (fun c j hc => g1 c j (by omega))) (fun f => (g1 137 f (by decide)).trans (g9 137 f (by decide) (by decide))) rt1 (by decide) tt.1.1 hty)))))
      exact p_mono c9 (fun q2 z => y1.trans z.symm)
  · by_cases d : 0 ≤ l ∧ l < mG M 138 0
    · obtain ⟨s, hs⟩ := Int.eq_ofNat_of_zero_le d.1
      subst hs
      obtain ⟨t169, tt, hty⟩ := tp s (by rw [sb1]; exact d.2)
      obtain ⟨rt, rl, _⟩ := rf.2.2.2.2 s d.2
      have c8 : pw (mX8_so 1 (s : Int) M) (fun q => q.1 = b2i (TW (shp M) (mG M 137) (P s))) := by
        unfold mX8_so
        refine p_it0 c (p_gFc (ji := 1) rfl h1.2 (p_gK (p_call (P := fun q => q.2 = M ∧ q.1 = mG M 14 (s : Int)) ?_ (fun v m y => ?_))))
        · unfold mX6_storyText mX6_hasStory
          exact p_gK (p_call (P := fun q => q.2 = M ∧ q.1 = 1) (p_it0 (by omega) (p_gFc (ji := 11) rfl sb1 (p_it0 (by omega) (p_ret ⟨rfl, rfl⟩)))) (fun v m y => by
            obtain ⟨y1, y2⟩ := y
            replace y1 : m = M := y1
            replace y2 : v = 1 := y2
            subst y1
            exact p_it0 (show ¬ v = 0 by omega) (p_gFc (ji := 8) rfl k2.c3_8 (p_aGc rfl (p_ret ⟨rfl, rfl⟩)))))
        · obtain ⟨y1, y2⟩ := y
          replace y1 : m = M := y1
          replace y2 : v = mG M 14 (s : Int) := y2
          subst y1
          rw [← y2] at t169 tt
          exact q_so23 h hn t169 tt hty
      refine p_mono (p_and c8 (p_wp (s_X8_so r1 iM))) (fun q1 y => ?_)
      obtain ⟨y1, i1, kp, _⟩ := y
      have g9 : F9 M q1.2 := kp.f9 (by omega) (fun b j z => by unfold W_X8_so at z; omega)
      obtain ⟨rf1, _⟩ := rf.f9 (M' := q1.2) g9
      have c9 : pw (mX9_so 126 (s : Int) q1.2) (fun q => q.1 = b2i (TW (shp M) (mG M 137) (P s))) := by
        unfold mX9_so mX9_so_16
        refine p_pF (ji := 0) rfl (fun m1 h1 => ?_)
        have g1 : ∀ c j : Int, ¬ c = 126 → mG m1 c j = mG q1.2 c j := fun c j x => st_ne h1 (fun w => x w.1)
        have k1 : K9 m1 := rf1.1.kp (fun j hj => st_ne h1 (fun w => by omega))
        have rt1 : RT (P s) (s : Int) m1 := ⟨(g1 141 _ (by decide)).trans ((g9 141 _ (by decide) (by decide)).trans rt.1), fun i r hr => (rt.2 i r hr).kp (fun c c0 c1 => (g1 c _ (by omega)).trans (g9 c _ (by omega) (by omega)))⟩
        have e138 : mG m1 138 0 = mG M 138 0 := (g1 138 0 (by decide)).trans (g9 138 0 (by decide) (by decide))
        refine p_it0 c (p_it0 c (p_gFc (ji := 12) rfl k1.c12 (p_aGc e138 ?_)))
        rw [wI_id (x := mG M 138 0 - 1) (by omega) (by omega)]
        refine p_call pr_in (fun b m2 y => ?_)
        obtain ⟨z1, z2⟩ := y
        replace z1 : m2 = m1 := z1
        subst z1
        rcases z2 with ⟨b1, b2, b3⟩ | ⟨b1, b2⟩
        · replace b1 : b = 1 := b1
          exact p_it0 (show ¬ b = 0 by omega) (ref m2 (P s) (s : Int) k1 (rf1.2.1.kp (fun c j hc => g1 c j (by omega))) (fun f => (g1 137 f (by decide)).trans (g9 137 f (by decide) (by decide))) rt1 ⟨by omega, by omega⟩ rl hty)
        · exact absurd ⟨by omega, by omega⟩ b2
      exact p_mono c9 (fun q2 z => y1.trans z.symm)
    · have c8 : pw (mX8_so 1 l M) (fun q => q.1 = -1 ∧ q.2 = M) := by
        unfold mX8_so mX8_so_23
        refine p_it0 c (p_gFc (ji := 1) rfl h1.2 (p_gK (p_call (P := fun q => q.2 = M ∧ q.1 = 0) ?_ (fun v m y => ?_))))
        · unfold mX6_storyText mX6_hasStory
          refine p_gK (p_call (P := fun q => q.2 = M ∧ q.1 = 0) (p_if (fun _ => p_ret ⟨rfl, rfl⟩) (fun e => p_gFc (ji := 11) rfl sb1 (p_if (fun _ => p_ret ⟨rfl, rfl⟩) (fun e2 => ?_)))) (fun v m y => ?_))
          · exact absurd ⟨by omega, by omega⟩ d
          · obtain ⟨y1, y2⟩ := y
            replace y1 : m = M := y1
            replace y2 : v = 0 := y2
            subst y1
            exact p_it1 y2 (p_ret ⟨rfl, rfl⟩)
        · obtain ⟨y1, y2⟩ := y
          replace y1 : m = M := y1
          replace y2 : v = 0 := y2
          subst y1
          exact p_it1 y2 (p_ret ⟨rfl, rfl⟩)
      refine p_mono c8 (fun q1 y => ?_)
      rw [y.2]
      have c9 : pw (mX9_so 126 l M) (fun q => q.1 = -1) := by
        unfold mX9_so mX9_so_16
        refine p_pF (ji := 0) rfl (fun m1 h1 => ?_)
        have k1 : K9 m1 := rf.1.kp (fun j hj => st_ne h1 (fun w => by omega))
        refine p_it0 c (p_it0 c (p_gFc (ji := 12) rfl k1.c12 (p_aGc (st_ne h1 (fun w => absurd w.1 (by decide))) ?_)))
        rw [wI_id (x := mG M 138 0 - 1) (by omega) (by omega)]
        refine p_call pr_in (fun b m2 y => ?_)
        obtain ⟨z1, z2⟩ := y
        rcases z2 with ⟨b1, b2, b3⟩ | ⟨b1, b2⟩
        · exact absurd ⟨by omega, by omega⟩ d
        · exact p_it1 b1 (p_ret rfl)
      exact p_mono c9 (fun q2 z => y.1.trans z.symm)
theorem j4_soE (r1 : (-2147483648) ≤ l ∧ l ≤ 2147483647) (h : J4 M) : wp (mX8_so 1 l M) (fun q1 => wp (mX9_so 126 l q1.2) (fun q2 => J4 q2.2 ∧ EQ q1 q2)) := w_and3 (M := M) (j4_so r1 h) (eq_so r1 h)
end
end
section
/-! ===== breaks: the alls that a text begins with, rows of numbers ===== -/
def lead : List Row → Nat
  | [] => 0
  | r :: rs => if r.c0 = 0 then lead rs + 1 else 0
theorem lead_t {r : Row} {rs : List Row} (h : r.c0 = 0) : lead (r :: rs) = lead rs + 1 := if_pos h
theorem lead_f {r : Row} {rs : List Row} (h : ¬ r.c0 = 0) : lead (r :: rs) = 0 := if_neg h
theorem lead_at : ∀ (ps : List Row) (p : Nat), p < lead ps → ∃ r, ps.drop p = r :: ps.drop (p + 1) ∧ ps[p]? = some r ∧ r.c0 = 0 := by
  intro ps
  induction ps with
  | nil => intro p h; exact absurd h (Nat.not_lt_zero _)
  | cons r rs ih =>
    intro p h
    by_cases c : r.c0 = 0
    · cases p with
      | zero => exact ⟨r, rfl, rfl, c⟩
      | succ p =>
        rw [lead_t c] at h
        obtain ⟨r', h1, h2, h3⟩ := ih p (by omega)
        exact ⟨r', h1, h2, h3⟩
    · rw [lead_f c] at h
      omega
theorem lead_end : ∀ (ps : List Row) (r : Row) (rs : List Row), ps.drop (lead ps) = r :: rs → ¬ r.c0 = 0 := by
  intro ps
  induction ps with
  | nil => intro r rs h; cases h
  | cons r0 rs0 ih =>
    intro r rs h
    by_cases c : r0.c0 = 0
    · rw [lead_t c] at h
      exact ih r rs h
    · rw [lead_f c] at h
      have h' : r0 :: rs0 = r :: rs := h
      rw [← (List.cons.inj h').1]
      exact c
def rwf (ps : List Row) (p : Nat) : Row := (ps[p]?).getD (0, 0, 0, 0, 0, 0, 0, 0)
def vrf (ps : List Row) (p : Nat) : Int := (rwf ps p).r1
def zf (S : SH) (ps : List Row) (p : Nat) : Nat := (S.sz (rwf ps p).c3).toNat
theorem rwf_e {ps : List Row} {p : Nat} {r : Row} (h : ps[p]? = some r) : rwf ps p = r := by
  unfold rwf
  rw [h]; rfl
/-- the variables' values behind p alls -/
def FWv (ps : List Row) (d : Nat → Int) : Nat → Int → Int
  | 0 => envOf 0
  | p + 1 => evu (FWv ps d p) (vrf ps p) (d p)
theorem env0 (x : Int) : envOf 0 x = 0 := by
  unfold envOf dg
  by_cases h : 0 ≤ x ∧ x ≤ 3
  · rw [if_pos h, Nat.zero_div]; rfl
  · rw [if_neg h]
theorem FW_s (ps : List Row) (d : Nat → Int) (p : Nat) (x : Int) : FWv ps d (p + 1) x = if x = vrf ps p then d p else FWv ps d p x := rfl
theorem FW_no {ps : List Row} {d : Nat → Int} {x : Int} : ∀ p : Nat, (∀ q, q < p → ¬ vrf ps q = x) → FWv ps d p x = 0 := by
  intro p
  induction p with
  | zero => intro _; exact env0 x
  | succ p ih =>
    intro h
    rw [FW_s, if_neg (fun e => h p (by omega) e.symm)]
    exact ih (fun q hq => h q (by omega))
theorem FW_last {ps : List Row} {d : Nat → Int} {p : Nat} : ∀ A : Nat, p < A → (∀ q, p < q → q < A → ¬ vrf ps q = vrf ps p) → FWv ps d A (vrf ps p) = d p := by
  intro A
  induction A with
  | zero => intro h; omega
  | succ A ih =>
    intro h k
    rw [FW_s]
    by_cases e : p = A
    · rw [e, if_pos rfl]
    · rw [if_neg (fun w => k A (by omega) (by omega) w.symm)]
      exact ih (by omega) (fun q q0 q1 => k q q0 (by omega))
/-- what binds and stands where, behind p alls -/
theorem lead_ty {nr : Int} {k1 k2 : Int → Int} {ps : List Row} (hty : ty nr k1 k2 [(0, 255)] ps) : ∀ p : Nat, p ≤ lead ps → ∃ sc bo : Int, ty nr k1 k2 [(sc, bo)] (ps.drop p) ∧ ScS sc bo ∧ ishr sc 16 = (p : Int) ∧ p ≤ 4 ∧ ∀ (ch : Int → Int) (d : Nat → Int), (∀ q : Nat, q < p → ch (q : Int) = d q) → ∀ v : Int, 0 ≤ v → v ≤ 3 → ¬ bnd bo v = -1 → ch (slt sc v) = FWv ps d p v := by
  intro p
  induction p with
  | zero =>
    intro _
    have i0 : ishr 0 16 = ((0 : Nat) : Int) := by decide +kernel
    refine ⟨0, 255, hty, ScS.start, i0, by decide, fun ch d _ v v0 v1 hb => ?_⟩
    have := ScS.start.2 v v0 v1 hb
    rw [i0] at this
    omega
  | succ p ih =>
    intro hp
    obtain ⟨sc, bo, h1, h2, h3, h4, h5⟩ := ih (by omega)
    obtain ⟨r, l1, l2, l3⟩ := lead_at ps p (by omega)
    rw [l1] at h1
    obtain ⟨ro, h1⟩ := h1
    have r0 : (0 ≤ r.c0 ∧ r.c0 ≤ 3 ∧ r.r0 = r.c0 ∧ r.r3 = r.c1 ∧ (0 ≤ r.c1 ∧ r.c1 < 10000) ∧ r.c2 = ishr sc 16 ∧ r.r2 = r.c3 ∧ (0 ≤ r.c3 ∧ r.c3 ≤ 2) ∧ (0 ≤ r.r1 ∧ r.r1 ≤ 3) ∧ ishr sc 16 < 4) := by
      rcases ro with z | z | z | z | z | z | z
      · exact z
      · have := z.1; omega
      · have := z.1; omega
      · have := z.1; omega
      · have := z.1; omega
      · have := z.1; omega
      · have := z.1; omega
    obtain ⟨_, _, _, _, _, _, _, q3, q1, q4⟩ := r0
    unfold kids at h1
    rw [if_pos (show r.c0 ≤ 3 by omega)] at h1
    obtain ⟨b1, b2, b3, b4⟩ := bind_new h2.1 q4 q1 q3
    have st := h2.step q4 q1 q3
    refine ⟨bindC sc (cv r.r1) r.c3 (ishr sc 16), bindR bo r.r1 r.c3, h1, st, by rw [b4, h3]; omega, by omega, fun ch d hq v v0 v1 hb => ?_⟩
    rw [FW_s]
    have ev : vrf ps p = r.r1 := by unfold vrf; rw [rwf_e l2]
    by_cases e : v = r.r1
    · rw [if_pos (by rw [ev]; exact e), e, b1, h3]
      exact hq p (by omega)
    · rw [if_neg (by rw [ev]; exact e), (b3 v v0 v1 e).1]
      refine h5 ch d (fun q q0 => hq q (by omega)) v v0 v1 ?_
      rw [← (b3 v v0 v1 e).2]
      exact hb
/-- a row that is one of the leading alls -/
theorem lead_row {S : SH} {ps : List Row} (ok : S.ok) (hty : ty S.nr S.k1 S.k2 [(0, 255)] ps) {p : Nat} (hp : p < lead ps) : ∃ r, ps[p]? = some r ∧ ps.drop p = r :: ps.drop (p + 1) ∧ r.c0 = 0 ∧ r.r0 = 0 ∧ (0 ≤ r.c3 ∧ r.c3 ≤ 2) ∧ r.r2 = r.c3 ∧ r.r1 = vrf ps p ∧ (0 ≤ r.r1 ∧ r.r1 ≤ 3) ∧ S.sz r.c3 = (zf S ps p : Int) ∧ (1 ≤ zf S ps p ∧ zf S ps p ≤ 3) := by
  obtain ⟨sc, bo, h1, _⟩ := lead_ty hty p (by omega)
  obtain ⟨r, l1, l2, l3⟩ := lead_at ps p hp
  rw [l1] at h1
  have ro := h1.1
  have r0 : (r.r0 = r.c0 ∧ r.r2 = r.c3 ∧ (0 ≤ r.c3 ∧ r.c3 ≤ 2) ∧ (0 ≤ r.r1 ∧ r.r1 ≤ 3)) := by
    rcases ro with z | z | z | z | z | z | z
    · exact ⟨z.2.2.1, z.2.2.2.2.2.2.1, z.2.2.2.2.2.2.2.1, z.2.2.2.2.2.2.2.2.1⟩
    · have := z.1; omega
    · have := z.1; omega
    · have := z.1; omega
    · have := z.1; omega
    · have := z.1; omega
    · have := z.1; omega
  have sz := ok.1 r.c3 r0.2.2.1.1 (by have := r0.2.2.1.2; omega)
  have ez : zf S ps p = (S.sz r.c3).toNat := by unfold zf; rw [rwf_e l2]
  exact ⟨r, l2, l1, l3, by omega, r0.2.2.1, r0.2.1, by unfold vrf; rw [rwf_e l2], r0.2.2.2, by omega, by omega⟩
/-- the row behind them -/
theorem lead_behind {S : SH} {ps : List Row} (hty : ty S.nr S.k1 S.k2 [(0, 255)] ps) : lead ps < ps.length ∧ ∃ r, ps[lead ps]? = some r ∧ ¬ r.c0 = 0 ∧ ¬ r.r0 = 0 := by
  obtain ⟨sc, bo, h1, _⟩ := lead_ty hty (lead ps) (Nat.le_refl _)
  have ne := ty_ne _ h1
  rw [List.length_drop] at ne
  have lt : lead ps < ps.length := by omega
  cases hd : ps.drop (lead ps) with
  | nil =>
    have := congrArg List.length hd
    rw [List.length_drop] at this
    exact absurd this ne
  | cons r rs =>
    have c := lead_end ps r rs hd
    obtain ⟨g1, _, _⟩ := drop_get hd
    rw [hd] at h1
    refine ⟨lt, r, g1, c, ?_⟩
    rcases h1.1 with z | z | z | z | z | z | z
    · rw [z.2.2.1]; exact c
    · have := z.1; have := z.2.2; omega
    · have := z.2.1; omega
    · have := z.2.1; omega
    · have := z.2.1; omega
    · have := z.2.1; omega
    · have := z.2.1; omega
/-- where a text is so, what comes behind its alls is so -/
theorem lead_all {S : SH} {A : Int → Int → Int → Bool} {ps : List Row} (ok : S.ok) (hty : ty S.nr S.k1 S.k2 [(0, 255)] ps) (h : hd (sm S A ps) (envOf 0) = true) {d : Nat → Int} (hd' : ∀ p, p < lead ps → 0 ≤ d p ∧ d p < (zf S ps p : Int)) : ∀ p : Nat, p ≤ lead ps → hd (sm S A (ps.drop p)) (FWv ps d p) = true := by
  intro p
  induction p with
  | zero => intro _; exact h
  | succ p ih =>
    intro hp
    have i := ih (by omega)
    obtain ⟨r, l1, l2, l3, l4, l5, l6, l7, l8, l9, l10⟩ := lead_row ok hty (p := p) (by omega)
    obtain ⟨sc, bo, t1, _⟩ := lead_ty hty (p + 1) hp
    have sn := sm_len (S := S) (A := A) (ps.drop (p + 1)) _ t1
    rw [l2, hd_bind (by omega) (by rw [sn]; exact Nat.le_refl _)] at i
    have i' : (if r.r0 = 0 then decide (cnt (fun k => hd (sm S A (ps.drop (p + 1))) (evu (FWv ps d p) r.r1 k)) (S.sz r.r2).toNat = S.sz r.r2) else _) = true := i
    rw [if_pos l4, l6] at i'
    have i2 := of_decide_eq_true i'
    have full : ∀ (g : Int → Bool) (n : Nat), cnt g n = (n : Int) → ∀ k : Nat, k < n → g (k : Int) = true := fun g n => by
      induction n with
      | zero => intro _ k hk; omega
      | succ n ihn =>
        intro e k hk
        have b := cnt_b g n
        have e' : cnt g n + (if g (n : Int) = true then 1 else 0) = ((n + 1 : Nat) : Int) := e
        by_cases c : g (n : Int) = true
        · rw [if_pos c] at e'
          by_cases e2 : k = n
          · rw [e2]; exact c
          · exact ihn (by omega) k (by omega)
        · rw [if_neg c] at e'
          omega
    have dp := hd' p (by omega)
    obtain ⟨k, hk⟩ := Int.eq_ofNat_of_zero_le dp.1
    have f := full (fun k => hd (sm S A (ps.drop (p + 1))) (evu (FWv ps d p) r.r1 k)) (S.sz r.c3).toNat (i2.trans (by omega)) k (by omega)
    rw [← hk] at f
    rw [show FWv ps d (p + 1) = evu (FWv ps d p) (vrf ps p) (d p) from rfl, ← l7]
    exact f
/-! rows of numbers -/
def PR (z : Nat → Nat) (A : Nat) : Nat → Nat
  | 0 => 1
  | j + 1 => PR z A j * z (A - 1 - j)
/-- the j-th number of row c, from the last one on -/
def dj (z : Nat → Nat) (A j c : Nat) : Nat := (c / PR z A j) % z (A - 1 - j)
def dgp (z : Nat → Nat) (A p c : Nat) : Nat := dj z A (A - 1 - p) c
def RWn (z : Nat → Nat) : Nat → Nat
  | 0 => 1
  | p + 1 => RWn z p * z p
theorem succ_div {N : Nat} (h : 0 < N) (c : Nat) : ((c + 1) % N = 0 ∧ (c + 1) / N = c / N + 1) ∨ (¬ (c + 1) % N = 0 ∧ (c + 1) / N = c / N) := by
  have e := Nat.div_add_mod c N
  have lt := Nat.mod_lt c h
  obtain ⟨t, ht⟩ : ∃ t, t = c / N := ⟨_, rfl⟩
  obtain ⟨r, hr⟩ : ∃ r, r = c % N := ⟨_, rfl⟩
  rw [← ht, ← hr] at e
  rw [← hr] at lt
  rw [← ht]
  have e1 : c + 1 = (r + 1) + N * t := by omega
  rw [e1, Nat.add_mul_mod_self_left, Nat.add_mul_div_left _ _ h]
  by_cases k : r + 1 = N
  · refine Or.inl ⟨by rw [k]; exact Nat.mod_self N, ?_⟩
    rw [k, Nat.div_self h]
    omega
  · refine Or.inr ⟨by rw [Nat.mod_eq_of_lt (by omega)]; omega, ?_⟩
    rw [Nat.div_eq_of_lt (by omega)]
    omega
section
variable {z : Nat → Nat} {A : Nat}
theorem PR_pos (hz : ∀ p, p < A → 1 ≤ z p ∧ z p ≤ 3) : ∀ j, j ≤ A → 0 < PR z A j := by
  intro j
  induction j with
  | zero => intro _; exact Nat.one_pos
  | succ j ih =>
    intro h
    exact Nat.mul_pos (ih (by omega)) (hz _ (by omega)).1
theorem PR_up {x j : Nat} (h : ¬ x % PR z A j = 0) : ∀ i, j ≤ i → ¬ x % PR z A i = 0 := by
  intro i
  induction i with
  | zero =>
    intro hi
    rw [show j = 0 by omega] at h
    exact h
  | succ i ih =>
    intro hi
    by_cases e : j = i + 1
    · rw [← e]; exact h
    · intro w
      have w' : x % (PR z A i * z (A - 1 - i)) = 0 := w
      rw [Nat.mod_mul] at w'
      exact ih (by omega) (by omega)
theorem m_next {t z : Nat} (hz : z = 1 ∨ z = 2 ∨ z = 3) : (t % z + 1 < z → (t + 1) % z = t % z + 1) ∧ (¬ t % z + 1 < z → (t + 1) % z = 0) := by
  rcases hz with e | e | e <;> subst e <;> omega
/-- the last numbers are full -/
theorem dj_next (hz : ∀ p, p < A → 1 ≤ z p ∧ z p ≤ 3) {j c : Nat} (hj : j < A) (h : (c + 1) % PR z A j = 0) : (dj z A j c + 1 < z (A - 1 - j) → dj z A j (c + 1) = dj z A j c + 1 ∧ ∀ i, j < i → i < A → dj z A i (c + 1) = dj z A i c) ∧ (¬ dj z A j c + 1 < z (A - 1 - j) → dj z A j (c + 1) = 0 ∧ (c + 1) % PR z A (j + 1) = 0) := by
  have pos := PR_pos hz j (by omega)
  have zz := hz (A - 1 - j) (by omega)
  have mn := m_next (t := c / PR z A j) (z := z (A - 1 - j)) (by omega)
  have sd : (c + 1) / PR z A j = c / PR z A j + 1 := by
    rcases succ_div pos c with a | a
    · exact a.2
    · exact absurd h a.1
  have ed : dj z A j (c + 1) = (c / PR z A j + 1) % z (A - 1 - j) := by
    unfold dj
    rw [sd]
  have pm : (c + 1) % PR z A (j + 1) = PR z A j * dj z A j (c + 1) := by
    show (c + 1) % (PR z A j * z (A - 1 - j)) = _
    rw [Nat.mod_mul, h, Nat.zero_add]; rfl
  refine ⟨fun k => ?_, fun k => ?_⟩
  · have e1 : dj z A j (c + 1) = dj z A j c + 1 := ed.trans (mn.1 k)
    refine ⟨e1, fun i hi hA => ?_⟩
    have nz : ¬ (c + 1) % PR z A (j + 1) = 0 := by
      rw [pm, e1]
      exact Nat.ne_of_gt (Nat.mul_pos pos (Nat.succ_pos _))
    have ni := PR_up nz i (by omega)
    unfold dj
    rcases succ_div (PR_pos hz i (by omega)) c with a | a
    · exact absurd a.1 ni
    · rw [a.2]
  · have e0 : dj z A j (c + 1) = 0 := ed.trans (mn.2 k)
    exact ⟨e0, by rw [pm, e0]; exact Nat.mul_zero _⟩
theorem RW_p (hz : ∀ p, p < A → 1 ≤ z p ∧ z p ≤ 3) : ∀ p, p ≤ A → 1 ≤ RWn z p ∧ RWn z p ≤ 3 ^ p := by
  intro p
  induction p with
  | zero => intro _; exact ⟨Nat.le_refl 1, Nat.le_refl 1⟩
  | succ p ih =>
    intro h
    have i := ih (by omega)
    have zz := hz p (by omega)
    exact ⟨Nat.mul_pos i.1 zz.1, Nat.mul_le_mul i.2 zz.2⟩
theorem RW_b (hA : A ≤ 4) (hz : ∀ p, p < A → 1 ≤ z p ∧ z p ≤ 3) (p : Nat) (hp : p ≤ A) : 1 ≤ RWn z p ∧ RWn z p ≤ 81 := by
  have i := RW_p hz p hp
  have : 3 ^ p ≤ 3 ^ 4 := Nat.pow_le_pow_right (n := 3) (by decide) (by omega)
  exact ⟨i.1, Nat.le_trans i.2 this⟩
theorem dgp_b (hz : ∀ p, p < A → 1 ≤ z p ∧ z p ≤ 3) {p c : Nat} (hp : p < A) : dgp z A p c < z p := by
  unfold dgp dj
  rw [show A - 1 - (A - 1 - p) = p by omega]
  exact Nat.mod_lt _ (by have := hz p hp; omega)
end
/-- the first row at which T isn't so -/
def BR (T : Nat → Bool) (R : Nat) (f : Nat → Int) (v : Int) : Prop := (v = -1 ∧ ∀ c, c < R → T c = true) ∨ ∃ c, c < R ∧ T c = false ∧ (∀ x, x < c → T x = true) ∧ v = f c
theorem BR.uniq {T : Nat → Bool} {R : Nat} {f : Nat → Int} {v v' : Int} (h : BR T R f v) (h' : BR T R f v') : v = v' := by
  rcases h with ⟨a, b⟩ | ⟨c, a1, a2, a3, a4⟩
  · rcases h' with ⟨a', _⟩ | ⟨c', b1, b2, _⟩
    · rw [a, a']
    · rw [b c' b1] at b2; cases b2
  · rcases h' with ⟨_, b⟩ | ⟨c', b1, b2, b3, b4⟩
    · rw [b c a1] at a2; cases a2
    · have : c = c' := by
        apply Classical.byContradiction
        intro ne
        by_cases l : c < c'
        · rw [b3 c l] at a2; cases a2
        · rw [a3 c' (by omega)] at b2; cases b2
      rw [a4, b4, this]
end
