/-! ===== the reference: is it a world ===== -/
/-- a world is laid out -/
def LW (S : SH) (φ : Int → Bool) (M : Mem) : Prop := ∀ f : Int, 0 ≤ f → f < S.nf → mG M 154 f = b2i (φ f)
/-- the texts that are told -/
def RTP (S : SH) (P : Nat → List Row) (K : Int) (M : Mem) : Prop := ∀ s : Nat, (s : Int) < K → RT (P s) (s : Int) M ∧ (P s).length ≤ 40 ∧ ty S.nr S.k1 S.k2 [(0, 255)] (P s)
/-- what asking for worlds changes -/
def FI (M M' : Mem) : Prop := ∀ c j : Int, ¬ (c = 126 ∧ j = 46) → ¬ c = 154 → ¬ c = 160 → ¬ c = 161 → mG M' c j = mG M c j
theorem FI.rf {M : Mem} : FI M M := fun _ _ _ _ _ _ => rfl
theorem FI.tr {M M' M'' : Mem} (h : FI M M') (k : FI M' M'') : FI M M'' := fun c j x y z w => (k c j x y z w).trans (h c j x y z w)
theorem FM.fi {M M' : Mem} (h : FM M M') : FI M M' := fun c j x _ z w => h c j x z w
theorem K9.fi {M M' : Mem} (h : K9 M) (k : FI M M') : K9 M' := h.kp (fun j hj => k 126 j (by omega) (by decide) (by decide) (by decide))
section
variable {S : SH} {M : Mem} {P : Nat → List Row}
theorem RSH.fi {M' : Mem} (h : RSH S M) (k : FI M M') : RSH S M' := h.kp (fun c j hc => k c j (by omega) (by omega) (by omega) (by omega))
theorem RT.fi {ps : List Row} {t : Int} {M' : Mem} (h : RT ps t M) (k : FI M M') : RT ps t M' :=
  ⟨(k 141 t (by omega) (by decide) (by decide) (by decide)).trans h.1, fun i r hr => (h.2 i r hr).kp (fun c c0 c1 => k c _ (by omega) (by omega) (by omega) (by omega))⟩
theorem RTP.fi {K : Int} {M' : Mem} (h : RTP S P K M) (k : FI M M') : RTP S P K M' := fun s hs => ⟨(h s hs).1.fi k, (h s hs).2⟩
theorem RM.mk {ps : List Row} {t : Int} {φ : Int → Bool} (ok : S.ok) (k9 : K9 M) (h : RSH S M) (hl : LW S φ M) (rt : RT ps t M) : RM S ps t φ M :=
  ⟨⟨k9.c9, k9.c10, k9.c15, k9.c16, k9.c17, k9.c18, k9.c19, k9.c26, k9.c27, k9.c28, k9.c45, k9.c47⟩, h.1, fun r r0 r1 => ⟨(h.2.1.2 r r0 r1).1, (h.2.1.2 r r0 r1).2, by
    have := h.2.2 r.toNat (by omega)
    rw [show ((r.toNat : Nat) : Int) = r by omega] at this
    exact this⟩, hl, rt⟩
theorem v_layWorld {n w : Nat} (ok : S.ok) (hn : S.nf = (n : Int)) (n12 : n ≤ 12) (k9 : K9 M) (h : RSH S M) (hw : w < 4096) : pw (mX9_layWorld 126 (w : Int) M) (fun q => LW S (phw S.nf w) q.2 ∧ ∀ c j : Int, ¬ c = 154 → mG q.2 c j = mG M c j) := by
  have loop : ∀ (fu f : Nat) (m : Mem), f ≤ n → (∀ c j : Int, ¬ c = 154 → mG m c j = mG M c j) → (∀ x : Nat, x < f → mG m 154 (x : Int) = b2i (phw S.nf w (x : Int))) → pw (mX9_layWorld_7 fu 126 (w : Int) (n : Int) (f : Int) m) (fun q => LW S (phw S.nf w) q.2 ∧ ∀ c j : Int, ¬ c = 154 → mG q.2 c j = mG M c j) := by
    intro fu
    induction fu with
    | zero => intro f m _ _ _; exact p_none
    | succ fu ih =>
      intro f m hf fr hl
      show pw (bX9_layWorld_7 (mX9_layWorld_7 fu) 126 (w : Int) (n : Int) (f : Int) m) _
      unfold bX9_layWorld_7
      refine p_if (fun c => p_ret ⟨fun x x0 x1 => ?_, fr⟩) (fun c => ?_)
      · obtain ⟨y, rfl⟩ := Int.eq_ofNat_of_zero_le x0
        exact hl y (by omega)
      have k28 : mG m 126 28 = 154 := (fr 126 28 (by decide)).trans k9.c28
      have go : ∀ v : Int, v = b2i (phw S.nf w (f : Int)) → pw (mX9_layWorld_34 (mX9_layWorld_7 fu) 126 (w : Int) (n : Int) (f : Int) 154 (f : Int) v m) (fun q => LW S (phw S.nf w) q.2 ∧ ∀ c j : Int, ¬ c = 154 → mG q.2 c j = mG M c j) := fun v hv => by
        unfold mX9_layWorld_34
        refine p_aSZ (fun m2 h2 => ?_)
        rw [wI_s (p := f) (by omega)]
        refine ih (f + 1) m2 (by omega) (fun c j x => (st_ne h2 (fun y => x y.1)).trans (fr c j x)) (fun x hx => ?_)
        by_cases e : x = f
        · rw [e, st_eq h2, hv]
        · rw [st_ne h2 (fun y => e (by have := y.2; omega))]
          exact hl x (by omega)
      have ph : phw S.nf w (f : Int) = w.testBit (n - 1 - f) := by
        unfold phw
        rw [hn, show ((n : Int) - 1 - (f : Int)).toNat = n - 1 - f by omega]
      refine p_gFc (ji := 28) rfl k28 ?_
      rw [wI_id (x := (n : Int) - 1) (by omega) (by omega), wI_id (x := (n : Int) - 1 - (f : Int)) (by omega) (by omega), show (n : Int) - 1 - (f : Int) = ((n - 1 - f : Nat) : Int) by omega]
      refine p_if (fun c2 => go 0 ?_) (fun c2 => go 1 ?_)
      · rw [ph, (ibit (by omega) (by omega)).mp c2]; rfl
      · have : w.testBit (n - 1 - f) = true := by
          cases e : w.testBit (n - 1 - f) with
          | true => rfl
          | false => exact absurd ((ibit (by omega) (by omega)).mpr e) c2
        rw [ph, this]; rfl
  unfold mX9_layWorld
  refine p_gK (p_call (v_manyFacts ok k9 h) (fun v m y => ?_))
  obtain ⟨y1, y2⟩ := y
  replace y1 : m = M := y1
  replace y2 : v = S.nf := y2
  subst y1
  rw [hn] at y2
  subst y2
  exact loop FU 0 m (by omega) (fun _ _ _ => rfl) (fun x hx => absurd hx (by omega))
/-- what stands while worlds are asked for -/
def RWd (S : SH) (P : Nat → List Row) (K : Int) (vw : Nat) (F : Int → Int) (n : Nat) (M : Mem) : Prop := (K9 M ∧ RSH S M) ∧ (mG M 138 0 = K ∧ mG M 126 48 = (vw : Int) ∧ mG M 126 49 = ((kbs F n : Nat) : Int) ∧ mG M 126 50 = ((kss F n : Nat) : Int)) ∧ RTP S P K M
theorem RWd.fi {K : Int} {vw n : Nat} {F : Int → Int} {M' : Mem} (h : RWd S P K vw F n M) (k : FI M M') : RWd S P K vw F n M' :=
  ⟨⟨h.1.1.fi k, h.1.2.fi k⟩, ⟨(k _ _ (by omega) (by decide) (by decide) (by decide)).trans h.2.1.1, (k _ _ (by omega) (by decide) (by decide) (by decide)).trans h.2.1.2.1, (k _ _ (by omega) (by decide) (by decide) (by decide)).trans h.2.1.2.2.1, (k _ _ (by omega) (by decide) (by decide) (by decide)).trans h.2.1.2.2.2⟩, h.2.2.fi k⟩
def WDr (S : SH) (P : Nat → List Row) (K : Nat) (vw : Nat) (F : Int → Int) (n w : Nat) : Bool := allb (okp (n : Int) F w) n && allb (stw S P vw w) K
theorem v_isWorld {n w K vw : Nat} {F : Int → Int} (ok : S.ok) (hn : S.nf = (n : Int)) (n12 : n ≤ 12) (hw : w < 2 ^ n) (hF : ∀ p, F p = -1 ∨ F p = 0 ∨ F p = 1) (hK : K ≤ 8) (hv : vw < 256) (h : RWd S P (K : Int) vw F n M) : pw (mX9_isWorld 126 (w : Int) M) (fun q => FI M q.2 ∧ q.1 = b2i (WDr S P K vw F n w) ∧ (q.1 = 1 → LW S (phw S.nf w) q.2)) := by
  obtain ⟨⟨k9, sh⟩, ⟨e138, e48, e49, e50⟩, rt⟩ := h
  have p12 : 2 ^ n ≤ 2 ^ 12 := Nat.pow_le_pow_right (n := 2) (by decide) n12
  obtain ⟨Q, hQ⟩ : ∃ Q : Int × Mem → Prop, Q = fun q => FI M q.2 ∧ q.1 = b2i (WDr S P K vw F n w) ∧ (q.1 = 1 → LW S (phw S.nf w) q.2) := ⟨_, rfl⟩
  rw [← hQ]
  have ak := as_known (n := n) (w := w) hF
  have l1 := kb_lt F n
  unfold mX9_isWorld
  refine p_gK (p_call (P := fun q => q.2 = M ∧ ((allb (okp (n : Int) F w) n = true ∧ q.1 = 1) ∨ (allb (okp (n : Int) F w) n = false ∧ q.1 = 0))) ?_ (fun v m y => ?_))
  · unfold mX9_isAsKnown
    refine p_gFc (ji := 49) rfl e49 (p_gFc (ji := 50) rfl e50 ?_)
    rw [iand_nat (by omega) (by omega) (by omega) (by omega), Int.toNat_natCast, Int.toNat_natCast]
    refine p_if (fun c => p_ret ⟨rfl, Or.inl ⟨ak.mp (by omega), rfl⟩⟩) (fun c => p_ret ⟨rfl, Or.inr ⟨?_, rfl⟩⟩)
    cases e : allb (okp (n : Int) F w) n with
    | false => rfl
    | true => exact absurd (congrArg (fun x : Nat => (x : Int)) (ak.mpr e)) c
  obtain ⟨y1, y2⟩ := y
  replace y1 : m = M := y1
  subst y1
  rcases y2 with ⟨a1, a2⟩ | ⟨a1, a2⟩
  · replace a2 : v = 1 := a2
    refine p_it0 (show ¬ v = 0 by omega) (p_gK (p_call (v_layWorld (w := w) ok hn n12 k9 sh (by omega)) (fun v m1 y => ?_)))
    obtain ⟨y3, y4⟩ := y
    replace y3 : LW S (phw S.nf w) m1 := y3
    replace y4 : ∀ c j : Int, ¬ c = 154 → mG m1 c j = mG m c j := y4
    have f1 : FI m m1 := fun c j _ y _ _ => y4 c j y
    have loop : ∀ (fu s : Nat) (m2 : Mem), s ≤ K → FI m m2 → LW S (phw S.nf w) m2 → allb (stw S P vw w) s = true → pw (mX9_isWorld_17 fu 126 (s : Int) m2) Q := by
      intro fu
      induction fu with
      | zero => intro s m2 _ _ _ _; exact p_none
      | succ fu ih =>
        intro s m2 hs fi lw hall
        show pw (bX9_isWorld_17 (mX9_isWorld_17 fu) 126 (s : Int) m2) _
        have km := k9.fi fi
        have shm := sh.fi fi
        unfold bX9_isWorld_17
        refine p_gFc (ji := 12) rfl km.c12 (p_aGc ((fi 138 0 (by omega) (by decide) (by decide) (by decide)).trans e138) (p_if (fun c => p_ret ?_) (fun c => ?_)))
        · have e : s = K := by omega
          rw [hQ]
          refine ⟨fi, ?_, fun _ => lw⟩
          unfold WDr
          rw [a1, ← e, hall]; rfl
        have go : stw S P vw w s = true → ∀ m3, FI m m3 → LW S (phw S.nf w) m3 → pw (mX9_isWorld_48 (mX9_isWorld_17 fu) 126 (s : Int) m3) Q := fun hst m3 f3 lw3 => by
          unfold mX9_isWorld_48
          rw [wI_s (p := s) (by omega)]
          refine ih (s + 1) m3 (by omega) f3 lw3 ?_
          show (allb _ s && stw S P vw w s) = true
          rw [hall, hst]; rfl
        refine p_gFc (ji := 48) rfl ((fi 126 48 (by decide) (by decide) (by decide) (by decide)).trans e48) (p_if (fun c2 => go ?_ m2 fi lw) (fun c2 => ?_))
        · unfold stw; rw [(ibit (by omega) (by omega)).mp c2]; rfl
        have vb : vw.testBit s = true := by
          cases e : vw.testBit s with
          | true => rfl
          | false => exact absurd ((ibit (by omega) (by omega)).mpr e) c2
        have sts : stw S P vw w s = TMw S (P s) w := by unfold stw; rw [vb]; rfl
        obtain ⟨r1, r2, r3⟩ := rt s (by omega)
        refine p_gK (p_call (w_means (t := (s : Int)) ok (RM.mk ok km shm lw (r1.fi fi)) (by omega) r2 r3) (fun v m3 y => ?_))
        obtain ⟨⟨y5, y6⟩, y7⟩ := y
        replace y6 : FM m2 m3 := y6
        replace y7 : v = b2i (TMw S (P s) w) := y7
        have f3 : FI m m3 := fi.tr y6.fi
        refine p_if (fun c3 => p_ret ?_) (fun c3 => go ?_ m3 f3 y5.2.2.2.1)
        · rw [hQ]
          refine ⟨f3, ?_, fun e => absurd (show (0 : Int) = 1 from e) (by decide)⟩
          have tf : TMw S (P s) w = false := b2i_0.mp (y7.symm.trans c3)
          have : allb (stw S P vw w) K = false := by
            cases e : allb (stw S P vw w) K with
            | false => rfl
            | true =>
              have z := (allb_t K).mp e s (by omega)
              rw [sts, tf] at z
              cases z
          unfold WDr
          rw [this, Bool.and_false]; rfl
        · rw [sts]
          cases e : TMw S (P s) w with
          | true => rfl
          | false => rw [e] at y7; exact absurd y7 c3
    exact loop FU 0 m1 (by omega) f1 y3 rfl
  · replace a2 : v = 0 := a2
    refine p_it1 a2 (p_ret ?_)
    rw [hQ]
    refine ⟨FI.rf, ?_, fun e => absurd (show (0 : Int) = 1 from e) (by decide)⟩
    unfold WDr
    rw [a1]; rfl
/-- what preparing leaves -/
theorem v_prepare {n : Nat} (ok : S.ok) (hn : S.nf = (n : Int)) (n12 : n ≤ 12) (k9 : K9 M) (h : RSH S M) (kn : KNO S M) (h8 : 0 ≤ mG M 138 0 ∧ mG M 138 0 ≤ 8) (rt : RTP S P (mG M 138 0) M) : pw (mX9_prepare 126 M) (fun q => RWd S P (mG M 138 0) (tvb M) (knR S M) n q.2 ∧ ∀ c j : Int, ¬ (c = 126 ∧ (j = 48 ∨ j = 49 ∨ j = 50)) → mG q.2 c j = mG M c j) := by
  unfold mX9_prepare
  refine p_gK (p_call (v_told k9 h8) (fun v m y => ?_))
  obtain ⟨y1, y2⟩ := y
  replace y1 : m = M := y1
  replace y2 : v = ((tvb M : Nat) : Int) := y2
  subst y1; subst y2
  refine p_pF (ji := 48) rfl (fun m1 h1 => ?_)
  have g1 : ∀ c j : Int, ¬ c = 126 → mG m1 c j = mG m c j := fun c j x => st_ne h1 (fun w => x w.1)
  have k1 : K9 m1 := k9.kp (fun j hj => st_ne h1 (fun w => by omega))
  have kn1 : KNO S m1 := by
    refine ⟨by rw [g1 146 0 (by decide)]; exact kn.1, fun k hk => ?_⟩
    rw [g1 146 0 (by decide)] at hk
    rw [g1 147 _ (by decide), g1 148 _ (by decide)]
    exact kn.2 k hk
  have ek : knR S m1 = knR S m := by
    funext p
    unfold knR
    rw [g1 131 0 (by decide), g1 132 0 (by decide), g1 146 0 (by decide), show mG m1 147 = mG m 147 from funext (fun j => g1 147 j (by decide)), show mG m1 148 = mG m 148 from funext (fun j => g1 148 j (by decide)), show mG m1 149 = mG m 149 from funext (fun j => g1 149 j (by decide))]
  refine p_gK (p_call (v_findKnown ok hn n12 k1 (h.kp (fun c j hc => g1 c j (by omega))) kn1) (fun v m2 y => p_ret ?_))
  obtain ⟨y3, y4, y5⟩ := y
  rw [ek] at y3 y4
  replace y3 : mG m2 126 49 = ((kbs (knR S m) n : Nat) : Int) := y3
  replace y4 : mG m2 126 50 = ((kss (knR S m) n : Nat) : Int) := y4
  replace y5 : FK m1 m2 := y5
  have g2 : ∀ c j : Int, ¬ (c = 126 ∧ (j = 48 ∨ j = 49 ∨ j = 50)) → mG m2 c j = mG m c j := fun c j x => (y5 c j (fun w => x ⟨w.1, Or.inr w.2⟩)).trans (st_ne h1 (fun w => x ⟨w.1, Or.inl w.2⟩))
  have g3 : ∀ c j : Int, ¬ c = 126 → mG m2 c j = mG m c j := fun c j x => g2 c j (fun w => x w.1)
  refine ⟨⟨⟨k9.kp (fun j hj => g2 126 j (fun w => by omega)), h.kp (fun c j hc => g3 c j (by omega))⟩, ⟨g3 138 0 (by decide), ?_, y3, y4⟩, fun s hs => ⟨?_, (rt s hs).2⟩⟩, g2⟩
  · exact (y5 126 48 (fun w => absurd w.2 (by decide))).trans (st_eq h1)
  · exact ⟨(g3 141 _ (by decide)).trans (rt s hs).1.1, fun i r hr => ((rt s hs).1.2 i r hr).kp (fun c c0 c1 => g3 c _ (by omega))⟩
theorem ctn_s (f : Nat → Bool) (k : Nat) : ctn f (k + 1) = ctn f k + (f k).toNat := rfl
theorem b2i_n (b : Bool) : b2i b = ((b.toNat : Nat) : Int) := by cases b <;> rfl
/-- how many worlds -/
theorem v_worlds {n : Nat} (ok : S.ok) (hn : S.nf = (n : Int)) (k9 : K9 M) (h : RST S M) (kn : KNO S M) (h8 : 0 ≤ mG M 138 0 ∧ mG M 138 0 ≤ 8) (rt : RTP S P (mG M 138 0) M) : pw (mX9_worlds 126 M) (fun q => (12 < n ∧ q.1 = -1) ∨ (n ≤ 12 ∧ q.1 = ((ctn (WDr S P (mG M 138 0).toNat (tvb M) (knR S M) n) (2 ^ n) : Nat) : Int))) := by
  obtain ⟨K, hK⟩ := Int.eq_ofNat_of_zero_le h8.1
  rw [hK] at h8
  unfold mX9_worlds
  refine p_pF (ji := 0) rfl (fun m1 h1 => ?_)
  have g1 : ∀ c j : Int, ¬ c = 126 → mG m1 c j = mG M c j := fun c j x => st_ne h1 (fun w => x w.1)
  have k1 : K9 m1 := k9.kp (fun j hj => st_ne h1 (fun w => by omega))
  refine p_gK (p_call (v_canTell ok k1 (h.kp (fun c j hc => g1 c j (by omega)))) (fun v m2 y => ?_))
  obtain ⟨y1, y2, y3⟩ := y
  replace y1 : RSH S m2 := y1
  replace y2 : FN m1 m2 := y2
  have g2 : ∀ c j : Int, ¬ c = 126 → ¬ c = 152 → ¬ c = 153 → mG m2 c j = mG M c j := fun c j x y z => (y2 c j y z).trans (g1 c j x)
  rcases y3 with ⟨z1, z2⟩ | ⟨z1, z2⟩
  · exact p_it1 z2 (p_ret (Or.inl ⟨by omega, rfl⟩))
  have z3 : v = 1 := z2
  refine p_it0 (show ¬ v = 0 by omega) ?_
  have n12 : n ≤ 12 := by omega
  have e138 : mG m2 138 0 = mG M 138 0 := g2 138 0 (by decide) (by decide) (by decide)
  have kn2 : KNO S m2 := by
    refine ⟨by rw [g2 146 0 (by decide) (by decide) (by decide)]; exact kn.1, fun k hk => ?_⟩
    rw [g2 146 0 (by decide) (by decide) (by decide)] at hk
    rw [g2 147 _ (by decide) (by decide) (by decide), g2 148 _ (by decide) (by decide) (by decide)]
    exact kn.2 k hk
  have ek : knR S m2 = knR S M := by
    funext p
    unfold knR
    rw [g2 131 0 (by decide) (by decide) (by decide), g2 132 0 (by decide) (by decide) (by decide), g2 146 0 (by decide) (by decide) (by decide), show mG m2 147 = mG M 147 from funext (fun j => g2 147 j (by decide) (by decide) (by decide)), show mG m2 148 = mG M 148 from funext (fun j => g2 148 j (by decide) (by decide) (by decide)), show mG m2 149 = mG M 149 from funext (fun j => g2 149 j (by decide) (by decide) (by decide))]
  have et : tvb m2 = tvb M := by
    unfold tvb
    rw [g2 131 0 (by decide) (by decide) (by decide), g2 132 0 (by decide) (by decide) (by decide), e138, show mG m2 139 = mG M 139 from funext (fun j => g2 139 j (by decide) (by decide) (by decide)), show mG m2 140 = mG M 140 from funext (fun j => g2 140 j (by decide) (by decide) (by decide))]
  have rt2 : RTP S P (mG m2 138 0) m2 := by
    rw [e138]
    exact fun s hs => ⟨⟨(g2 141 _ (by decide) (by decide) (by decide)).trans (rt s hs).1.1, fun i r hr => ((rt s hs).1.2 i r hr).kp (fun c c0 c1 => g2 c _ (by omega) (by omega) (by omega))⟩, (rt s hs).2⟩
  refine p_gK (p_call (v_prepare ok hn n12 (k1.fn y2) y1 kn2 (by rw [e138, hK]; exact h8) rt2) (fun v m3 y => ?_))
  obtain ⟨y4, y5⟩ := y
  rw [e138, et, ek, hK] at y4
  rw [hK, Int.toNat_natCast]
  replace y4 : RWd S P (K : Int) (tvb M) (knR S M) n m3 := y4
  have tlt : tvb M < 256 := by
    have := bitsOf_lt (vwf (vdy (mG M 131 0) (mG M 132 0)) (mG M 139) (mG M 140)) (mG M 138 0).toNat
    have : 2 ^ (mG M 138 0).toNat ≤ 2 ^ 8 := Nat.pow_le_pow_right (by decide) (by omega)
    unfold tvb
    omega
  have hF : ∀ p, knR S M p = -1 ∨ knR S M p = 0 ∨ knR S M p = 1 := fun p => knf_rg _ _ _ _ _ _
  have p12 : 2 ^ n ≤ 2 ^ 12 := Nat.pow_le_pow_right (n := 2) (by decide) n12
  have loop : ∀ (fu w : Nat) (m : Mem), w ≤ 2 ^ n → RWd S P (K : Int) (tvb M) (knR S M) n m → pw (mX9_worlds_22 fu 126 ((ctn (WDr S P K (tvb M) (knR S M) n) w : Nat) : Int) (w : Int) m) (fun q => (12 < n ∧ q.1 = -1) ∨ (n ≤ 12 ∧ q.1 = ((ctn (WDr S P K (tvb M) (knR S M) n) (2 ^ n) : Nat) : Int))) := by
    intro fu
    induction fu with
    | zero => intro w m _ _; exact p_none
    | succ fu ih =>
      intro w m hw rw'
      show pw (bX9_worlds_22 (mX9_worlds_22 fu) 126 _ (w : Int) m) _
      unfold bX9_worlds_22
      refine p_gK (p_call (v_manyFacts ok rw'.1.1 rw'.1.2) (fun v m4 y => ?_))
      obtain ⟨y6, y7⟩ := y
      replace y6 : m4 = m := y6
      replace y7 : v = S.nf := y7
      subst y6
      rw [hn] at y7
      subst y7
      rw [ishl1 n (by omega), show (2 : Int) ^ n = ((2 ^ n : Nat) : Int) by simp]
      refine p_if (fun c => p_ret (Or.inr ⟨n12, ?_⟩)) (fun c => ?_)
      · show _ = _
        rw [show w = 2 ^ n by omega]
      have cl := ctn_le (WDr S P K (tvb M) (knR S M) n) w
      refine p_gK (p_call (v_isWorld (w := w) ok hn n12 (by omega) hF (by omega) tlt rw') (fun v m5 y => ?_))
      obtain ⟨y8, y9, _⟩ := y
      replace y8 : FI m4 m5 := y8
      replace y9 : v = b2i (WDr S P K (tvb M) (knR S M) n w) := y9
      have go : ∀ x : Int, x = b2i (WDr S P K (tvb M) (knR S M) n w) → pw (mX9_worlds_46 (mX9_worlds_22 fu) 126 (w : Int) ((ctn (WDr S P K (tvb M) (knR S M) n) w : Nat) : Int) x m5) (fun q => (12 < n ∧ q.1 = -1) ∨ (n ≤ 12 ∧ q.1 = ((ctn (WDr S P K (tvb M) (knR S M) n) (2 ^ n) : Nat) : Int))) := fun x hx => by
        unfold mX9_worlds_46
        have bb := b2i_b (WDr S P K (tvb M) (knR S M) n w)
        rw [wI_s (p := w) (by omega), wI_id (x := ((ctn (WDr S P K (tvb M) (knR S M) n) w : Nat) : Int) + x) (by omega) (by omega), hx, b2i_n, ← Int.natCast_add, ← ctn_s]
        exact ih (w + 1) m5 (by omega) (rw'.fi y8)
      refine p_if (fun c2 => go 0 (by omega)) (fun c2 => go 1 ?_)
      have := b2i_b (WDr S P K (tvb M) (knR S M) n w)
      omega
  exact loop FU 0 m3 (Nat.zero_le _) y4
end
