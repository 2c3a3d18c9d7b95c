/-! ===== the reference: which stories are so together ===== -/
theorem pop8_c (a : Nat) : ctn (fun s => a.testBit s) 8 = pop8 a := by
  unfold pop8
  show 0 + (a.testBit 0).toNat + (a.testBit 1).toNat + (a.testBit 2).toNat + (a.testBit 3).toNat + (a.testBit 4).toNat + (a.testBit 5).toNat + (a.testBit 6).toNat + (a.testBit 7).toNat = _
  omega
/-- the stories that are so in a world -/
def sof (S : SH) (P : Nat → List Row) (vw w : Nat) : Nat → Nat := bitsOf (fun s => vw.testBit s && TMw S (P s) w)
/-- a world that is asked for -/
def frw (n : Nat) (F : Int → Int) (g : Int) (as : Bool) (w : Nat) : Bool := allb (okp (n : Int) F w) n && (decide (g = -1) || !(phw (n : Int) w g == as))
section
variable {S : SH} {P : Nat → List Row} {M : Mem}
theorem v_asKnown {n w : Nat} {F : Int → Int} (hF : ∀ p, F p = -1 ∨ F p = 0 ∨ F p = 1) (n12 : n ≤ 12) (hw : w < 2 ^ n) (e49 : mG M 126 49 = ((kbs F n : Nat) : Int)) (e50 : mG M 126 50 = ((kss F n : Nat) : Int)) : pw (mX9_isAsKnown 126 (w : Int) M) (fun q => q.2 = M ∧ q.1 = b2i (allb (okp (n : Int) F w) n)) := by
  have p12 : 2 ^ n ≤ 2 ^ 12 := Nat.pow_le_pow_right (n := 2) (by decide) n12
  have ak := as_known (n := n) (w := w) hF
  have l1 := kb_lt F n
  unfold mX9_isAsKnown
  refine p_gFc (ji := 49) rfl e49 (p_gFc (ji := 50) rfl e50 ?_)
  rw [iand_nat (by omega) (by omega) (by omega) (by omega), Int.toNat_natCast, Int.toNat_natCast]
  refine p_if (fun c => p_ret ⟨rfl, ?_⟩) (fun c => p_ret ⟨rfl, ?_⟩)
  · rw [ak.mp (by omega)]; rfl
  · cases e : allb (okp (n : Int) F w) n with
    | false => rfl
    | true => exact absurd (congrArg (fun x : Nat => (x : Int)) (ak.mpr e)) c
/-- what changes while it is found what is together -/
def FT9 (M M' : Mem) : Prop := ∀ c j : Int, ¬ (c = 126 ∧ j = 46) → ¬ c = 154 → ¬ c = 160 → ¬ c = 161 → ¬ c = 163 → mG M' c j = mG M c j
theorem FT9.tr {M M' M'' : Mem} (h : FT9 M M') (k : FT9 M' M'') : FT9 M M'' := fun c j x y z w u => (k c j x y z w u).trans (h c j x y z w u)
theorem FI.ft {M M' : Mem} (h : FI M M') : FT9 M M' := fun c j x y z w _ => h c j x y z w
/-- what stands meanwhile -/
def RTg (S : SH) (P : Nat → List Row) (K : Int) (F : Int → Int) (n : Nat) (M : Mem) : Prop := (K9 M ∧ RSH S M) ∧ (mG M 138 0 = K ∧ mG M 126 49 = ((kbs F n : Nat) : Int) ∧ mG M 126 50 = ((kss F n : Nat) : Int)) ∧ RTP S P K M
theorem RTg.ft {K : Int} {n : Nat} {F : Int → Int} {M' : Mem} (h : RTg S P K F n M) (k : FT9 M M') : RTg S P K F n M' := by
  obtain ⟨⟨ka, kb⟩, ⟨kc, ke, kf⟩, kg⟩ := h
  have g6 : ∀ c j : Int, ¬ c = 126 → ¬ c = 154 → ¬ c = 160 → ¬ c = 161 → ¬ c = 163 → mG M' c j = mG M c j := fun c j a b d e f => k c j (fun y => a y.1) b d e f
  have g5 : ∀ j : Int, ¬ j = 46 → mG M' 126 j = mG M 126 j := fun j hj => k 126 j (fun y => hj y.2) (by decide) (by decide) (by decide) (by decide)
  exact ⟨⟨ka.kp (fun j hj => g5 j (by omega)), kb.kp (fun c j hc => g6 c j (by omega) (by omega) (by omega) (by omega) (by omega))⟩, ⟨(g6 138 0 (by decide) (by decide) (by decide) (by decide) (by decide)).trans kc, (g5 49 (by decide)).trans ke, (g5 50 (by decide)).trans kf⟩, fun s hs => ⟨⟨(g6 141 _ (by decide) (by decide) (by decide) (by decide) (by decide)).trans (kg s hs).1.1, fun i r hr => ((kg s hs).1.2 i r hr).kp (fun c c0 c1 => g6 c _ (by omega) (by omega) (by omega) (by omega) (by omega))⟩, (kg s hs).2⟩⟩
/-- the sets that are together, by the worlds below w -/
def TGS (fr : Nat → Bool) (so : Nat → Nat) (w : Nat) (m : Mem) : Prop := ∀ t : Nat, t < 256 → (mG m 163 (t : Int) = 0 ∧ ¬ ∃ u, u < w ∧ fr u = true ∧ so u = t) ∨ (mG m 163 (t : Int) = 1 ∧ ∃ u, u < w ∧ fr u = true ∧ so u = t)
theorem TGS.skip {fr : Nat → Bool} {so : Nat → Nat} {w : Nat} {m m' : Mem} (h : TGS fr so w m) (hf : fr w = false) (g : ∀ j, mG m' 163 j = mG m 163 j) : TGS fr so (w + 1) m' := fun t ht => by
  rw [g]
  have up : (∃ u, u < w + 1 ∧ fr u = true ∧ so u = t) ↔ ∃ u, u < w ∧ fr u = true ∧ so u = t := by
    constructor
    · rintro ⟨u, u1, u2, u3⟩
      by_cases e : u = w
      · rw [e, hf] at u2; cases u2
      · exact ⟨u, by omega, u2, u3⟩
    · rintro ⟨u, u1, u2, u3⟩
      exact ⟨u, by omega, u2, u3⟩
  rw [up]
  exact h t ht
theorem v_findTogether {m : Mem} {n K : Nat} {g as : Int} {bs : Bool} (ok : S.ok) (hn : S.nf = (n : Int)) (n12 : n ≤ 12) (h8 : 0 ≤ mG M 138 0 ∧ mG M 138 0 ≤ 8) (hK : mG M 138 0 = (K : Int)) (hg : g = -1 ∨ (0 ≤ g ∧ g < (n : Int))) (has : as = b2i bs) (rb : RPC S P M m) : pw (mX9_findTogether 126 g as m) (fun q => TGS (frw n (knR S M) g bs) (fun w => sof S P (tvb M) w K) (2 ^ n) q.2 ∧ RTg S P (K : Int) (knR S M) n q.2 ∧ tvb q.2 = tvb M) := by
  have hF : ∀ p, knR S M p = -1 ∨ knR S M p = 0 ∨ knR S M p = 1 := fun p => knf_rg _ _ _ _ _ _
  have K8 : K ≤ 8 := by omega
  have vl := tvb_lt hK
  have p8 : 2 ^ K ≤ 2 ^ 8 := Nat.pow_le_pow_right (n := 2) (by decide) K8
  have p12 : 2 ^ n ≤ 2 ^ 12 := Nat.pow_le_pow_right (n := 2) (by decide) n12
  obtain ⟨⟨a1, a2, a3, a4⟩, ⟨e1, e2, e3⟩⟩ := rb
  obtain ⟨vw, hvw⟩ : ∃ vw, vw = tvb M := ⟨_, rfl⟩
  obtain ⟨F, hFe⟩ : ∃ F, F = knR S M := ⟨_, rfl⟩
  rw [← hvw] at vl e2 ⊢
  rw [← hFe] at hF e3 ⊢
  obtain ⟨fr, hfr⟩ : ∃ fr, fr = frw n F g bs := ⟨_, rfl⟩
  obtain ⟨so, hso⟩ : ∃ so : Nat → Nat, so = fun w => sof S P vw w K := ⟨_, rfl⟩
  rw [← hfr, ← hso]
  obtain ⟨Q, hQ⟩ : ∃ Q : Int × Mem → Prop, Q = fun q => TGS fr so (2 ^ n) q.2 ∧ RTg S P (K : Int) F n q.2 ∧ tvb q.2 = vw := ⟨_, rfl⟩
  rw [← hQ]
  have tvk : ∀ m', FT9 m m' ∨ (∀ c j : Int, ¬ c = 126 → ¬ c = 154 → ¬ c = 160 → ¬ c = 161 → ¬ c = 163 → mG m' c j = mG m c j) → tvb m' = vw := fun m' hm => by
    have g6 : ∀ c j : Int, ¬ c = 126 → ¬ c = 154 → ¬ c = 160 → ¬ c = 161 → ¬ c = 163 → mG m' c j = mG m c j := by
      rcases hm with hm | hm
      · exact fun c j a b d e f => hm c j (fun y => a y.1) b d e f
      · exact hm
    rw [← e2]
    unfold tvb
    rw [g6 131 0 (by decide) (by decide) (by decide) (by decide) (by decide), g6 132 0 (by decide) (by decide) (by decide) (by decide) (by decide), g6 138 0 (by decide) (by decide) (by decide) (by decide) (by decide), show mG m' 139 = mG m 139 from funext (fun j => g6 139 j (by decide) (by decide) (by decide) (by decide) (by decide)), show mG m' 140 = mG m 140 from funext (fun j => g6 140 j (by decide) (by decide) (by decide) (by decide) (by decide))]
  have slt : ∀ w k, k ≤ 8 → sof S P vw w k < 256 := fun w k hk => by
    have := bitsOf_lt (fun s => vw.testBit s && TMw S (P s) w) k
    have : 2 ^ k ≤ 2 ^ 8 := Nat.pow_le_pow_right (n := 2) (by decide) hk
    unfold sof
    omega
  have l37 : ∀ (fu w : Nat) (m1 : Mem), w ≤ 2 ^ n → RTg S P (K : Int) F n m1 → TGS fr so w m1 → (∀ c j : Int, ¬ c = 126 → ¬ c = 154 → ¬ c = 160 → ¬ c = 161 → ¬ c = 163 → mG m1 c j = mG m c j) → pw (mX9_findTogether_37 fu 126 g as (vw : Int) (w : Int) m1) Q := by
    intro fu
    induction fu with
    | zero => intro w m1 _ _ _ _; exact p_none
    | succ fu ih =>
      intro w m1 hw rt tg fg
      show pw (bX9_findTogether_37 (mX9_findTogether_37 fu) 126 g as (vw : Int) (w : Int) m1) _
      unfold bX9_findTogether_37
      refine p_gK (p_call (v_manyFacts ok rt.1.1 rt.1.2) (fun v m4 y => ?_))
      obtain ⟨y6, y7⟩ := y
      replace y6 : m4 = m1 := y6
      replace y7 : v = S.nf := y7
      subst y6
      rw [hn] at y7
      subst y7
      rw [ishl1 n (by omega), show (2 : Int) ^ n = ((2 ^ n : Nat) : Int) by simp]
      refine p_if (fun c => p_ret ?_) (fun c => ?_)
      · rw [show w = 2 ^ n by omega] at tg
        rw [hQ]
        exact ⟨tg, rt, tvk m4 (Or.inr fg)⟩
      have w1 : w < 2 ^ n := by omega
      refine p_gK (p_call (v_layWorld (w := w) ok hn n12 rt.1.1 rt.1.2 (by omega)) (fun v m5 y => ?_))
      obtain ⟨lw, y4⟩ := y
      replace lw : LW S (phw S.nf w) m5 := lw
      replace y4 : ∀ c j : Int, ¬ c = 154 → mG m5 c j = mG m4 c j := y4
      have f5 : FT9 m4 m5 := fun c j _ y _ _ _ => y4 c j y
      have r5 := rt.ft f5
      have skip : ∀ m6, FT9 m4 m6 → (∀ j, mG m6 163 j = mG m4 163 j) → fr w = false → pw (mX9_findTogether_143 (mX9_findTogether_37 fu) 126 g as (vw : Int) (w : Int) m6) Q := fun m6 f6 g6 hf => by
        unfold mX9_findTogether_143
        rw [wI_s (p := w) (by omega)]
        exact ih (w + 1) m6 (by omega) (rt.ft f6) (tg.skip hf g6) (fun c j a b d e f => (f6 c j (fun y => a y.1) b d e f).trans (fg c j a b d e f))
      have g5 : ∀ j, mG m5 163 j = mG m4 163 j := fun j => y4 163 j (by decide)
      refine p_gK (p_call (v_asKnown hF n12 w1 r5.2.1.2.1 r5.2.1.2.2) (fun v m6 y => ?_))
      obtain ⟨z1, z2⟩ := y
      replace z1 : m6 = m5 := z1
      replace z2 : v = b2i (allb (okp (n : Int) F w) n) := z2
      subst z1
      refine p_if (fun c2 => skip m6 f5 g5 ?_) (fun c2 => ?_)
      · have := b2i_0.mp (z2.symm.trans c2)
        rw [hfr]; unfold frw; rw [this]; rfl
      have ak : allb (okp (n : Int) F w) n = true := by
        cases e : allb (okp (n : Int) F w) n with
        | true => rfl
        | false => rw [e] at z2; exact absurd z2 c2
      have go : fr w = true → pw (mX9_findTogether_81 (mX9_findTogether_37 fu) 126 g as (vw : Int) (w : Int) m6) Q := fun hf => by
        have l87 : ∀ (fu2 s : Nat) (m7 : Mem), s ≤ K → FT9 m4 m7 → LW S (phw S.nf w) m7 → (∀ j, mG m7 163 j = mG m4 163 j) → pw (mX9_findTogether_87 (mX9_findTogether_37 fu) fu2 126 g as (vw : Int) (w : Int) ((sof S P vw w s : Nat) : Int) (s : Int) m7) Q := by
          intro fu2
          induction fu2 with
          | zero => intro s m7 _ _ _ _; exact p_none
          | succ fu2 ih2 =>
            intro s m7 hs f7 lw7 g7
            show pw (bX9_findTogether_87 (mX9_findTogether_37 fu) (mX9_findTogether_87 (mX9_findTogether_37 fu) fu2) 126 g as (vw : Int) (w : Int) ((sof S P vw w s : Nat) : Int) (s : Int) m7) _
            have r7 := rt.ft f7
            have sl := slt w s (by omega)
            unfold bX9_findTogether_87
            refine p_gFc (ji := 12) rfl r7.1.1.c12 (p_aGc r7.2.1.1 (p_if (fun c3 => ?_) (fun c3 => ?_)))
            · have e : s = K := by omega
              refine p_gFc (ji := 55) rfl r7.1.1.c55 (p_aSZ (fun m8 h8' => ?_))
              have f8 : FT9 m4 m8 := f7.tr (fun c j _ _ _ _ z => st_ne h8' (fun y => z y.1))
              unfold mX9_findTogether_143
              rw [wI_s (p := w) (by omega)]
              refine ih (w + 1) m8 (by omega) (rt.ft f8) (fun t ht => ?_) (fun c j a b d e f => (f8 c j (fun y => a y.1) b d e f).trans (fg c j a b d e f))
              have sw : so w = sof S P vw w s := by rw [hso, e]
              by_cases et : t = so w
              · right
                refine ⟨?_, w, by omega, hf, et.symm⟩
                rw [et, sw]
                exact st_eq h8'
              · have ne : mG m8 163 (t : Int) = mG m4 163 (t : Int) := by
                  rw [st_ne h8' (fun y => et (by have := y.2; omega))]
                  exact g7 _
                rw [ne]
                rcases tg t ht with ⟨u1, u2⟩ | ⟨u1, u2⟩
                · left
                  refine ⟨u1, ?_⟩
                  rintro ⟨u, x1, x2, x3⟩
                  by_cases eu : u = w
                  · rw [eu] at x3; exact et x3.symm
                  · exact u2 ⟨u, by omega, x2, x3⟩
                · right
                  obtain ⟨u, x1, x2, x3⟩ := u2
                  exact ⟨u1, u, by omega, x2, x3⟩
            have s1 : s < K := by omega
            have g0 : ∀ m8, FT9 m4 m8 → LW S (phw S.nf w) m8 → (∀ j, mG m8 163 j = mG m4 163 j) → (vw.testBit s && TMw S (P s) w) = false → pw (mX9_findTogether_125 (mX9_findTogether_37 fu) (mX9_findTogether_87 (mX9_findTogether_37 fu) fu2) 126 g as (vw : Int) (w : Int) (s : Int) ((sof S P vw w s : Nat) : Int) m8) Q := fun m8 f8 lw8 g8 hz => by
              unfold mX9_findTogether_125 mX9_findTogether_126
              rw [wI_s (p := s) (by omega), show (0 : Int) = ((0 : Nat) : Int) from rfl, ior_nn (by omega) (by omega), Nat.or_zero]
              have i := ih2 (s + 1) m8 (by omega) f8 lw8 g8
              have e : sof S P vw w (s + 1) = sof S P vw w s := by
                show (bitsOf _ s ||| (if (vw.testBit s && TMw S (P s) w) = true then 2 ^ s else 0)) = _
                rw [hz, if_neg (by decide), Nat.or_zero]; rfl
              rw [e] at i
              exact i
            refine p_if (fun c4 => g0 m7 f7 lw7 g7 (by rw [(ibit (x := vw) (k := s) (by omega) (by omega)).mp c4]; rfl)) (fun c4 => ?_)
            have vb : vw.testBit s = true := by
              cases e : vw.testBit s with
              | true => rfl
              | false => exact absurd ((ibit (x := vw) (k := s) (by omega) (by omega)).mpr e) c4
            obtain ⟨r1, r2, r3⟩ := r7.2.2 s (by omega)
            refine p_gK (p_call (w_means (t := (s : Int)) ok (RM.mk ok r7.1.1 r7.1.2 lw7 r1) (by omega) r2 r3) (fun v m8 y => ?_))
            obtain ⟨⟨y5, y6⟩, y7⟩ := y
            replace y6 : FM m7 m8 := y6
            replace y7 : v = b2i (TMw S (P s) w) := y7
            have f8 : FT9 m4 m8 := f7.tr y6.fi.ft
            have g8 : ∀ j, mG m8 163 j = mG m4 163 j := fun j => (y6 163 j (by omega) (by decide) (by decide)).trans (g7 j)
            refine p_if (fun c5 => g0 m8 f8 y5.2.2.2.1 g8 (by rw [b2i_0.mp (y7.symm.trans c5), Bool.and_false])) (fun c5 => ?_)
            have tm : TMw S (P s) w = true := by
              cases e : TMw S (P s) w with
              | true => rfl
              | false => rw [e] at y7; exact absurd y7 c5
            have ps : 2 ^ s ≤ 2 ^ 7 := Nat.pow_le_pow_right (n := 2) (by decide) (by omega)
            unfold mX9_findTogether_126
            rw [wI_s (p := s) (by omega), ishl1 s (by omega), show (2 : Int) ^ s = ((2 ^ s : Nat) : Int) by simp, ior_nn (by omega) (by omega)]
            have i := ih2 (s + 1) m8 (by omega) f8 y5.2.2.2.1 g8
            have e : sof S P vw w (s + 1) = sof S P vw w s ||| 2 ^ s := by
              show (bitsOf _ s ||| (if (vw.testBit s && TMw S (P s) w) = true then 2 ^ s else 0)) = _
              rw [vb, tm, if_pos (show (true && true) = true from rfl)]; rfl
            rw [e] at i
            exact i
        unfold mX9_findTogether_81
        exact l87 FU 0 m6 (Nat.zero_le _) f5 lw g5
      refine p_if (fun c3 => go ?_) (fun c3 => ?_)
      · rw [hfr]; unfold frw; rw [ak, decide_eq_true c3]; rfl
      · have hg2 : 0 ≤ g ∧ g < (n : Int) := hg.resolve_left c3
        have ph := lw g hg2.1 (by omega)
        rw [hn] at ph
        refine p_gFc (ji := 28) rfl r5.1.1.c28 (p_aGc ph ?_)
        have fw : fr w = !(phw (n : Int) w g == bs) := by rw [hfr]; unfold frw; rw [ak, decide_eq_false c3]; rfl
        refine p_if (fun c4 => skip m6 f5 g5 ?_) (fun c4 => go ?_)
        · rw [fw]
          rw [has] at c4
          cases e : phw (n : Int) w g <;> cases e2 : bs <;> rw [e, e2] at c4 <;> first | rfl | exact absurd c4 (by decide)
        · rw [fw]
          rw [has] at c4
          cases e : phw (n : Int) w g <;> cases e2 : bs <;> rw [e, e2] at c4 <;> first | rfl | exact absurd rfl c4
  unfold mX9_findTogether
  refine p_gK (p_call (v_told a1 (by rw [e1]; exact h8)) (fun v m1 y => ?_))
  obtain ⟨y1, y2⟩ := y
  replace y1 : m1 = m := y1
  replace y2 : v = ((tvb m : Nat) : Int) := y2
  subst y1
  rw [e2] at y2
  subst y2
  have l8 : ∀ (fu t : Nat) (m2 : Mem), t ≤ 256 → (∀ c j : Int, ¬ c = 163 → mG m2 c j = mG m1 c j) → (∀ x : Nat, x < t → mG m2 163 (x : Int) = 0) → pw (mX9_findTogether_8 fu 126 g as (vw : Int) (t : Int) m2) Q := by
    intro fu
    induction fu with
    | zero => intro t m2 _ _ _; exact p_none
    | succ fu ih =>
      intro t m2 ht g2 hz
      show pw (bX9_findTogether_8 (mX9_findTogether_8 fu) 126 g as (vw : Int) (t : Int) m2) _
      have k2 : K9 m2 := a1.kp (fun j _ => g2 126 j (by decide))
      unfold bX9_findTogether_8
      refine p_if (fun c => ?_) (fun c => ?_)
      · have kn2 : KNO S m2 := by
          refine ⟨by rw [g2 146 0 (by decide)]; exact a3.1, fun k hk => ?_⟩
          rw [g2 146 0 (by decide)] at hk
          rw [g2 147 _ (by decide), g2 148 _ (by decide)]
          exact a3.2 k hk
        have ek : knR S m2 = F := by
          rw [← e3]
          funext p
          unfold knR
          rw [g2 131 0 (by decide), g2 132 0 (by decide), g2 146 0 (by decide), show mG m2 147 = mG m1 147 from funext (fun j => g2 147 j (by decide)), show mG m2 148 = mG m1 148 from funext (fun j => g2 148 j (by decide)), show mG m2 149 = mG m1 149 from funext (fun j => g2 149 j (by decide))]
        refine p_gK (p_call (v_findKnown ok hn n12 k2 (a2.kp (fun c j hc => g2 c j (by omega))) kn2) (fun v m3 y => ?_))
        obtain ⟨y3, y4, y5⟩ := y
        rw [ek] at y3 y4
        replace y3 : mG m3 126 49 = ((kbs F n : Nat) : Int) := y3
        replace y4 : mG m3 126 50 = ((kss F n : Nat) : Int) := y4
        replace y5 : FK m2 m3 := y5
        have g3 : ∀ c j : Int, ¬ c = 126 → ¬ c = 163 → mG m3 c j = mG m1 c j := fun c j x y => (y5 c j (fun w => x w.1)).trans (g2 c j y)
        have rt : RTg S P (K : Int) F n m3 := ⟨⟨k2.kp (fun j hj => y5 126 j (fun w => by omega)), a2.kp (fun c j hc => g3 c j (by omega) (by omega))⟩, ⟨(g3 138 0 (by decide) (by decide)).trans (e1.trans hK), y3, y4⟩, fun s hs => ⟨⟨(g3 141 _ (by decide) (by decide)).trans (a4 s (by omega)).1.1, fun i r hr => ((a4 s (by omega)).1.2 i r hr).kp (fun c c0 c1 => g3 c _ (by omega) (by omega))⟩, (a4 s (by omega)).2⟩⟩
        refine l37 FU 0 m3 (Nat.zero_le _) rt (fun x hx => Or.inl ⟨?_, ?_⟩) (fun c j a b d e f => g3 c j a f)
        · rw [y5 163 _ (fun w => absurd w.1 (by decide))]
          exact hz x (by omega)
        · rintro ⟨u, u1, _⟩
          omega
      · refine p_gFc (ji := 55) rfl k2.c55 (p_aSZ (fun m3 h3 => ?_))
        rw [wI_s (p := t) (by omega)]
        refine ih (t + 1) m3 (by omega) (fun c j x => (st_ne h3 (fun w => x w.1)).trans (g2 c j x)) (fun x hx => ?_)
        by_cases e : x = t
        · rw [e]; exact st_eq h3
        · rw [st_ne h3 (fun w => e (by have := w.2; omega))]
          exact hz x (by omega)
  exact l8 FU 0 m1 (by omega) (fun _ _ _ => rfl) (fun x hx => absurd hx (by omega))
end
