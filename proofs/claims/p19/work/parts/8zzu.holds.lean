section
/-! ===== the reference asks the guess; holds alike ===== -/
theorem ty_ne {nr : Int} {k1 k2 : Int → Int} {x : Int × Int} {ws : List (Int × Int)} : ∀ ps : List Row, ty nr k1 k2 (x :: ws) ps → ¬ ps.length = 0 := by
  intro ps h
  cases ps with
  | nil => exact absurd h (List.cons_ne_nil _ _)
  | cons r rs => exact Nat.succ_ne_zero _
theorem RT.ff {ps : List Row} {t : Int} {M M' : Mem} (h : RT ps t M) (k : FIF M M') : RT ps t M' :=
  ⟨(k 141 t (by omega) (by decide) (by decide) (by decide) (by decide)).trans h.1, fun i r hr => (h.2 i r hr).kp (fun c c0 c1 => k c _ (by omega) (by omega) (by omega) (by omega) (by omega))⟩
theorem ctn_cast {f g : Nat → Bool} {N : Nat} (h : ∀ k, k < N → f k = g k) : ((ctn f N : Nat) : Int) = ((ctn g N : Nat) : Int) := by rw [ctn_congr N h]
section
variable {S : SH} {P : Nat → List Row} {M : Mem} {n : Nat}
/-- whether the guess is so in a world that is laid out -/
theorem v_gmeans {w : Nat} {ps : List Row} (ok : S.ok) (k9 : K9 M) (rs : RSH S M) (lw : LW S (phw S.nf w) M) (rt : RT ps 8 M) (hl : ps.length ≤ 40) (hty : ty S.nr S.k1 S.k2 [(0, 255)] ps) : pw (mX9_means 126 8 M) (fun q => FM M q.2 ∧ q.1 = b2i (TMw S ps w)) :=
  p_mono (w_means ok (RM.mk ok k9 rs lw rt) (by decide) hl hty) (fun q y => ⟨y.1.2, y.2⟩)
theorem v_holds41 {K : Nat} {ps : List Row} {l : Int} {vw : Nat} {F : Int → Int} (ok : S.ok) (hn : S.nf = (n : Int)) (n12 : n ≤ 12) (hF : ∀ p, F p = -1 ∨ F p = 0 ∨ F p = 1) (K8 : K ≤ 8) (hv : vw < 256) (hl : ps.length ≤ 40) (hty : ty S.nr S.k1 S.k2 [(0, 255)] ps) {G H : Nat → Bool} (hG : G = fun w => if l = 0 then WDr S P K vw F n w else (WDr S P K vw F n w && isF S n w)) (hH : H = fun w => G w && TMw S ps w) : ∀ (fu w : Nat) (m : Mem), w ≤ 2 ^ n → RWd S P (K : Int) vw F n m → RT ps 8 m → pw (mX9_holds_41 fu 126 l ((ctn H w : Nat) : Int) (w : Int) m) (fun q => q.1 = ((ctn H (2 ^ n) : Nat) : Int)) := by
  have p12 : 2 ^ n ≤ 2 ^ 12 := Nat.pow_le_pow_right (n := 2) (by decide) n12
  obtain ⟨Q, hQ⟩ : ∃ Q : Int × Mem → Prop, Q = fun q => q.1 = ((ctn H (2 ^ n) : Nat) : Int) := ⟨_, rfl⟩
  rw [← hQ]
  intro fu
  induction fu with
  | zero => intro w m _ _ _; exact p_none
  | succ fu ih =>
    intro w m hw r4 t4
    show pw (bX9_holds_41 (mX9_holds_41 fu) 126 l _ (w : Int) m) Q
    unfold bX9_holds_41
    refine p_gK (p_call (v_manyFacts ok r4.1.1 r4.1.2) (fun v m5 y => ?_))
    obtain ⟨y6, y7⟩ := y
    replace y6 : m5 = m := y6
    replace y7 : v = S.nf := y7
    subst y6
    rw [hn] at y7
    subst y7
    rw [ishl1 n (by omega), show (2 : Int) ^ n = ((2 ^ n : Nat) : Int) by simp]
    refine p_if (fun c => p_ret ?_) (fun c => ?_)
    · rw [hQ]
      show ((ctn H w : Nat) : Int) = _
      rw [show w = 2 ^ n by omega]
    have cl := ctn_le H w
    have fin : ∀ (x : Int) (m6 : Mem), RWd S P (K : Int) vw F n m6 → RT ps 8 m6 → x = b2i (H w) → pw (mX9_holds_89 (mX9_holds_41 fu) 126 l (w : Int) ((ctn H w : Nat) : Int) x m6) Q := fun x m6 r6 t6 hx => by
      unfold mX9_holds_89
      have bb := b2i_b (H w)
      rw [wI_s (p := w) (by omega), wI_id (x := ((ctn H w : Nat) : Int) + x) (by omega) (by omega), hx, b2i_n, ← Int.natCast_add, ← ctn_s]
      exact ih (w + 1) m6 (by omega) r6 t6
    have mid : ∀ (v : Int) (m6 : Mem), FIF m5 m6 → v = b2i (G w) → (v = 1 → LW S (phw S.nf w) m6) → pw (if v = 0 then mX9_holds_88 (mX9_holds_41 fu) 126 l (w : Int) ((ctn H w : Nat) : Int) m6 else mX9_holds_75 (mX9_holds_41 fu) 126 l (w : Int) ((ctn H w : Nat) : Int) m6) Q := fun v m6 ff hv2 hlw => by
      have r6 := r4.ff ff
      have t6 := t4.ff ff
      refine p_if (fun c2 => ?_) (fun c2 => ?_)
      · unfold mX9_holds_88
        refine fin 0 m6 r6 t6 ?_
        have gf : G w = false := b2i_0.mp (hv2.symm.trans c2)
        rw [hH]
        show (0 : Int) = b2i (G w && TMw S ps w)
        rw [gf]; rfl
      · have gt : G w = true := by
          cases e : G w with
          | true => rfl
          | false => rw [e] at hv2; exact absurd hv2 c2
        unfold mX9_holds_75
        refine p_gK (p_call (v_gmeans ok r6.1.1 r6.1.2 (hlw (by rw [hv2, gt]; rfl)) t6 hl hty) (fun u m7 y => ?_))
        obtain ⟨y1, y2⟩ := y
        replace y1 : FM m6 m7 := y1
        replace y2 : u = b2i (TMw S ps w) := y2
        have eH : b2i (H w) = u := by
          rw [y2, hH]
          show b2i (G w && TMw S ps w) = _
          rw [gt]; rfl
        have r7 := r6.fi y1.fi
        have t7 := t6.fi y1.fi
        have bb := b2i_b (TMw S ps w)
        refine p_if (fun c3 => ?_) (fun c3 => ?_)
        · unfold mX9_holds_88
          exact fin 0 m7 r7 t7 (by rw [eH]; exact c3.symm)
        · replace c3 : ¬ u = 0 := c3
          exact fin 1 m7 r7 t7 (by omega)
    refine p_if (fun c0 => p_gK (p_call (v_isWorld (w := w) ok hn n12 (by omega) hF K8 hv r4) (fun v m6 y => ?_))) (fun c0 => p_gK (p_call (v_isForm (w := w) ok hn n12 (by omega) hF K8 hv r4) (fun v m6 y => ?_)))
    · obtain ⟨y8, y9, y10⟩ := y
      replace y8 : FI m5 m6 := y8
      replace y9 : v = b2i (WDr S P K vw F n w) := y9
      exact mid v m6 (fun c j a b d e _ => y8 c j a b d e) (by
        rw [hG]
        show v = b2i (if l = 0 then _ else _)
        rw [if_pos c0]; exact y9) y10
    · obtain ⟨y8, y9, y10⟩ := y
      replace y8 : FIF m5 m6 := y8
      replace y9 : v = b2i (WDr S P K vw F n w && isF S n w) := y9
      exact mid v m6 y8 (by
        rw [hG]
        show v = b2i (if l = 0 then _ else _)
        rw [if_neg c0]; exact y9) y10
theorem v_holds {K : Nat} {ps : List Row} {l : Int} (ok : S.ok) (hn : S.nf = (n : Int)) (rf : RFB S P M) (hK : mG M 138 0 = (K : Int)) (g : ¬ mG M 141 8 = 0) (rt : RT ps 8 M) (hl : ps.length ≤ 40) (hty : ty S.nr S.k1 S.k2 [(0, 255)] ps) : pw (mX9_holds 126 l M) (fun q => (12 < n ∧ q.1 = -1) ∨ (n ≤ 12 ∧ ((¬ (l = 0 ∨ l = 1) ∧ q.1 = -1) ∨ (l = 0 ∧ q.1 = ((ctn (fun w => WDr S P K (tvb M) (knR S M) n w && TMw S ps w) (2 ^ n) : Nat) : Int)) ∨ (l = 1 ∧ q.1 = ((ctn (fun w => (WDr S P K (tvb M) (knR S M) n w && isF S n w) && TMw S ps w) (2 ^ n) : Nat) : Int))))) := by
  have h8 := rf.2.2.2.1
  have K8 : K ≤ 8 := by omega
  have vl := tvb_lt hK
  have p8 : 2 ^ K ≤ 2 ^ 8 := Nat.pow_le_pow_right (n := 2) (by decide) K8
  have hF : ∀ p, knR S M p = -1 ∨ knR S M p = 0 ∨ knR S M p = 1 := fun p => knf_rg _ _ _ _ _ _
  unfold mX9_holds
  refine p_pF (ji := 0) rfl (fun m1 h1 => ?_)
  have g1 : ∀ c j : Int, ¬ c = 126 → mG m1 c j = mG M c j := fun c j x => st_ne h1 (fun w => x w.1)
  have k1 : K9 m1 := rf.1.kp (fun j hj => st_ne h1 (fun w => by omega))
  refine p_gFc (ji := 15) rfl k1.c15 (p_aGc (g1 141 8 (by decide)) (p_it0 g (p_gK (p_call (v_can ok rf k1 (fun c j x _ _ => g1 c j x)) (fun v m2 y => ?_)))))
  obtain ⟨rb, y⟩ := y
  rcases y with ⟨z1, z2⟩ | ⟨z1, z2⟩
  · exact p_it1 z2 (p_ret (Or.inl ⟨by omega, rfl⟩))
  replace z2 : v = 1 := z2
  have n12 : n ≤ 12 := by omega
  refine p_it0 (show ¬ v = 0 by omega) (p_call pr_in (fun b m3 y => ?_))
  obtain ⟨y1, y2⟩ := y
  replace y1 : m3 = m2 := y1
  subst y1
  rcases y2 with ⟨b1, b2, b3⟩ | ⟨b1, b2⟩
  · replace b1 : b = 1 := b1
    refine p_it0 (show ¬ b = 0 by omega) (p_gK (p_call (v_prep ok hn n12 h8 rb) (fun v m4 y => ?_)))
    obtain ⟨r4, g4⟩ := y
    rw [hK] at r4
    replace r4 : RWd S P (K : Int) (tvb M) (knR S M) n m4 := r4
    replace g4 : ∀ c j : Int, ¬ (c = 126 ∧ (j = 48 ∨ j = 49 ∨ j = 50)) → mG m4 c j = mG m3 c j := g4
    have t4 : RT ps 8 m4 := ⟨(g4 141 8 (by decide)).trans ((rb.2.2 141 8 (by decide) (by decide) (by decide)).trans rt.1), fun i r hr => (rt.2 i r hr).kp (fun c c0 c1 => (g4 c _ (by omega)).trans (rb.2.2 c _ (by omega) (by omega) (by omega)))⟩
    refine p_mono (v_holds41 (l := l) ok hn n12 hF K8 (by omega) hl hty rfl rfl FU 0 m4 (Nat.zero_le _) r4 t4) (fun q y => Or.inr ⟨n12, Or.inr ?_⟩)
    by_cases e : l = 0
    · refine Or.inl ⟨e, y.trans ?_⟩
      exact ctn_cast (fun w hw => by
        show ((if l = 0 then _ else _) && _) = _
        rw [if_pos e])
    · refine Or.inr ⟨by omega, y.trans ?_⟩
      exact ctn_cast (fun w hw => by
        show ((if l = 0 then _ else _) && _) = _
        rw [if_neg e])
  · exact p_it1 b1 (p_ret (Or.inr ⟨n12, Or.inl ⟨by omega, rfl⟩⟩))
end
theorem eq_holds {l : Int} {M : Mem} (h : JB M) : pw (mX8_holds 1 l M) (fun q1 => pw (mX9_holds 126 l q1.2) (fun q2 => EQ q1 q2)) := by
  obtain ⟨P, n, ok, hn, k2, sh, tp, rf, ve, vlt, h1, hlk⟩ := look h.1
  have iM := h.1.1.1.1
  obtain ⟨K, hK⟩ := Int.eq_ofNat_of_zero_le rf.2.2.2.1.1
  have h8 := rf.2.2.2.1
  rw [hK, Int.toNat_natCast] at vlt
  rcases guess_P h.1 with ⟨a, b⟩ | ⟨g0, ps, tt, rt, hty⟩
  · have c : pw (mX8_holds 1 l M) (fun q => q.1 = -1 ∧ q.2 = M) := by
      unfold mX8_holds
      refine p_if (fun _ => ?_) (fun _ => p_if (fun _ => ?_) (fun _ => p_ret ⟨rfl, rfl⟩))
      · unfold mX4_countGuessWorlds
        exact p_gFc (ji := 0) rfl h1.1 (p_gK (p_call (P := fun q => q.1 = -1 ∧ q.2 = M) (p_gFc (ji := 0) rfl k2.c2_0 (p_gFc (ji := 12) rfl rfl (p_it1 a (p_ret ⟨rfl, rfl⟩)))) (fun v m e => p_ret e)))
      · unfold mX4_countGuessForms
        exact p_gFc (ji := 0) rfl h1.1 (p_gK (p_call (P := fun q => q.1 = -1 ∧ q.2 = M) (p_gFc (ji := 0) rfl k2.c2_0 (p_gFc (ji := 12) rfl rfl (p_it1 a (p_ret ⟨rfl, rfl⟩)))) (fun v m e => p_ret e)))
    refine p_mono c (fun q1 y => ?_)
    rw [y.2]
    have r : pw (mX9_holds 126 l M) (fun q => q.1 = -1) := by
      unfold mX9_holds
      refine p_pF (ji := 0) rfl (fun m1 h1 => ?_)
      have k1 : K9 m1 := rf.1.kp (fun j hj => st_ne h1 (fun w => by omega))
      exact p_gFc (ji := 15) rfl k1.c15 (p_aGc ((st_ne h1 (fun w => absurd w.1 (by decide))).trans b) (p_it1 rfl (p_ret rfl)))
    exact p_mono r (fun q2 z => y.1.trans z.symm)
  · have main : pw (mX8_holds 1 l M) (fun q => F9 M q.2 ∧ ((12 < n ∧ q.1 = -1) ∨ (n ≤ 12 ∧ ((¬ (l = 0 ∨ l = 1) ∧ q.1 = -1) ∨ (l = 0 ∧ q.1 = ((ctn (fun w => WDw (shp M) P (vwb M) (knR (shp M) M) w && TMw (shp M) ps w) (2 ^ n) : Nat) : Int)) ∨ (l = 1 ∧ q.1 = ((ctn (fun w => (WDw (shp M) P (vwb M) (knR (shp M) M) w && isF (shp M) n w) && TMw (shp M) ps w) (2 ^ n) : Nat) : Int)))))) := by
      unfold mX8_holds
      refine p_if (fun c => ?_) (fun c => p_if (fun c2 => ?_) (fun c2 => p_ret ⟨fun _ _ _ _ => rfl, ?_⟩))
      · refine p_gFc (ji := 0) rfl h1.1 (p_gK (p_call (q_gworlds ok hn k2 sh h.2 g0 tt hty hlk) (fun v m y => p_ret ⟨fun c j c0 _ => y.1.2 c j (by omega), ?_⟩)))
        rcases y.2 with z | ⟨z1, z2⟩
        · exact Or.inl z
        · exact Or.inr ⟨z1, Or.inr (Or.inl ⟨c, z2⟩)⟩
      · refine p_gFc (ji := 0) rfl h1.1 (p_gK (p_call (q_gforms ok hn iM sh h.2 g0 tt hty hlk) (fun v m y => p_ret ⟨fun c j c0 _ => y.1.2 c j (by omega), ?_⟩)))
        rcases y.2 with z | ⟨z1, z2⟩
        · exact Or.inl z
        · exact Or.inr ⟨z1, Or.inr (Or.inr ⟨c2, z2⟩)⟩
      · rcases Nat.lt_or_ge 12 n with z | z
        · exact Or.inl ⟨z, rfl⟩
        · exact Or.inr ⟨z, Or.inl ⟨by omega, rfl⟩⟩
    refine p_mono main (fun q1 y => ?_)
    obtain ⟨g, y⟩ := y
    obtain ⟨rf2, e1, e2, e3⟩ := rf.f9 (M' := q1.2) g
    have rt2 : RT ps 8 q1.2 := ⟨(g 141 8 (by decide) (by decide)).trans rt.1, fun i r hr => (rt.2 i r hr).kp (fun c c0 c1 => g c _ (by omega) (by omega))⟩
    have gz : ¬ mG q1.2 141 8 = 0 := by
      have := ty_ne ps hty
      rw [rt2.1]
      omega
    refine p_mono (v_holds (l := l) ok hn rf2 (e3.trans hK) gz rt2 tt.1.1 hty) (fun q2 z => ?_)
    rw [e1, e2, ve] at z
    show q1.1 = q2.1
    rcases y with ⟨a, b⟩ | ⟨a, b⟩
    · rcases z with ⟨c, d⟩ | ⟨c, d⟩
      · rw [b, d]
      · omega
    · rcases z with ⟨c, d⟩ | ⟨c, d⟩
      · omega
      · rcases b with ⟨b1, b2⟩ | ⟨b1, b2⟩ | ⟨b1, b2⟩
        · rcases d with ⟨_, d2⟩ | ⟨d1, _⟩ | ⟨d1, _⟩
          · rw [b2, d2]
          · omega
          · omega
        · rcases d with ⟨d1, _⟩ | ⟨_, d2⟩ | ⟨d1, _⟩
          · omega
          · rw [b2, d2]
            exact ctn_cast (fun w hw => by
              show (WDw (shp M) P (vwb M) (knR (shp M) M) w && _) = _
              rw [wd_eq hn vlt (by omega) hw])
          · omega
        · rcases d with ⟨d1, _⟩ | ⟨d1, _⟩ | ⟨_, d2⟩
          · omega
          · omega
          · rw [b2, d2]
            exact ctn_cast (fun w hw => by
              show ((WDw (shp M) P (vwb M) (knR (shp M) M) w && _) && _) = _
              rw [wd_eq hn vlt (by omega) hw])
theorem jb_holdsE {l1 : Int} {M : Mem} (r1 : (-2147483648) ≤ l1 ∧ l1 ≤ 2147483647) (h : JB M) : wp (mX8_holds 1 l1 M) (fun q1 => wp (mX9_holds 126 l1 q1.2) (fun q2 => JB q2.2 ∧ EQ q1 q2)) := w_and3 (M := M) (jb_holds r1 h) (eq_holds h)
end
section
/-! ===== the world at hand, on both sides ===== -/
theorem lb_nat (w : Nat) {b : Nat} (hb : b < 64) : lb (w : Int) b = w.testBit b := by
  show (BitVec.ofInt 64 (w : Int)).getLsbD b = _
  rw [BitVec.ofInt_natCast, BitVec.getLsbD_ofNat, decide_eq_true hb, Bool.true_and]
theorem nat_L {w k : Nat} (hk : k ≤ 36) (h : w < 2 ^ k) : InLL (w : Int) ∧ w < 68719476736 := by
  have : 2 ^ k ≤ 2 ^ 36 := Nat.pow_le_pow_right (n := 2) (by decide) hk
  have e : (2 : Nat) ^ 36 = 68719476736 := by decide
  unfold InLL
  omega
/-- the number of the world whose facts are g's -/
def wn (g : Int → Int) (n : Nat) : Nat := bitsOf (fun b => decide (g ((n : Int) - 1 - (b : Int)) = 1)) n
theorem wn_lt (g : Int → Int) (n : Nat) : wn g n < 2 ^ n := bitsOf_lt _ _
theorem wn_b (g : Int → Int) (n b : Nat) : (wn g n).testBit b = (decide (b < n) && decide (g ((n : Int) - 1 - (b : Int)) = 1)) := bitsOf_b _ _ _
theorem wn_congr {g g' : Int → Int} {n : Nat} (h : ∀ f : Int, 0 ≤ f → f < (n : Int) → g f = g' f) : wn g n = wn g' n :=
  bitsOf_congr n (fun i hi => by rw [h ((n : Int) - 1 - (i : Int)) (by omega) (by omega)])
/-- the facts of a number -/
theorem wn_of {g : Int → Int} {n w : Nat} (hw : w < 2 ^ n) (h : ∀ f : Int, 0 ≤ f → f < (n : Int) → g f = b2i (phw (n : Int) w f)) : wn g n = w := by
  apply Nat.eq_of_testBit_eq
  intro b
  rw [wn_b]
  by_cases c : b < n
  · rw [decide_eq_true c, Bool.true_and, h ((n : Int) - 1 - (b : Int)) (by omega) (by omega)]
    unfold phw
    rw [show ((n : Int) - 1 - ((n : Int) - 1 - (b : Int))).toNat = b by omega]
    cases w.testBit b <;> decide
  · rw [decide_eq_false c, Bool.false_and, Nat.testBit_lt_two_pow (Nat.lt_of_lt_of_le hw (Nat.pow_le_pow_right (by decide) (by omega)))]
theorem phw_wn {g : Int → Int} {n : Nat} {f : Int} (h0 : 0 ≤ f) (h1 : f < (n : Int)) : phw (n : Int) (wn g n) f = decide (g f = 1) := by
  unfold phw
  have e : ((n : Int) - 1 - (((n : Int) - 1 - f).toNat : Int)) = f := by omega
  rw [wn_b, e, decide_eq_true (show ((n : Int) - 1 - f).toNat < n by omega), Bool.true_and]
/-! slots -/
def nfs (i : Int) (M : Mem) : Nat := (mG M (sOf i + 1) 7).toNat
def SW (i : Int) (M : Mem) : Prop := (mG M (sOf i) 1 = ((wn (fun f => mG M 137 (36 * i + f)) (nfs i M) : Nat) : Int) ∧ ∀ f : Int, (nfs i M : Int) ≤ f → f < 36 → mG M 137 (36 * i + f) = 0) ∧ ∀ p : Int, 0 ≤ p → p < 4 → ¬ mG M (sOf i + 9) p = 0 → mG M (sOf i + 8) p = ((wn (fun f => mG M 150 (144 * i + 36 * p + f)) (nfs i M) : Nat) : Int)
def SGx (a : Int) (M : Mem) : Prop := (0 ≤ mG M a 6 ∧ mG M a 6 ≤ 4) ∧ ∀ r : Int, 0 ≤ r → r < 4 → (0 ≤ mG M (a + 2) r ∧ mG M (a + 2) r ≤ 2) ∧ (-1 ≤ mG M (a + 3) r ∧ mG M (a + 3) r ≤ 2)
def SX (i : Int) (M : Mem) : Prop := (LO (sOf i + 1) M ∧ SGx (sOf i + 1) M ∧ nfs i M ≤ 36) ∧ SW i M
/-- a world of the class's and one of the reference's go on alike -/
theorem SW.go {i i' : Int} {M M' : Mem} (h : SW i M) (n36 : nfs i M ≤ 36) (e7 : nfs i' M' = nfs i M) (e1 : mG M' (sOf i') 1 = mG M (sOf i) 1) (g8 : ∀ p : Int, 0 ≤ p → p < 4 → mG M' (sOf i' + 8) p = mG M (sOf i + 8) p ∧ mG M' (sOf i' + 9) p = mG M (sOf i + 9) p) (g137 : ∀ f : Int, 0 ≤ f → f < 36 → mG M' 137 (36 * i' + f) = mG M 137 (36 * i + f)) (g150 : ∀ f : Int, 0 ≤ f → f < 144 → mG M' 150 (144 * i' + f) = mG M 150 (144 * i + f)) : SW i' M' := by
  obtain ⟨⟨w1, w2⟩, w3⟩ := h
  refine ⟨⟨?_, fun f f0 f1 => ?_⟩, fun p p0 p1 hp => ?_⟩
  · rw [e1, e7, w1]
    exact congrArg (fun x : Nat => (x : Int)) (wn_congr (fun f f0 f1 => (g137 f f0 (by omega)).symm))
  · rw [e7] at f0
    rw [g137 f (by omega) f1]
    exact w2 f f0 f1
  · rw [(g8 p p0 p1).2] at hp
    rw [(g8 p p0 p1).1, e7, w3 p p0 p1 hp]
    refine congrArg (fun x : Nat => (x : Int)) (wn_congr (fun f f0 f1 => ?_))
    have := g150 (36 * p + f) (by omega) (by omega)
    rw [show 144 * i' + (36 * p + f) = 144 * i' + 36 * p + f by omega, show 144 * i + (36 * p + f) = 144 * i + 36 * p + f by omega] at this
    exact this.symm
theorem SW.fr {i : Int} {M M' : Mem} (h : SW i M) (n36 : nfs i M ≤ 36) (g : ∀ b j : Int, (b = sOf i ∧ j = 1) ∨ (b = sOf i + 1 ∧ j = 7) ∨ b = sOf i + 8 ∨ b = sOf i + 9 ∨ (b = 137 ∧ 36 * i ≤ j ∧ j < 36 * i + 36) ∨ (b = 150 ∧ 144 * i ≤ j ∧ j < 144 * i + 144) → mG M' b j = mG M b j) : SW i M' := by
  refine h.go n36 ?_ (g _ _ (Or.inl ⟨rfl, rfl⟩)) (fun p _ _ => ⟨g _ _ (Or.inr (Or.inr (Or.inl rfl))), g _ _ (Or.inr (Or.inr (Or.inr (Or.inl rfl))))⟩) (fun f f0 f1 => g 137 _ (Or.inr (Or.inr (Or.inr (Or.inr (Or.inl ⟨rfl, by omega, by omega⟩)))))) (fun f f0 f1 => g 150 _ (Or.inr (Or.inr (Or.inr (Or.inr (Or.inr ⟨rfl, by omega, by omega⟩))))))
  unfold nfs
  rw [g (sOf i + 1) 7 (Or.inr (Or.inl ⟨rfl, rfl⟩))]
theorem stC_cpy {a a' : Int} {M M' : Mem} (sg : SGx a M) (g1 : ∀ j : Int, 0 ≤ j → j < 3 → mG M' (a' + 1) j = mG M (a + 1) j) (g2 : ∀ j : Int, 0 ≤ j → j < 4 → mG M' (a' + 2) j = mG M (a + 2) j ∧ mG M' (a' + 3) j = mG M (a + 3) j) : ∀ r : Nat, r ≤ 4 → stC a' M' r = stC a M r := by
  have sz : ∀ k : Int, -1 ≤ k → k ≤ 2 → szC a' M' k = szC a M k := fun k k0 k1 => by
    unfold szC
    by_cases e : k = -1
    · rw [if_pos e, if_pos e]
    · rw [if_neg e, if_neg e]; exact g1 k (by omega) (by omega)
  intro r
  induction r with
  | zero => intro _; rfl
  | succ r ih =>
    intro hr
    have h := sg.2 (r : Int) (by omega) (by omega)
    have e := g2 (r : Int) (by omega) (by omega)
    show stC a' M' r + szC a' M' (mG M' (a' + 2) r) * szC a' M' (mG M' (a' + 3) r) = stC a M r + szC a M (mG M (a + 2) r) * szC a M (mG M (a + 3) r)
    rw [ih (by omega), e.1, e.2, sz (mG M (a + 2) r) (by omega) h.1.2, sz (mG M (a + 3) r) h.2.1 h.2.2]
theorem SX.cpy {n : Nat} {i i' : Int} {M M' : Mem} (h : SX i M) (c : CPY n i i' M M') : SX i' M' := by
  obtain ⟨⟨lo, sg, n36⟩, w⟩ := h
  obtain ⟨_, lo', c6, cf, cd, c9⟩ := c
  have g1 : ∀ j : Int, 0 ≤ j → j < 3 → mG M' (sOf i' + 1 + 1) j = mG M (sOf i + 1 + 1) j := fun j j0 j1 => by
    have := cd 2 j j0 j1
    rw [show sOf i' + 2 = sOf i' + 1 + 1 by omega, show sOf i + 2 = sOf i + 1 + 1 by omega] at this
    exact this
  have g2 : ∀ j : Int, 0 ≤ j → j < 4 → mG M' (sOf i' + 1 + 2) j = mG M (sOf i + 1 + 2) j ∧ mG M' (sOf i' + 1 + 3) j = mG M (sOf i + 1 + 3) j := fun j j0 j1 => by
    have a := cd 3 j j0 j1
    have b := cd 4 j j0 j1
    rw [show sOf i' + 3 = sOf i' + 1 + 2 by omega, show sOf i + 3 = sOf i + 1 + 2 by omega] at a
    rw [show sOf i' + 4 = sOf i' + 1 + 3 by omega, show sOf i + 4 = sOf i + 1 + 3 by omega] at b
    exact ⟨a, b⟩
  have e7 : mG M' (sOf i' + 1) 7 = mG M (sOf i + 1) 7 := by
    rw [lo'.1, lo.1, c6]
    exact stC_cpy sg g1 g2 _ (by have := sg.1; omega)
  have en : nfs i' M' = nfs i M := by unfold nfs; rw [e7]
  refine ⟨⟨lo', ⟨by rw [c6]; exact sg.1, fun r r0 r1 => ?_⟩, by rw [en]; exact n36⟩, w.go n36 en (cf 1 rfl) (fun p p0 p1 => ⟨cd 8 p p0 p1, cd 9 p p0 p1⟩) (fun f f0 f1 => c9 137 36 f (by decide) rfl f0 f1) (fun f f0 f1 => c9 150 144 f (by decide) rfl f0 f1)⟩
  have := g2 r r0 r1
  rw [this.1, this.2]
  exact sg.2 r r0 r1
theorem SX.vf {n : Nat} {i : Int} {M M' : Mem} (h : SX i M) (i0 : 0 ≤ i ∧ i < 4) (g : ∀ b j : Int, VF n i b j → mG M' b j = mG M b j) : SX i M' := by
  obtain ⟨⟨lo, sg, n36⟩, w⟩ := h
  have c : ∀ b j : Int, sOf i ≤ b → b ≤ sOf i + 16 → mG M' b j = mG M b j := fun b j b0 b1 => g b j (Or.inl ⟨b0, b1⟩)
  refine ⟨⟨lo.of (fun b j b0 b1 => c b j (by omega) (by omega)), ⟨by rw [c _ _ (by omega) (by omega)]; exact sg.1, fun r r0 r1 => ?_⟩, ?_⟩, w.fr n36 (fun b j z => ?_)⟩
  · rw [c (sOf i + 1 + 2) r (by omega) (by omega), c (sOf i + 1 + 3) r (by omega) (by omega)]
    exact sg.2 r r0 r1
  · unfold nfs at n36 ⊢
    rw [c _ _ (by omega) (by omega)]; exact n36
  · rcases z with z | z | z | z | ⟨z, z0, z1⟩ | ⟨z, z0, z1⟩
    · exact c b j (by omega) (by omega)
    · exact c b j (by omega) (by omega)
    · exact c b j (by omega) (by omega)
    · exact c b j (by omega) (by omega)
    · subst z
      exact g 137 j (Or.inr (Or.inr ⟨by decide, by rw [show rlen 137 = 36 from rfl]; exact ⟨z0, z1⟩⟩))
    · subst z
      exact g 150 j (Or.inr (Or.inr ⟨by decide, by rw [show rlen 150 = 144 from rfl]; exact ⟨z0, z1⟩⟩))
/-! what stands between two calls -/
def KW (M : Mem) : Prop := ∀ i : Int, alive i M → SW i M
def J4 (M : Mem) : Prop := JB M ∧ KW M
section
variable {M M' : Mem} {n : Nat}
theorem nfs_b {i : Int} (iM : I n M) (i0 : 0 ≤ i) (i1 : i < 4) : nfs i M ≤ 36 ∧ ((nfs i M : Nat) : Int) = mG M (sOf i + 1) 7 := by
  unfold nfs
  have b : 0 ≤ mG M (sOf i + 1) 7 ∧ mG M (sOf i + 1) 7 ≤ 36 := by
    obtain e | e | e | e : i = 0 ∨ i = 1 ∨ i = 2 ∨ i = 3 := by omega
    · subst e; exact rd_Shape_7 iM (a := sOf 0 + 1) rfl
    · subst e; exact rd_Shape_7 iM (a := sOf 1 + 1) rfl
    · subst e; exact rd_Shape_7 iM (a := sOf 2 + 1) rfl
    · subst e; exact rd_Shape_7 iM (a := sOf 3 + 1) rfl
  omega
theorem KW.sx (iM : I n M) (rel : Rel M) (h : KW M) {i : Int} (a : alive i M) : SX i M := by
  have sr := rel.1 i a.1 a.2.1 a.2.2
  have sg : SG (sOf i + 1) M := I.sg iM (by
    unfold isShape
    obtain e | e | e | e : i = 0 ∨ i = 1 ∨ i = 2 ∨ i = 3 := by have := a.1; have := a.2.1; omega
    · subst e; decide
    · subst e; decide
    · subst e; decide
    · subst e; decide)
  exact ⟨⟨sr.2.2.2.1, ⟨sg.2.1, fun r _ _ => ⟨sg.2.2.2.1 r, sg.2.2.2.2 r⟩⟩, (nfs_b iM a.1 a.2.1).1⟩, h i a⟩
/-- slot 0 is told anew, the images are as they were -/
theorem KW.r0 (iM : I n M) (h : KW M) (h0 : SW 0 M') (g : ∀ b j : Int, (74 ≤ b ∧ b ≤ 125) ∨ b = 169 ∨ (b = 137 ∧ 36 ≤ j) ∨ (b = 150 ∧ 144 ≤ j) → mG M' b j = mG M b j) : KW M' := fun i ai => by
  obtain ⟨a0, a1, a2⟩ := ai
  rcases sOf_c a0 a1 with ⟨e, _⟩ | ⟨e, e2⟩
  · rw [e]; exact h0
  · rw [g 169 _ (Or.inr (Or.inl rfl))] at a2
    refine (h i ⟨a0, a1, a2⟩).fr (nfs_b iM a0 a1).1 (fun b j z => ?_)
    rw [e2] at z
    rcases z with z | z | z | z | ⟨z, z0, z1⟩ | ⟨z, z0, z1⟩
    · exact g b j (Or.inl (by omega))
    · exact g b j (Or.inl (by omega))
    · exact g b j (Or.inl (by omega))
    · exact g b j (Or.inl (by omega))
    · exact g b j (Or.inr (Or.inr (Or.inl ⟨z, by omega⟩)))
    · exact g b j (Or.inr (Or.inr (Or.inr ⟨z, by omega⟩)))
/-- the cells that the worlds are in -/
def WX8 (b j : Int) : Prop := (b = 3 ∧ j = 1) ∨ (b = 4 ∧ j = 7) ∨ (11 ≤ b ∧ b ≤ 12) ∨ (74 ≤ b ∧ b ≤ 125)
theorem KW.fr (iM : I n M) (h : KW M) (g : ∀ b j : Int, WX8 b j ∨ b = 137 ∨ b = 150 ∨ b = 169 → mG M' b j = mG M b j) : KW M' :=
  h.r0 iM ((h 0 ⟨by decide, by decide, Or.inl rfl⟩).fr (nfs_b iM (by decide) (by decide)).1 (fun b j z => g b j (by
    rw [sOf_0] at z
    rcases z with z | z | z | z | z | z
    · exact Or.inl (Or.inl z)
    · exact Or.inl (Or.inr (Or.inl z))
    · exact Or.inl (Or.inr (Or.inr (Or.inl ⟨by omega, by omega⟩)))
    · exact Or.inl (Or.inr (Or.inr (Or.inl ⟨by omega, by omega⟩)))
    · exact Or.inr (Or.inl z.1)
    · exact Or.inr (Or.inr (Or.inl z.1))))) (fun b j z => g b j (by
    rcases z with z | z | z | z
    · exact Or.inl (Or.inr (Or.inr (Or.inr z)))
    · exact Or.inr (Or.inr (Or.inr z))
    · exact Or.inr (Or.inl z.1)
    · exact Or.inr (Or.inr (Or.inl z.1))))
theorem w_p2 {x : Option (Int × Mem)} {y : Mem → Option (Int × Mem)} {A : Int × Mem → Int × Mem → Prop} (h : wp x (fun q1 => wp (y q1.2) (A q1))) : pw x (fun q1 => pw (y q1.2) (A q1)) := p_mono (p_wp h) (fun _ z => p_wp z)
/-- a call that leaves the worlds alone -/
theorem J4.un {x : Option (Int × Mem)} {y : Mem → Option (Int × Mem)} {W9 : Int → Int → Prop} {P9 : Int × Mem → Prop} (h : J4 M) (hj : wp x (fun q1 => wp (y q1.2) (fun q2 => JB q2.2))) (hx : pw x (fun q => (∃ n, I n q.2) ∧ F9 M q.2)) (gx : pw x (fun q => ∀ b j : Int, WX8 b j → mG q.2 b j = mG M b j)) (hy : ∀ n M1, WF M1 → I n M1 → wp (y M1) (fun q => I n q.2 ∧ Keep n W9 M1 q.2 ∧ P9 q)) (d9 : ∀ b j, W9 b j → (126 ≤ b ∧ b ≤ 168) ∧ ¬ b = 137 ∧ ¬ b = 150) : wp x (fun q1 => wp (y q1.2) (fun q2 => J4 q2.2)) := by
  have iM := h.1.1.1.1.1
  have wf := h.1.1.1.1.2.1
  have k : pw x (fun q1 => pw (y q1.2) (fun q2 => KW q2.2)) := by
    refine p_mono (p_and hx gx) ?_
    rintro q1 ⟨⟨⟨n, i1⟩, f9⟩, gx⟩
    have wf1 : WF q1.2 := WF_of wf (fun j => f9 _ j (by decide) (by decide)) (fun j => f9 _ j (by decide) (by decide)) (fun j => f9 _ j (by decide) (by decide)) (fun j => f9 _ j (by decide) (by decide)) (fun j => f9 _ j (by decide) (by decide))
    refine p_mono (p_wp (hy n q1.2 wf1 i1)) ?_
    rintro q2 ⟨i2, k2, -⟩
    have hn : (169 : Int) ≤ (n : Int) := by have := i1.2.2.2.2.1; omega
    have k9 : ∀ b j : Int, b ≤ 169 → (b < 126 ∨ b = 137 ∨ b = 150 ∨ b = 169) → mG q2.2 b j = mG q1.2 b j := fun b j hb hc => k2.2.2 b j (by omega) (fun z => by have := d9 b j z; omega)
    refine h.2.fr iM (fun b j z => ?_)
    rcases z with z | z
    · rw [k9 b j (by unfold WX8 at z; omega) (by unfold WX8 at z; omega)]
      exact gx b j z
    · rw [k9 b j (by omega) (by omega)]
      exact f9 b j (by omega) (by omega)
  exact w_and3 (M := M) hj k
theorem gx_of {x : Option (Int × Mem)} {W : Int → Int → Prop} {P : Int × Mem → Prop} (h : J4 M) (hx : wp x (fun q => I (mN M) q.2 ∧ Keep (mN M) W M q.2 ∧ P q)) (d : ∀ b j, W b j → ¬ WX8 b j) : pw x (fun q => ∀ b j : Int, WX8 b j → mG q.2 b j = mG M b j) :=
  p_mono (p_wp hx) (fun q y b j z => y.2.1.2.2 b j (by
    have := h.1.1.1.1.1.2.2.2.2.1
    unfold WX8 at z
    omega) (fun w => d b j w z))
end
end
section
/-! ===== the worlds: images, what is cleared, what is kept ===== -/
section
variable {M M' : Mem} {n : Nat} {l l1 l2 : Int}
/-- both sides alike, and the worlds -/
theorem J4.sp {M : Mem} {x : Option (Int × Mem)} {y : Mem → Option (Int × Mem)} (hb : wp x (fun q1 => wp (y q1.2) (fun q2 => JB q2.2))) (he : wp x (fun q1 => wp (y q1.2) (fun q2 => J2 q2.2 ∧ EQ q1 q2))) (kp : pw x (fun q1 => pw (y q1.2) (fun q2 => EQ q1 q2 → KW q2.2))) : wp x (fun q1 => wp (y q1.2) (fun q2 => J4 q2.2)) :=
  w_mono (w_and4 (M := M) (w_and3 (M := M) hb (w_p2 he)) (p_mono kp (fun q1 z => p_mono z (fun q2 y a => y a.2.2)))) (fun q1 z => w_mono z (fun q2 y => ⟨y.1.1, y.2⟩))
theorem j4_image (r1 : (-2147483648) ≤ l ∧ l ≤ 2147483647) (h : J4 M) : wp (mX8_image 1 l M) (fun q1 => wp (mX9_image 126 l q1.2) (fun q2 => J4 q2.2)) := by
  have jj := h.1.1.1.1
  exact J4.sp (M := M) (jb_image r1 h.1) (j2_image r1 h.1.1.1) (p_mono (img_gen (P := SX) r1 jj (fun i a => KW.sx jj.1 jj.2.2 h.2 a) (fun i i' M' _ _ s c => s.cpy c) (fun i M' i0 i1 s g => s.vf ⟨i0, i1⟩ g)) (fun q1 z => p_mono z (fun q2 y e i a => (y e i a).2)))
theorem j4_again (r1 : (-2147483648) ≤ l ∧ l ≤ 2147483647) (h : J4 M) : wp (mX8_again 1 l M) (fun q1 => wp (mX9_again 126 l q1.2) (fun q2 => J4 q2.2)) := by
  have jj := h.1.1.1.1
  exact J4.sp (M := M) (jb_again r1 h.1) (j2_again r1 h.1.1.1) (p_mono (aga_gen (P := SX) r1 jj (fun i a => KW.sx jj.1 jj.2.2 h.2 a) (fun i i' M' _ _ s c => s.cpy c) (fun i M' i0 i1 s g => s.vf ⟨i0, i1⟩ g)) (fun q1 z => p_mono z (fun q2 y e i a => (y e i a).2)))
/-- the world of now -/
def W0 (k : Nat) (M : Mem) : Prop := (mG M 3 1 = ((wn (mG M 137) k : Nat) : Int) ∧ ∀ f : Int, (k : Int) ≤ f → f < 36 → mG M 137 f = 0) ∧ ∀ p : Int, 0 ≤ p → p < 4 → ¬ mG M 12 p = 0 → mG M 11 p = ((wn (fun f => mG M 150 (36 * p + f)) k : Nat) : Int)
theorem w0_e1 : (fun f => mG M 137 (36 * 0 + f)) = mG M 137 := funext (fun f => by rw [show 36 * (0 : Int) + f = f by omega])
theorem w0_e2 (p : Int) : (fun f => mG M 150 (144 * 0 + 36 * p + f)) = fun f => mG M 150 (36 * p + f) := funext (fun f => by rw [show 144 * (0 : Int) + 36 * p + f = 36 * p + f by omega])
theorem SW.w0 (h : SW 0 M) : W0 (nfs 0 M) M := by
  obtain ⟨⟨a, b⟩, c⟩ := h
  rw [w0_e1, sOf_0] at a
  rw [sOf_0] at c
  refine ⟨⟨a, fun f f0 f1 => ?_⟩, fun p p0 p1 hp => ?_⟩
  · have := b f f0 f1
    rw [show 36 * (0 : Int) + f = f by omega] at this
    exact this
  · have := c p p0 p1 hp
    rw [w0_e2] at this
    exact this
theorem W0.sw (h : W0 (nfs 0 M) M) : SW 0 M := by
  obtain ⟨⟨a, b⟩, c⟩ := h
  unfold SW
  rw [w0_e1, sOf_0]
  refine ⟨⟨a, fun f f0 f1 => ?_⟩, fun p p0 p1 hp => ?_⟩
  · rw [show 36 * (0 : Int) + f = f by omega]
    exact b f f0 f1
  · rw [w0_e2]
    exact c p p0 p1 hp
theorem nfs_0 (iM : I n M) : nfs 0 M ≤ 36 ∧ ((nfs 0 M : Nat) : Int) = mG M 4 7 := by
  have := nfs_b (i := 0) iM (by decide) (by decide)
  rw [sOf_0] at this
  exact this
theorem nfs_e (e : mG M' 4 7 = mG M 4 7) : nfs 0 M' = nfs 0 M := by
  unfold nfs
  rw [sOf_0]
  show (mG M' 4 7).toNat = (mG M 4 7).toNat
  rw [e]
/-- all is cleared -/
theorem W0.z {k : Nat} (hk : k ≤ 36) (h1 : mG M 3 1 = 0) (h2 : ∀ f : Int, 0 ≤ f → f < 36 → mG M 137 f = 0) (h3 : ∀ p : Int, 0 ≤ p → p < 4 → mG M 12 p = 0) : W0 k M := by
  refine ⟨⟨?_, fun f f0 f1 => h2 f (by omega) f1⟩, fun p p0 p1 hp => absurd (h3 p p0 p1) hp⟩
  rw [h1, wn_of (w := 0) (Nat.two_pow_pos k) (fun f f0 f1 => ?_)]
  · rfl
  · rw [h2 f f0 (by omega)]
    unfold phw
    rw [Nat.zero_testBit]; rfl
theorem kw_size (r1 : (-2147483648) ≤ l1 ∧ l1 ≤ 2147483647) (r2 : (-2147483648) ≤ l2 ∧ l2 ≤ 2147483647) (iM : I n M) (kw : KW M) : pw (mX8_size 1 l1 l2 M) (fun q1 => pw (mX9_size 126 l1 l2 q1.2) (fun q2 => EQ q1 q2 → KW q2.2)) := by
  refine p_mono (p_and (p_and (p_wp (s_X8_size r1 r2 iM)) (pl_size iM)) (p2_size iM r1 r2)) ?_
  rintro ⟨a, M1⟩ ⟨⟨⟨i1, -⟩, h1⟩, c1⟩
  refine p_mono (p_and (pr_size i1) (r2_size i1)) ?_
  rintro ⟨b, M2⟩ ⟨h2, c2⟩ eq
  replace eq : a = b := eq
  show KW M2
  rcases h1 with ⟨p1, _, p3⟩ | ⟨p1, _, _, _, p5⟩
  · replace p1 : a = 0 := p1
    replace p3 : M1 = M := p3
    subst p3
    rcases h2 with ⟨_, _, q3⟩ | ⟨q1, _⟩
    · exact kw.fr iM (fun b j z => q3 b j (by unfold WX8 at z; omega))
    · replace q1 : b = 1 := q1
      omega
  · replace p1 : a = 1 := p1
    rcases h2 with ⟨q1, _⟩ | ⟨_, _, _, q5⟩
    · replace q1 : b = 0 := q1
      omega
    have c1 := c1.resolve_left (by show ¬ a = 0; omega)
    have c2 := c2.resolve_left (by show ¬ b = 0; omega)
    replace p5 : ∀ b j : Int, ¬ (b = 5 ∧ j = l1) → ¬ (b = 4 ∧ j = 7) → ¬ (8 ≤ b ∧ b ≤ 10) → ¬ (b = 3 ∧ j = 1) → ¬ b = 12 → ¬ b = 2 → ¬ b = 24 → mG M1 b j = mG M b j := p5
    replace q5 : ∀ b j : Int, ¬ b = 126 → ¬ (b = 133 ∧ j = l1) → ¬ b = 137 → ¬ b = 151 → mG M2 b j = mG M1 b j := q5
    obtain ⟨d1, d2⟩ := c1
    replace d1 : mG M1 3 1 = 0 := d1
    replace d2 : ∀ p : Int, 0 ≤ p → p < 4 → mG M1 12 p = 0 := d2
    obtain ⟨c3, _, c5⟩ := c2
    replace c3 : ∀ k : Int, 0 ≤ k → k < 36 → mG M2 137 k = 0 := c3
    replace c5 : ∀ b j : Int, (b = 137 ∧ ¬ (0 ≤ j ∧ j < 36)) ∨ (b = 151 ∧ ¬ (0 ≤ j ∧ j < 4)) → mG M2 b j = mG M1 b j := c5
    have en : nfs 0 M2 = nfs 0 M1 := nfs_e (q5 4 7 (by decide) (by omega) (by decide) (by decide))
    refine kw.r0 iM (W0.sw (W0.z (by rw [en]; exact (nfs_0 i1).1) ((q5 3 1 (by decide) (by omega) (by decide) (by decide)).trans d1) c3 (fun p p0 p1 => (q5 12 p (by decide) (by omega) (by decide) (by decide)).trans (d2 p p0 p1)))) (fun b j z => ?_)
    have e1 : mG M1 b j = mG M b j := p5 b j (by omega) (by omega) (by omega) (by omega) (by omega) (by omega) (by omega)
    rw [← e1]
    by_cases e : b = 137
    · exact c5 b j (Or.inl ⟨e, by omega⟩)
    · exact q5 b j (by omega) (by omega) e (by omega)
theorem kw_relation (r1 : (-2147483648) ≤ l1 ∧ l1 ≤ 2147483647) (r2 : (-2147483648) ≤ l2 ∧ l2 ≤ 2147483647) (iM : I n M) (kw : KW M) : pw (mX8_relation 1 l1 l2 M) (fun q1 => pw (mX9_relation 126 l1 l2 q1.2) (fun q2 => EQ q1 q2 → KW q2.2)) := by
  have r6 := rd_Shape_6 iM (a := 4) rfl
  refine p_mono (p_and (p_and (p_wp (s_X8_relation r1 r2 iM)) (pl_relation iM)) (p2_relation iM r1 r2)) ?_
  rintro ⟨a, M1⟩ ⟨⟨⟨i1, -⟩, h1⟩, c1⟩
  have r9 : 0 ≤ mG M1 134 0 ∧ mG M1 134 0 ≤ 4 := rd_Mrelations i1 (a := 134) (i := 0) rfl
  refine p_mono (p_and (pr_relation i1) (r2_relation i1)) ?_
  rintro ⟨b, M2⟩ ⟨h2, c2⟩ eq
  replace eq : a = b := eq
  show KW M2
  rcases h1 with ⟨p1, _, p3⟩ | ⟨p1, _, _, _, _, _, p5⟩
  · replace p1 : a = -1 := p1
    replace p3 : M1 = M := p3
    subst p3
    rcases h2 with ⟨_, _, q3⟩ | ⟨q1, _⟩
    · exact kw.fr iM (fun b j z => q3 b j (by unfold WX8 at z; omega))
    · replace q1 : b = mG M1 134 0 := q1
      omega
  · replace p1 : a = mG M 4 6 := p1
    rcases h2 with ⟨q1, _⟩ | ⟨_, _, _, _, _, q5⟩
    · replace q1 : b = -1 := q1
      omega
    have c1 := c1.resolve_left (by show ¬ a = -1; omega)
    have c2 := c2.resolve_left (by show ¬ b = -1; omega)
    replace p5 : ∀ b j : Int, ¬ (b = 6 ∧ j = mG M 4 6) → ¬ (b = 7 ∧ j = mG M 4 6) → ¬ (b = 4 ∧ j = 6) → ¬ (b = 4 ∧ j = 7) → ¬ (8 ≤ b ∧ b ≤ 10) → ¬ (b = 3 ∧ j = 1) → ¬ b = 12 → ¬ b = 2 → ¬ b = 24 → mG M1 b j = mG M b j := p5
    replace q5 : ∀ b j : Int, ¬ b = 126 → ¬ (b = 134 ∧ j = 0) → ¬ (b = 135 ∧ j = mG M1 134 0) → ¬ (b = 136 ∧ j = mG M1 134 0) → ¬ b = 137 → ¬ b = 151 → mG M2 b j = mG M1 b j := q5
    obtain ⟨d1, d2⟩ := c1
    replace d1 : mG M1 3 1 = 0 := d1
    replace d2 : ∀ p : Int, 0 ≤ p → p < 4 → mG M1 12 p = 0 := d2
    obtain ⟨c3, _, c5⟩ := c2
    replace c3 : ∀ k : Int, 0 ≤ k → k < 36 → mG M2 137 k = 0 := c3
    replace c5 : ∀ b j : Int, (b = 137 ∧ ¬ (0 ≤ j ∧ j < 36)) ∨ (b = 151 ∧ ¬ (0 ≤ j ∧ j < 4)) → mG M2 b j = mG M1 b j := c5
    have en : nfs 0 M2 = nfs 0 M1 := nfs_e (q5 4 7 (by decide) (by omega) (by omega) (by omega) (by decide) (by decide))
    refine kw.r0 iM (W0.sw (W0.z (by rw [en]; exact (nfs_0 i1).1) ((q5 3 1 (by decide) (by omega) (by omega) (by omega) (by decide) (by decide)).trans d1) c3 (fun p p0 p1 => (q5 12 p (by decide) (by omega) (by omega) (by omega) (by decide) (by decide)).trans (d2 p p0 p1)))) (fun b j z => ?_)
    have e1 : mG M1 b j = mG M b j := p5 b j (by omega) (by omega) (by omega) (by omega) (by omega) (by omega) (by omega) (by omega) (by omega)
    rw [← e1]
    by_cases e : b = 137
    · exact c5 b j (Or.inl ⟨e, by omega⟩)
    · exact q5 b j (by omega) (by omega) (by omega) (by omega) e (by omega)
theorem kw_keep (r1 : (-2147483648) ≤ l ∧ l ≤ 2147483647) (iM : I n M) (kw : KW M) : pw (mX8_keep 1 l M) (fun q1 => pw (mX9_keep 126 l q1.2) (fun q2 => EQ q1 q2 → KW q2.2)) := by
  refine p_mono (p_and (p_wp (s_X8_keep r1 iM)) (p2_keep iM)) ?_
  rintro ⟨a, M1⟩ ⟨⟨i1, -⟩, h1⟩
  refine p_mono (r2_keep i1) ?_
  rintro ⟨b, M2⟩ h2 -
  show KW M2
  rcases h1 with ⟨_, p2, p3⟩ | ⟨_, p2, p3, p4, p5⟩
  · replace p3 : M1 = M := p3
    subst p3
    rcases h2 with ⟨_, _, q3⟩ | ⟨_, q2, _⟩
    · exact kw.fr iM (fun b j z => q3 b j (by unfold WX8 at z; omega))
    · exact absurd q2 p2
  · rcases h2 with ⟨_, q2, _⟩ | ⟨_, _, q3, q4, q5⟩
    · exact absurd p2 q2
    replace p3 : mG M1 11 l = mG M 3 1 := p3
    replace p5 : ∀ b j : Int, ¬ (b = 11 ∧ j = l) → ¬ (b = 12 ∧ j = l) → mG M1 b j = mG M b j := p5
    replace q4 : ∀ k : Int, 0 ≤ k → k < 36 → mG M2 150 (36 * l + k) = mG M1 137 k := q4
    replace q5 : ∀ b j : Int, ¬ b = 126 → ¬ (b = 151 ∧ j = l) → ¬ (b = 150 ∧ 36 * l ≤ j ∧ j < 36 * l + 36) → mG M2 b j = mG M1 b j := q5
    have w0 := (kw 0 ⟨by decide, by decide, Or.inl rfl⟩).w0
    have nb := nfs_0 iM
    have g : ∀ b j : Int, ¬ b = 126 → ¬ (b = 151 ∧ j = l) → ¬ (b = 150 ∧ 36 * l ≤ j ∧ j < 36 * l + 36) → ¬ (b = 11 ∧ j = l) → ¬ (b = 12 ∧ j = l) → mG M2 b j = mG M b j := fun b j x1 x2 x3 x4 x5 => (q5 b j x1 x2 x3).trans (p5 b j x4 x5)
    have en : nfs 0 M2 = nfs 0 M := nfs_e (g 4 7 (by decide) (by omega) (by omega) (by omega) (by omega))
    have g137 : ∀ j : Int, mG M2 137 j = mG M 137 j := fun j => g 137 j (by decide) (by omega) (by omega) (by omega) (by omega)
    refine kw.r0 iM (W0.sw ?_) (fun b j z => g b j (by omega) (by omega) (by omega) (by omega) (by omega))
    rw [en]
    refine ⟨⟨?_, fun f f0 f1 => (g137 f).trans (w0.1.2 f f0 f1)⟩, fun p p0 p1 hp => ?_⟩
    · rw [g 3 1 (by decide) (by omega) (by omega) (by omega) (by omega), w0.1.1]
      exact congrArg (fun x : Nat => (x : Int)) (wn_congr (fun f _ _ => (g137 f).symm))
    · by_cases e : p = l
      · subst e
        have e11 : mG M2 11 p = mG M 3 1 := (q5 11 p (by decide) (by omega) (by omega)).trans p3
        rw [e11, w0.1.1]
        refine congrArg (fun x : Nat => (x : Int)) (wn_congr (fun f f0 f1 => ?_))
        rw [q4 f f0 (by omega)]
        exact (p5 137 f (by omega) (by omega)).symm
      · rw [g 12 p (by decide) (by omega) (by omega) (by omega) (by omega)] at hp
        rw [g 11 p (by decide) (by omega) (by omega) (by omega) (by omega), w0.2 p p0 p1 hp]
        exact congrArg (fun x : Nat => (x : Int)) (wn_congr (fun f f0 f1 => (g 150 _ (by decide) (by omega) (by omega) (by omega) (by omega)).symm))
theorem j4_size (r1 : (-2147483648) ≤ l1 ∧ l1 ≤ 2147483647) (r2 : (-2147483648) ≤ l2 ∧ l2 ≤ 2147483647) (h : J4 M) : wp (mX8_size 1 l1 l2 M) (fun q1 => wp (mX9_size 126 l1 l2 q1.2) (fun q2 => J4 q2.2)) :=
  J4.sp (M := M) (jb_size r1 r2 h.1) (j2_size r1 r2 h.1.1.1) (kw_size r1 r2 h.1.1.1.1.1 h.2)
theorem j4_relation (r1 : (-2147483648) ≤ l1 ∧ l1 ≤ 2147483647) (r2 : (-2147483648) ≤ l2 ∧ l2 ≤ 2147483647) (h : J4 M) : wp (mX8_relation 1 l1 l2 M) (fun q1 => wp (mX9_relation 126 l1 l2 q1.2) (fun q2 => J4 q2.2)) :=
  J4.sp (M := M) (jb_relation r1 r2 h.1) (j2_relation r1 r2 h.1.1.1) (kw_relation r1 r2 h.1.1.1.1.1 h.2)
theorem j4_keep (r1 : (-2147483648) ≤ l ∧ l ≤ 2147483647) (h : J4 M) : wp (mX8_keep 1 l M) (fun q1 => wp (mX9_keep 126 l q1.2) (fun q2 => J4 q2.2)) :=
  J4.sp (M := M) (jb_keep r1 h.1) (j2_keep r1 h.1.1.1) (kw_keep r1 h.1.1.1.1.1 h.2)
end
end
section
/-! ===== facts of the world at hand: tell, fact ===== -/
theorem wn_s (g : Int → Int) (k : Nat) : wn g (k + 1) = 2 * wn g k + (if g (k : Int) = 1 then 1 else 0) := by
  apply Nat.eq_of_testBit_eq
  intro b
  rw [wn_b]
  cases b with
  | zero =>
    have e : ((k + 1 : Nat) : Int) - 1 - ((0 : Nat) : Int) = (k : Int) := by omega
    rw [e, decide_eq_true (show 0 < k + 1 by omega), Bool.true_and, Nat.testBit_zero]
    by_cases c : g (k : Int) = 1
    · rw [if_pos c, decide_eq_true c]; exact (decide_eq_true (by omega)).symm
    · rw [if_neg c, decide_eq_false c]; exact (decide_eq_false (by omega)).symm
  | succ b =>
    have h2 : (2 * wn g k + (if g (k : Int) = 1 then 1 else 0)) / 2 = wn g k := by split <;> omega
    have e : ((k + 1 : Nat) : Int) - 1 - ((b + 1 : Nat) : Int) = (k : Int) - 1 - (b : Int) := by omega
    rw [Nat.testBit_succ, h2, wn_b, e]
    by_cases c : b < k
    · rw [decide_eq_true c, decide_eq_true (show b + 1 < k + 1 by omega)]
    · rw [decide_eq_false c, decide_eq_false (show ¬ b + 1 < k + 1 by omega)]
section
variable {S : SH} {M : Mem} {n : Nat}
/-- the class looks at a fact -/
theorem q_isSo {g : Int → Int} {p : Nat} (ok : S.ok) (hn : S.nf = (n : Int)) (n36 : n ≤ 36) (k2 : K2 M) (sh : SHC S 4 M) (hw : mG M 3 1 = ((wn g n : Nat) : Int)) (hp : p < n) : pw (mX6_isSo 3 (p : Int) M) (fun q => q.2 = M ∧ q.1 = b2i (decide (g (p : Int) = 1))) := by
  unfold mX6_isSo
  refine p_gFc (ji := 1) rfl hw (p_gFc (ji := 0) rfl k2.c3_0 (p_gK (p_call (q_bit (p := (p : Int)) sh ok ⟨by omega, by omega⟩) (fun b m y => ?_))))
  obtain ⟨y1, y2⟩ := y
  replace y1 : m = M := y1
  replace y2 : b = S.nf - 1 - (p : Int) := y2
  subst y1
  rw [hn, show (n : Int) - 1 - (p : Int) = ((n - 1 - p : Nat) : Int) by omega] at y2
  subst y2
  have e : lb ((wn g n : Nat) : Int) (n - 1 - p) = decide (g (p : Int) = 1) := by
    rw [lb_nat _ (by omega), wn_b, decide_eq_true (show n - 1 - p < n by omega), Bool.true_and, show (n : Int) - 1 - ((n - 1 - p : Nat) : Int) = (p : Int) by omega]
  have l := l_bitc (x := ((wn g n : Nat) : Int)) (n := n - 1 - p) (by omega)
  refine p_if (fun c => p_ret ⟨rfl, ?_⟩) (fun c => p_ret ⟨rfl, ?_⟩)
  · rw [← e, l.mp c]; rfl
  · rw [← e]
    cases h : lb ((wn g n : Nat) : Int) (n - 1 - p) with
    | true => rfl
    | false => exact absurd (l.mpr h) c
/-- a fact is told otherwise -/
theorem wn_x {g g' : Int → Int} {p : Nat} (n36 : n ≤ 36) (hp : p < n) (hg : 0 ≤ g (p : Int) ∧ g (p : Int) ≤ 1) (hg' : g' (p : Int) = 1 - g (p : Int)) (e : ∀ f : Int, ¬ f = (p : Int) → g' f = g f) : lxor ((wn g n : Nat) : Int) (lshl 1 ((n - 1 - p : Nat) : Int)) = ((wn g' n : Nat) : Int) := by
  refine l_ext (lxor_L _ _) (nat_L n36 (wn_lt g' n)).1 (fun b hb => ?_)
  rw [lb_xor, lb_nat _ hb, lb_nat _ hb, lb_one _ (by omega) b hb, wn_b, wn_b]
  by_cases c : b = n - 1 - p
  · have ep : (n : Int) - 1 - (b : Int) = (p : Int) := by omega
    rw [ep, decide_eq_true c, decide_eq_true (show b < n by omega), Bool.true_and, Bool.true_and, hg']
    by_cases d : g (p : Int) = 1
    · rw [decide_eq_true d, decide_eq_false (show ¬ 1 - g (p : Int) = 1 by omega)]; rfl
    · rw [decide_eq_false d, decide_eq_true (show 1 - g (p : Int) = 1 by omega)]; rfl
  · rw [decide_eq_false c, Bool.xor_false]
    by_cases d : b < n
    · rw [e ((n : Int) - 1 - (b : Int)) (by omega)]
    · rw [decide_eq_false d]; rfl
end
/-- how many facts there are -/
theorem J4.n {M : Mem} {n : Nat} (h : J4 M) (hn : (shp M).nf = (n : Int)) (sh : SHC (shp M) 4 M) : nfs 0 M = n ∧ n ≤ 36 ∧ W0 n M := by
  have a := nfs_0 h.1.1.1.1.1
  have b := sh.1.2.2.2.2.2.2.2
  have e : nfs 0 M = n := by omega
  refine ⟨e, by omega, ?_⟩
  have := (h.2 0 ⟨by decide, by decide, Or.inl rfl⟩).w0
  rw [e] at this
  exact this
section
variable {M : Mem} {l1 l2 l3 l4 : Int}
theorem q_fact8 (h : J4 M) : pw (mX8_fact 1 l1 l2 l3 M) (fun q => q.2 = M ∧ ((((0 ≤ l1 ∧ l1 < (shp M).nr) ∧ (shp M).inr l1 l2 l3) ∧ q.1 = mG M 137 ((shp M).at' l1 l2 l3)) ∨ (¬ ((0 ≤ l1 ∧ l1 < (shp M).nr) ∧ (shp M).inr l1 l2 l3) ∧ q.1 = -1))) := by
  obtain ⟨P, n, ok, hn, k2, sh, tp, rf, ve, vlt, h1, hl⟩ := look h.1.1
  obtain ⟨en, n36, w0⟩ := h.n hn sh
  unfold mX8_fact
  refine p_gFc (ji := 1) rfl h1.2 (p_gFc (ji := 0) rfl k2.c3_0 (p_gK (p_call (q_place (r := l1) (i := l2) (j := l3) ok sh) (fun v m y => ?_))))
  obtain ⟨y1, y2⟩ := y
  replace y1 : m = M := y1
  subst y1
  rcases y2 with ⟨a, b, c⟩ | ⟨a, c⟩
  · replace c : v = (shp m).at' l1 l2 l3 := c
    have pos := ok.pos a.1 a.2 b
    have s0 := ok.st (r := l1.toNat) (by omega)
    obtain ⟨p, hp⟩ := Int.eq_ofNat_of_zero_le (show 0 ≤ (shp m).at' l1 l2 l3 by omega)
    rw [hp] at c pos
    subst c
    refine p_it0 (show ¬ (p : Int) = -1 by omega) (p_gFc (ji := 1) rfl h1.2 (p_gK (p_call (q_isSo (p := p) ok hn n36 k2 sh w0.1.1 (by omega)) (fun v m2 y => ?_))))
    obtain ⟨y1, y2⟩ := y
    replace y1 : m2 = m := y1
    replace y2 : v = b2i (decide (mG m 137 (p : Int) = 1)) := y2
    subst y1
    have r := rd_Mworld h.1.1.1.1.1 (a := 137) (i := (p : Int)) rfl
    rw [hp]
    refine p_if (fun d => p_ret ⟨rfl, Or.inl ⟨⟨a, b⟩, ?_⟩⟩) (fun d => p_ret ⟨rfl, Or.inl ⟨⟨a, b⟩, ?_⟩⟩)
    · have := of_decide_eq_false (b2i_0.mp (y2.symm.trans d))
      show (0 : Int) = mG m2 137 (p : Int)
      omega
    · show (1 : Int) = mG m2 137 (p : Int)
      by_cases e : mG m2 137 (p : Int) = 1
      · exact e.symm
      · rw [decide_eq_false e] at y2
        exact absurd y2 d
  · exact p_it1 c (p_ret ⟨rfl, Or.inr ⟨a, rfl⟩⟩)
theorem v_fact9 {S : SH} {P : Nat → List Row} {m1 : Mem} (ok : S.ok) (rf : RFB S P m1) (hb : ∀ f : Int, 0 ≤ mG m1 137 f ∧ mG m1 137 f ≤ 1) : pw (mX9_fact 126 l1 l2 l3 m1) (fun q => (((0 ≤ l1 ∧ l1 < S.nr) ∧ S.inr l1 l2 l3) ∧ q.1 = mG m1 137 (S.at' l1 l2 l3)) ∨ (¬ ((0 ≤ l1 ∧ l1 < S.nr) ∧ S.inr l1 l2 l3) ∧ q.1 = -1)) := by
  unfold mX9_fact
  refine p_pF (ji := 0) rfl (fun m2 h2 => ?_)
  have g2 : ∀ c j : Int, ¬ c = 126 → mG m2 c j = mG m1 c j := fun c j x => st_ne h2 (fun w => x w.1)
  have k2 : K9 m2 := rf.1.kp (fun j hj => st_ne h2 (fun w => by omega))
  refine p_gK (p_call (v_toldFact ok k2 (rf.2.1.kp (fun c j hc => g2 c j (by omega)))) (fun v m3 y => ?_))
  obtain ⟨⟨k3, _⟩, fn, y⟩ := y
  replace k3 : K9 m3 := k3
  replace fn : FN m2 m3 := fn
  have g3 : ∀ j : Int, mG m3 137 j = mG m1 137 j := fun j => (fn 137 j (by decide) (by decide)).trans (g2 137 j (by decide))
  rcases y with ⟨a, b, c⟩ | ⟨a, c⟩
  · replace c : v = S.at' l1 l2 l3 := c
    have pos := ok.pos a.1 a.2 b
    have s0 := ok.st (r := l1.toNat) (by omega)
    have r := hb (S.at' l1 l2 l3)
    refine p_it0 (show ¬ v = -1 by omega) (p_gFc (ji := 11) rfl k3.c11 (p_aGc (r := mG m1 137 (S.at' l1 l2 l3)) (by rw [g3]; show mG m1 137 v = _; rw [c]) (p_if (fun d => p_ret (Or.inl ⟨⟨a, b⟩, d.symm⟩)) (fun d => p_ret (Or.inl ⟨⟨a, b⟩, ?_⟩)))))
    show (1 : Int) = _
    omega
  · exact p_it1 c (p_ret (Or.inr ⟨a, rfl⟩))
theorem eq_fact (r1 : (-2147483648) ≤ l1 ∧ l1 ≤ 2147483647) (h : J4 M) : pw (mX8_fact 1 l1 l2 l3 M) (fun q1 => pw (mX9_fact 126 l1 l2 l3 q1.2) (fun q2 => EQ q1 q2)) := by
  obtain ⟨P, n, ok, hn, k2, sh, tp, rf, ve, vlt, h1, hl⟩ := look h.1.1
  have iM := h.1.1.1.1.1
  refine p_mono (q_fact8 h) (fun q1 y => ?_)
  obtain ⟨y1, y2⟩ := y
  rw [y1]
  refine p_mono (v_fact9 (l1 := l1) (l2 := l2) (l3 := l3) ok rf (fun f => rd_Mworld iM (a := 137) (i := f) rfl)) (fun q2 z => ?_)
  show q1.1 = q2.1
  rcases y2 with ⟨a, b⟩ | ⟨a, b⟩
  · rcases z with ⟨c, d⟩ | ⟨c, d⟩
    · rw [b, d]
    · exact absurd a c
  · rcases z with ⟨c, d⟩ | ⟨c, d⟩
    · exact absurd c a
    · rw [b, d]
/-- the class tells a fact -/
theorem q_tell8 (r4 : 0 ≤ l4 ∧ l4 ≤ 1) (h : J4 M) : pw (mX8_tell 1 l1 l2 l3 l4 M) (fun q => (((0 ≤ l1 ∧ l1 < (shp M).nr) ∧ (shp M).inr l1 l2 l3) ∧ ¬ mG M 137 ((shp M).at' l1 l2 l3) = l4 ∧ q.1 = 1 ∧ mG q.2 3 1 = ((wn (fun f => if f = (shp M).at' l1 l2 l3 then l4 else mG M 137 f) (nfs 0 M) : Nat) : Int) ∧ ∀ b j : Int, ¬ (b = 3 ∧ j = 1) → mG q.2 b j = mG M b j) ∨ (¬ (((0 ≤ l1 ∧ l1 < (shp M).nr) ∧ (shp M).inr l1 l2 l3) ∧ ¬ mG M 137 ((shp M).at' l1 l2 l3) = l4) ∧ q.1 = 0 ∧ q.2 = M)) := by
  obtain ⟨P, n, ok, hn, k2, sh, tp, rf, ve, vlt, h1, hl⟩ := look h.1.1
  obtain ⟨en, n36, w0⟩ := h.n hn sh
  rw [en]
  unfold mX8_tell
  refine p_gFc (ji := 1) rfl h1.2 (p_gFc (ji := 0) rfl k2.c3_0 (p_gK (p_call (q_place (r := l1) (i := l2) (j := l3) ok sh) (fun v m y => ?_))))
  obtain ⟨y1, y2⟩ := y
  replace y1 : m = M := y1
  subst y1
  rcases y2 with ⟨a, b, c⟩ | ⟨a, c⟩
  · replace c : v = (shp m).at' l1 l2 l3 := c
    have pos := ok.pos a.1 a.2 b
    have s0 := ok.st (r := l1.toNat) (by omega)
    obtain ⟨p, hp⟩ := Int.eq_ofNat_of_zero_le (show 0 ≤ (shp m).at' l1 l2 l3 by omega)
    rw [hp] at c pos ⊢
    subst c
    have r := rd_Mworld h.1.1.1.1.1 (a := 137) (i := (p : Int)) rfl
    refine p_it0 (show ¬ (p : Int) = -1 by omega) (p_gFc (ji := 1) rfl h1.2 (p_gK (p_call (q_isSo (p := p) ok hn n36 k2 sh w0.1.1 (by omega)) (fun v m2 y => ?_))))
    obtain ⟨y1, y2⟩ := y
    replace y1 : m2 = m := y1
    replace y2 : v = b2i (decide (mG m 137 (p : Int) = 1)) := y2
    subst y1
    have ev : v = mG m2 137 (p : Int) := by
      by_cases e : mG m2 137 (p : Int) = 1
      · rw [y2, decide_eq_true e, e]; rfl
      · rw [y2, decide_eq_false e]
        show (0 : Int) = _
        omega
    subst ev
    refine p_if (fun d => p_ret (Or.inr ⟨fun w => w.2 d, rfl, rfl⟩)) (fun d => ?_)
    replace d : ¬ mG m2 137 (p : Int) = l4 := d
    refine p_gFc (ji := 1) rfl h1.2 (p_gFc (ji := 1) rfl w0.1.1 (p_gFc (ji := 1) rfl h1.2 (p_gFc (ji := 0) rfl k2.c3_0 (p_gK (p_call (q_bit (p := (p : Int)) sh ok ⟨by omega, by omega⟩) (fun u m3 y => ?_))))))
    obtain ⟨z1, z2⟩ := y
    replace z1 : m3 = m2 := z1
    replace z2 : u = (shp m2).nf - 1 - (p : Int) := z2
    subst z1
    rw [hn, show (n : Int) - 1 - (p : Int) = ((n - 1 - p : Nat) : Int) by omega] at z2
    subst z2
    refine p_pF (ji := 1) rfl (fun m4 h4 => p_ret (Or.inl ⟨⟨a, b⟩, d, rfl, ?_, fun b j x => st_ne h4 x⟩))
    rw [wn_x (g := mG m3 137) (g' := fun f => if f = (p : Int) then l4 else mG m3 137 f) n36 (by omega) r (by show (if (p : Int) = (p : Int) then l4 else _) = _; rw [if_pos rfl]; omega) (fun f hf => if_neg hf)] at h4
    exact st_eq h4
  · exact p_it1 c (p_ret (Or.inr ⟨fun w => a w.1, rfl, rfl⟩))
theorem v_tell9 {S : SH} {P : Nat → List Row} {m1 : Mem} (ok : S.ok) (rf : RFB S P m1) : pw (mX9_tell 126 l1 l2 l3 l4 m1) (fun q => ((((0 ≤ l1 ∧ l1 < S.nr) ∧ S.inr l1 l2 l3) ∧ ¬ mG m1 137 (S.at' l1 l2 l3) = l4) ∧ q.1 = 1 ∧ mG q.2 137 (S.at' l1 l2 l3) = l4 ∧ ∀ c j : Int, ¬ c = 126 → ¬ c = 152 → ¬ c = 153 → ¬ (c = 137 ∧ j = S.at' l1 l2 l3) → mG q.2 c j = mG m1 c j) ∨ (¬ (((0 ≤ l1 ∧ l1 < S.nr) ∧ S.inr l1 l2 l3) ∧ ¬ mG m1 137 (S.at' l1 l2 l3) = l4) ∧ q.1 = 0 ∧ ∀ c j : Int, ¬ c = 126 → ¬ c = 152 → ¬ c = 153 → mG q.2 c j = mG m1 c j)) := by
  unfold mX9_tell
  refine p_pF (ji := 0) rfl (fun m2 h2 => ?_)
  have g2 : ∀ c j : Int, ¬ c = 126 → mG m2 c j = mG m1 c j := fun c j x => st_ne h2 (fun w => x w.1)
  have k2 : K9 m2 := rf.1.kp (fun j hj => st_ne h2 (fun w => by omega))
  refine p_gK (p_call (v_toldFact ok k2 (rf.2.1.kp (fun c j hc => g2 c j (by omega)))) (fun v m3 y => ?_))
  obtain ⟨⟨k3, _⟩, fn, y⟩ := y
  replace k3 : K9 m3 := k3
  replace fn : FN m2 m3 := fn
  have g3 : ∀ c j : Int, ¬ c = 126 → ¬ c = 152 → ¬ c = 153 → mG m3 c j = mG m1 c j := fun c j x y z => (fn c j y z).trans (g2 c j x)
  rcases y with ⟨a, b, c⟩ | ⟨a, c⟩
  · replace c : v = S.at' l1 l2 l3 := c
    have pos := ok.pos a.1 a.2 b
    have s0 := ok.st (r := l1.toNat) (by omega)
    have nv : ¬ v = -1 := by omega
    subst c
    refine p_it0 nv (p_gFc (ji := 11) rfl k3.c11 (p_aGc (r := mG m1 137 (S.at' l1 l2 l3)) (g3 137 _ (by decide) (by decide) (by decide)) (p_if (fun d => p_ret (Or.inr ⟨fun w => w.2 d, rfl, g3⟩)) (fun d => p_gFc (ji := 11) rfl k3.c11 (p_aSZ (fun m4 h4 => p_ret (Or.inl ⟨⟨⟨a, b⟩, d⟩, rfl, st_eq h4, fun c j x y z w => (st_ne h4 w).trans (g3 c j x y z)⟩)))))))
  · exact p_it1 c (p_ret (Or.inr ⟨fun w => a w.1, rfl, g3⟩))
theorem kw_tell (r4 : 0 ≤ l4 ∧ l4 ≤ 1) (h : J4 M) : pw (mX8_tell 1 l1 l2 l3 l4 M) (fun q1 => pw (mX9_tell 126 l1 l2 l3 l4 q1.2) (fun q2 => KW q2.2 ∧ EQ q1 q2)) := by
  obtain ⟨P, n, ok, hn, k2, sh, tp, rf, ve, vlt, h1, hl⟩ := look h.1.1
  obtain ⟨en, n36, w0⟩ := h.n hn sh
  have iM := h.1.1.1.1.1
  refine p_mono (q_tell8 r4 h) ?_
  rintro ⟨a, M1⟩ y
  have g1 : ∀ b j : Int, ¬ (b = 3 ∧ j = 1) → mG M1 b j = mG M b j := by
    rcases y with ⟨_, _, _, _, y5⟩ | ⟨_, _, y3⟩
    · exact y5
    · replace y3 : M1 = M := y3
      rw [y3]
      exact fun _ _ _ => rfl
  have rf1 := (rf.f9 (M' := M1) (fun c j c0 _ => g1 c j (by omega))).1
  refine p_mono (v_tell9 (l1 := l1) (l2 := l2) (l3 := l3) (l4 := l4) ok rf1) ?_
  rintro ⟨b, M2⟩ z
  show KW M2 ∧ a = b
  have e137 : ∀ j, mG M1 137 j = mG M 137 j := fun j => g1 137 j (by omega)
  rcases y with ⟨y1, y2, y3, y4, _⟩ | ⟨y1, y2, y3⟩
  · replace y3 : a = 1 := y3
    replace y4 : mG M1 3 1 = ((wn (fun f => if f = (shp M).at' l1 l2 l3 then l4 else mG M 137 f) (nfs 0 M) : Nat) : Int) := y4
    rcases z with ⟨z1, z2, z3, z4⟩ | ⟨z1, _⟩
    · replace z2 : b = 1 := z2
      replace z3 : mG M2 137 ((shp M).at' l1 l2 l3) = l4 := z3
      replace z4 : ∀ c j : Int, ¬ c = 126 → ¬ c = 152 → ¬ c = 153 → ¬ (c = 137 ∧ j = (shp M).at' l1 l2 l3) → mG M2 c j = mG M1 c j := z4
      have pos := ok.pos y1.1.1 y1.1.2 y1.2
      have s0 := ok.st (r := l1.toNat) (by have := y1.1; omega)
      have gg : ∀ c j : Int, ¬ (c = 3 ∧ j = 1) → ¬ c = 126 → ¬ c = 152 → ¬ c = 153 → ¬ (c = 137 ∧ j = (shp M).at' l1 l2 l3) → mG M2 c j = mG M c j := fun c j u x y z w => (z4 c j x y z w).trans (g1 c j u)
      refine ⟨h.2.r0 iM (W0.sw ?_) (fun b j w => gg b j (by omega) (by omega) (by omega) (by omega) (by omega)), by omega⟩
      rw [nfs_e (gg 4 7 (by decide) (by decide) (by decide) (by decide) (by omega)), en]
      rw [en] at y4
      refine ⟨⟨?_, fun f f0 f1 => ?_⟩, fun p p0 p1 hp => ?_⟩
      · rw [z4 3 1 (by decide) (by decide) (by decide) (by omega), y4]
        refine congrArg (fun x : Nat => (x : Int)) (wn_congr (fun f f0 f1 => ?_))
        by_cases e : f = (shp M).at' l1 l2 l3
        · rw [if_pos e, e, z3]
        · rw [if_neg e]
          exact (gg 137 f (by omega) (by decide) (by decide) (by decide) (fun w => e w.2)).symm
      · rw [gg 137 f (by omega) (by decide) (by decide) (by decide) (by omega)]
        exact w0.1.2 f f0 f1
      · rw [gg 12 p (by omega) (by decide) (by decide) (by decide) (by omega)] at hp
        rw [gg 11 p (by omega) (by decide) (by decide) (by decide) (by omega), w0.2 p p0 p1 hp]
        exact congrArg (fun x : Nat => (x : Int)) (wn_congr (fun f _ _ => (gg 150 _ (by omega) (by decide) (by decide) (by decide) (by omega)).symm))
    · exact absurd ⟨y1, by rw [e137]; exact y2⟩ z1
  · replace y2 : a = 0 := y2
    rcases z with ⟨z1, _⟩ | ⟨_, z2, z3⟩
    · exact absurd ⟨z1.1, by rw [← e137]; exact z1.2⟩ y1
    · replace z2 : b = 0 := z2
      replace z3 : ∀ c j : Int, ¬ c = 126 → ¬ c = 152 → ¬ c = 153 → mG M2 c j = mG M1 c j := z3
      replace y3 : M1 = M := y3
      refine ⟨h.2.fr iM (fun b j w => ?_), by omega⟩
      rw [← y3]
      exact z3 b j (by unfold WX8 at w; omega) (by unfold WX8 at w; omega) (by unfold WX8 at w; omega)
theorem j4_tell (r1 : (-2147483648) ≤ l1 ∧ l1 ≤ 2147483647) (r2 : (-2147483648) ≤ l2 ∧ l2 ≤ 2147483647) (r3 : (-2147483648) ≤ l3 ∧ l3 ≤ 2147483647) (r4 : 0 ≤ l4 ∧ l4 ≤ 1) (h : J4 M) : wp (mX8_tell 1 l1 l2 l3 l4 M) (fun q1 => wp (mX9_tell 126 l1 l2 l3 l4 q1.2) (fun q2 => J4 q2.2)) :=
  w_mono (w_and3 (M := M) (jb_tell r1 r2 r3 r4 h.1) (kw_tell r4 h)) (fun q1 z => w_mono z (fun q2 y => ⟨y.1, y.2.1⟩))
theorem j4_tellE (r1 : (-2147483648) ≤ l1 ∧ l1 ≤ 2147483647) (r2 : (-2147483648) ≤ l2 ∧ l2 ≤ 2147483647) (r3 : (-2147483648) ≤ l3 ∧ l3 ≤ 2147483647) (r4 : 0 ≤ l4 ∧ l4 ≤ 1) (h : J4 M) : wp (mX8_tell 1 l1 l2 l3 l4 M) (fun q1 => wp (mX9_tell 126 l1 l2 l3 l4 q1.2) (fun q2 => J4 q2.2 ∧ EQ q1 q2)) :=
  w_mono (w_and3 (M := M) (jb_tell r1 r2 r3 r4 h.1) (kw_tell r4 h)) (fun q1 z => w_mono z (fun q2 y => ⟨⟨y.1, y.2.1⟩, y.2.2⟩))
end
end
