/-! ===== the reference asks the guess; holds alike ===== -/
theorem ty_ne {nr : Int} {k1 k2 : Int → Int} {x : Int × Int} {ws : List (Int × Int)} : ∀ ps : List Row, ty nr k1 k2 (x :: ws) ps → ¬ ps.length = 0 := by
  intro ps h
  cases ps with
  | nil => exact absurd h (List.cons_ne_nil _ _)
  | cons r rs => exact Nat.succ_ne_zero _
theorem RT.ff {ps : List Row} {t : Int} {M M' : Mem} (h : RT ps t M) (k : FIF M M') : RT ps t M' :=
  ⟨(k 141 t (by omega) (by decide) (by decide) (by decide) (by decide)).trans h.1, fun i r hr => (h.2 i r hr).kp (fun c c0 c1 => k c _ (by omega) (by omega) (by omega) (by omega) (by omega))⟩
theorem ctn_cast {f g : Nat → Bool} {N : Nat} (h : ∀ k, k < N → f k = g k) : ((ctn f N : Nat) : Int) = ((ctn g N : Nat) : Int) := by rw [ctn_congr N h]
section
variable {S : SH} {P : Nat → List Row} {M : Mem} {n : Nat}
/-- whether the guess is so in a world that is laid out -/
theorem v_gmeans {w : Nat} {ps : List Row} (ok : S.ok) (k9 : K9 M) (rs : RSH S M) (lw : LW S (phw S.nf w) M) (rt : RT ps 8 M) (hl : ps.length ≤ 40) (hty : ty S.nr S.k1 S.k2 [(0, 255)] ps) : pw (mX9_means 126 8 M) (fun q => FM M q.2 ∧ q.1 = b2i (TMw S ps w)) :=
  p_mono (w_means ok (RM.mk ok k9 rs lw rt) (by decide) hl hty) (fun q y => ⟨y.1.2, y.2⟩)
theorem v_holds41 {K : Nat} {ps : List Row} {l : Int} {vw : Nat} {F : Int → Int} (ok : S.ok) (hn : S.nf = (n : Int)) (n12 : n ≤ 12) (hF : ∀ p, F p = -1 ∨ F p = 0 ∨ F p = 1) (K8 : K ≤ 8) (hv : vw < 256) (hl : ps.length ≤ 40) (hty : ty S.nr S.k1 S.k2 [(0, 255)] ps) {G H : Nat → Bool} (hG : G = fun w => if l = 0 then WDr S P K vw F n w else (WDr S P K vw F n w && isF S n w)) (hH : H = fun w => G w && TMw S ps w) : ∀ (fu w : Nat) (m : Mem), w ≤ 2 ^ n → RWd S P (K : Int) vw F n m → RT ps 8 m → pw (mX9_holds_41 fu 126 l ((ctn H w : Nat) : Int) (w : Int) m) (fun q => q.1 = ((ctn H (2 ^ n) : Nat) : Int)) := by
  have p12 : 2 ^ n ≤ 2 ^ 12 := Nat.pow_le_pow_right (n := 2) (by decide) n12
  obtain ⟨Q, hQ⟩ : ∃ Q : Int × Mem → Prop, Q = fun q => q.1 = ((ctn H (2 ^ n) : Nat) : Int) := ⟨_, rfl⟩
  rw [← hQ]
  intro fu
  induction fu with
  | zero => intro w m _ _ _; exact p_none
  | succ fu ih =>
    intro w m hw r4 t4
    show pw (bX9_holds_41 (mX9_holds_41 fu) 126 l _ (w : Int) m) Q
    unfold bX9_holds_41
    refine p_gK (p_call (v_manyFacts ok r4.1.1 r4.1.2) (fun v m5 y => ?_))
    obtain ⟨y6, y7⟩ := y
    replace y6 : m5 = m := y6
    replace y7 : v = S.nf := y7
    subst y6
    rw [hn] at y7
    subst y7
    rw [ishl1 n (by omega), show (2 : Int) ^ n = ((2 ^ n : Nat) : Int) by simp]
    refine p_if (fun c => p_ret ?_) (fun c => ?_)
    · rw [hQ]
      show ((ctn H w : Nat) : Int) = _
      rw [show w = 2 ^ n by omega]
    have cl := ctn_le H w
    have fin : ∀ (x : Int) (m6 : Mem), RWd S P (K : Int) vw F n m6 → RT ps 8 m6 → x = b2i (H w) → pw (mX9_holds_89 (mX9_holds_41 fu) 126 l (w : Int) ((ctn H w : Nat) : Int) x m6) Q := fun x m6 r6 t6 hx => by
      unfold mX9_holds_89
      have bb := b2i_b (H w)
      rw [wI_s (p := w) (by omega), wI_id (x := ((ctn H w : Nat) : Int) + x) (by omega) (by omega), hx, b2i_n, ← Int.natCast_add, ← ctn_s]
      exact ih (w + 1) m6 (by omega) r6 t6
    have mid : ∀ (v : Int) (m6 : Mem), FIF m5 m6 → v = b2i (G w) → (v = 1 → LW S (phw S.nf w) m6) → pw (if v = 0 then mX9_holds_88 (mX9_holds_41 fu) 126 l (w : Int) ((ctn H w : Nat) : Int) m6 else mX9_holds_75 (mX9_holds_41 fu) 126 l (w : Int) ((ctn H w : Nat) : Int) m6) Q := fun v m6 ff hv2 hlw => by
      have r6 := r4.ff ff
      have t6 := t4.ff ff
      refine p_if (fun c2 => ?_) (fun c2 => ?_)
      · unfold mX9_holds_88
        refine fin 0 m6 r6 t6 ?_
        have gf : G w = false := b2i_0.mp (hv2.symm.trans c2)
        rw [hH]
        show (0 : Int) = b2i (G w && TMw S ps w)
        rw [gf]; rfl
      · have gt : G w = true := by
          cases e : G w with
          | true => rfl
          | false => rw [e] at hv2; exact absurd hv2 c2
        unfold mX9_holds_75
        refine p_gK (p_call (v_gmeans ok r6.1.1 r6.1.2 (hlw (by rw [hv2, gt]; rfl)) t6 hl hty) (fun u m7 y => ?_))
        obtain ⟨y1, y2⟩ := y
        replace y1 : FM m6 m7 := y1
        replace y2 : u = b2i (TMw S ps w) := y2
        have eH : b2i (H w) = u := by
          rw [y2, hH]
          show b2i (G w && TMw S ps w) = _
          rw [gt]; rfl
        have r7 := r6.fi y1.fi
        have t7 := t6.fi y1.fi
        have bb := b2i_b (TMw S ps w)
        refine p_if (fun c3 => ?_) (fun c3 => ?_)
        · unfold mX9_holds_88
          exact fin 0 m7 r7 t7 (by rw [eH]; exact c3.symm)
        · replace c3 : ¬ u = 0 := c3
          exact fin 1 m7 r7 t7 (by omega)
    refine p_if (fun c0 => p_gK (p_call (v_isWorld (w := w) ok hn n12 (by omega) hF K8 hv r4) (fun v m6 y => ?_))) (fun c0 => p_gK (p_call (v_isForm (w := w) ok hn n12 (by omega) hF K8 hv r4) (fun v m6 y => ?_)))
    · obtain ⟨y8, y9, y10⟩ := y
      replace y8 : FI m5 m6 := y8
      replace y9 : v = b2i (WDr S P K vw F n w) := y9
      exact mid v m6 (fun c j a b d e _ => y8 c j a b d e) (by
        rw [hG]
        show v = b2i (if l = 0 then _ else _)
        rw [if_pos c0]; exact y9) y10
    · obtain ⟨y8, y9, y10⟩ := y
      replace y8 : FIF m5 m6 := y8
      replace y9 : v = b2i (WDr S P K vw F n w && isF S n w) := y9
      exact mid v m6 y8 (by
        rw [hG]
        show v = b2i (if l = 0 then _ else _)
        rw [if_neg c0]; exact y9) y10
theorem v_holds {K : Nat} {ps : List Row} {l : Int} (ok : S.ok) (hn : S.nf = (n : Int)) (rf : RFB S P M) (hK : mG M 138 0 = (K : Int)) (g : ¬ mG M 141 8 = 0) (rt : RT ps 8 M) (hl : ps.length ≤ 40) (hty : ty S.nr S.k1 S.k2 [(0, 255)] ps) : pw (mX9_holds 126 l M) (fun q => (12 < n ∧ q.1 = -1) ∨ (n ≤ 12 ∧ ((¬ (l = 0 ∨ l = 1) ∧ q.1 = -1) ∨ (l = 0 ∧ q.1 = ((ctn (fun w => WDr S P K (tvb M) (knR S M) n w && TMw S ps w) (2 ^ n) : Nat) : Int)) ∨ (l = 1 ∧ q.1 = ((ctn (fun w => (WDr S P K (tvb M) (knR S M) n w && isF S n w) && TMw S ps w) (2 ^ n) : Nat) : Int))))) := by
  have h8 := rf.2.2.2.1
  have K8 : K ≤ 8 := by omega
  have vl := tvb_lt hK
  have p8 : 2 ^ K ≤ 2 ^ 8 := Nat.pow_le_pow_right (n := 2) (by decide) K8
  have hF : ∀ p, knR S M p = -1 ∨ knR S M p = 0 ∨ knR S M p = 1 := fun p => knf_rg _ _ _ _ _ _
  unfold mX9_holds
  refine p_pF (ji := 0) rfl (fun m1 h1 => ?_)
  have g1 : ∀ c j : Int, ¬ c = 126 → mG m1 c j = mG M c j := fun c j x => st_ne h1 (fun w => x w.1)
  have k1 : K9 m1 := rf.1.kp (fun j hj => st_ne h1 (fun w => by omega))
  refine p_gFc (ji := 15) rfl k1.c15 (p_aGc (g1 141 8 (by decide)) (p_it0 g (p_gK (p_call (v_can ok rf k1 (fun c j x _ _ => g1 c j x)) (fun v m2 y => ?_)))))
  obtain ⟨rb, y⟩ := y
  rcases y with ⟨z1, z2⟩ | ⟨z1, z2⟩
  · exact p_it1 z2 (p_ret (Or.inl ⟨by omega, rfl⟩))
  replace z2 : v = 1 := z2
  have n12 : n ≤ 12 := by omega
  refine p_it0 (show ¬ v = 0 by omega) (p_call pr_in (fun b m3 y => ?_))
  obtain ⟨y1, y2⟩ := y
  replace y1 : m3 = m2 := y1
  subst y1
  rcases y2 with ⟨b1, b2, b3⟩ | ⟨b1, b2⟩
  · replace b1 : b = 1 := b1
    refine p_it0 (show ¬ b = 0 by omega) (p_gK (p_call (v_prep ok hn n12 h8 rb) (fun v m4 y => ?_)))
    obtain ⟨r4, g4⟩ := y
    rw [hK] at r4
    replace r4 : RWd S P (K : Int) (tvb M) (knR S M) n m4 := r4
    replace g4 : ∀ c j : Int, ¬ (c = 126 ∧ (j = 48 ∨ j = 49 ∨ j = 50)) → mG m4 c j = mG m3 c j := g4
    have t4 : RT ps 8 m4 := ⟨(g4 141 8 (by decide)).trans ((rb.2.2 141 8 (by decide) (by decide) (by decide)).trans rt.1), fun i r hr => (rt.2 i r hr).kp (fun c c0 c1 => (g4 c _ (by omega)).trans (rb.2.2 c _ (by omega) (by omega) (by omega)))⟩
    refine p_mono (v_holds41 (l := l) ok hn n12 hF K8 (by omega) hl hty rfl rfl FU 0 m4 (Nat.zero_le _) r4 t4) (fun q y => Or.inr ⟨n12, Or.inr ?_⟩)
    by_cases e : l = 0
    · refine Or.inl ⟨e, y.trans ?_⟩
      exact ctn_cast (fun w hw => by
        show ((if l = 0 then _ else _) && _) = _
        rw [if_pos e])
    · refine Or.inr ⟨by omega, y.trans ?_⟩
      exact ctn_cast (fun w hw => by
        show ((if l = 0 then _ else _) && _) = _
        rw [if_neg e])
  · exact p_it1 b1 (p_ret (Or.inr ⟨n12, Or.inl ⟨by omega, rfl⟩⟩))
end
theorem eq_holds {l : Int} {M : Mem} (h : JB M) : pw (mX8_holds 1 l M) (fun q1 => pw (mX9_holds 126 l q1.2) (fun q2 => EQ q1 q2)) := by
  obtain ⟨P, n, ok, hn, k2, sh, tp, rf, ve, vlt, h1, hlk⟩ := look h.1
  have iM := h.1.1.1.1
  obtain ⟨K, hK⟩ := Int.eq_ofNat_of_zero_le rf.2.2.2.1.1
  have h8 := rf.2.2.2.1
  rw [hK, Int.toNat_natCast] at vlt
  rcases guess_P h.1 with ⟨a, b⟩ | ⟨g0, ps, tt, rt, hty⟩
  · have c : pw (mX8_holds 1 l M) (fun q => q.1 = -1 ∧ q.2 = M) := by
      unfold mX8_holds
      refine p_if (fun _ => ?_) (fun _ => p_if (fun _ => ?_) (fun _ => p_ret ⟨rfl, rfl⟩))
      · unfold mX4_countGuessWorlds
        exact p_gFc (ji := 0) rfl h1.1 (p_gK (p_call (P := fun q => q.1 = -1 ∧ q.2 = M) (p_gFc (ji := 0) rfl k2.c2_0 (p_gFc (ji := 12) rfl rfl (p_it1 a (p_ret ⟨rfl, rfl⟩)))) (fun v m e => p_ret e)))
      · unfold mX4_countGuessForms
        exact p_gFc (ji := 0) rfl h1.1 (p_gK (p_call (P := fun q => q.1 = -1 ∧ q.2 = M) (p_gFc (ji := 0) rfl k2.c2_0 (p_gFc (ji := 12) rfl rfl (p_it1 a (p_ret ⟨rfl, rfl⟩)))) (fun v m e => p_ret e)))
    refine p_mono c (fun q1 y => ?_)
    rw [y.2]
    have r : pw (mX9_holds 126 l M) (fun q => q.1 = -1) := by
      unfold mX9_holds
      refine p_pF (ji := 0) rfl (fun m1 h1 => ?_)
      have k1 : K9 m1 := rf.1.kp (fun j hj => st_ne h1 (fun w => by omega))
      exact p_gFc (ji := 15) rfl k1.c15 (p_aGc ((st_ne h1 (fun w => absurd w.1 (by decide))).trans b) (p_it1 rfl (p_ret rfl)))
    exact p_mono r (fun q2 z => y.1.trans z.symm)
  · have main : pw (mX8_holds 1 l M) (fun q => F9 M q.2 ∧ ((12 < n ∧ q.1 = -1) ∨ (n ≤ 12 ∧ ((¬ (l = 0 ∨ l = 1) ∧ q.1 = -1) ∨ (l = 0 ∧ q.1 = ((ctn (fun w => WDw (shp M) P (vwb M) (knR (shp M) M) w && TMw (shp M) ps w) (2 ^ n) : Nat) : Int)) ∨ (l = 1 ∧ q.1 = ((ctn (fun w => (WDw (shp M) P (vwb M) (knR (shp M) M) w && isF (shp M) n w) && TMw (shp M) ps w) (2 ^ n) : Nat) : Int)))))) := by
      unfold mX8_holds
      refine p_if (fun c => ?_) (fun c => p_if (fun c2 => ?_) (fun c2 => p_ret ⟨fun _ _ _ _ => rfl, ?_⟩))
      · refine p_gFc (ji := 0) rfl h1.1 (p_gK (p_call (q_gworlds ok hn k2 sh h.2 g0 tt hty hlk) (fun v m y => p_ret ⟨fun c j c0 _ => y.1.2 c j (by omega), ?_⟩)))
        rcases y.2 with z | ⟨z1, z2⟩
        · exact Or.inl z
        · exact Or.inr ⟨z1, Or.inr (Or.inl ⟨c, z2⟩)⟩
      · refine p_gFc (ji := 0) rfl h1.1 (p_gK (p_call (q_gforms ok hn iM sh h.2 g0 tt hty hlk) (fun v m y => p_ret ⟨fun c j c0 _ => y.1.2 c j (by omega), ?_⟩)))
        rcases y.2 with z | ⟨z1, z2⟩
        · exact Or.inl z
        · exact Or.inr ⟨z1, Or.inr (Or.inr ⟨c2, z2⟩)⟩
      · rcases Nat.lt_or_ge 12 n with z | z
        · exact Or.inl ⟨z, rfl⟩
        · exact Or.inr ⟨z, Or.inl ⟨by omega, rfl⟩⟩
    refine p_mono main (fun q1 y => ?_)
    obtain ⟨g, y⟩ := y
    obtain ⟨rf2, e1, e2, e3⟩ := rf.f9 (M' := q1.2) g
    have rt2 : RT ps 8 q1.2 := ⟨(g 141 8 (by decide) (by decide)).trans rt.1, fun i r hr => (rt.2 i r hr).kp (fun c c0 c1 => g c _ (by omega) (by omega))⟩
    have gz : ¬ mG q1.2 141 8 = 0 := by
      have := ty_ne ps hty
      rw [rt2.1]
      omega
    refine p_mono (v_holds (l := l) ok hn rf2 (e3.trans hK) gz rt2 tt.1.1 hty) (fun q2 z => ?_)
    rw [e1, e2, ve] at z
    show q1.1 = q2.1
    rcases y with ⟨a, b⟩ | ⟨a, b⟩
    · rcases z with ⟨c, d⟩ | ⟨c, d⟩
      · rw [b, d]
      · omega
    · rcases z with ⟨c, d⟩ | ⟨c, d⟩
      · omega
      · rcases b with ⟨b1, b2⟩ | ⟨b1, b2⟩ | ⟨b1, b2⟩
        · rcases d with ⟨_, d2⟩ | ⟨d1, _⟩ | ⟨d1, _⟩
          · rw [b2, d2]
          · omega
          · omega
        · rcases d with ⟨d1, _⟩ | ⟨_, d2⟩ | ⟨d1, _⟩
          · omega
          · rw [b2, d2]
            exact ctn_cast (fun w hw => by
              show (WDw (shp M) P (vwb M) (knR (shp M) M) w && _) = _
              rw [wd_eq hn vlt (by omega) hw])
          · omega
        · rcases d with ⟨d1, _⟩ | ⟨d1, _⟩ | ⟨_, d2⟩
          · omega
          · omega
          · rw [b2, d2]
            exact ctn_cast (fun w hw => by
              show ((WDw (shp M) P (vwb M) (knR (shp M) M) w && _) && _) = _
              rw [wd_eq hn vlt (by omega) hw])
theorem jb_holdsE {l1 : Int} {M : Mem} (r1 : (-2147483648) ≤ l1 ∧ l1 ≤ 2147483647) (h : JB M) : wp (mX8_holds 1 l1 M) (fun q1 => wp (mX9_holds 126 l1 q1.2) (fun q2 => JB q2.2 ∧ EQ q1 q2)) := w_and3 (M := M) (jb_holds r1 h) (eq_holds h)
