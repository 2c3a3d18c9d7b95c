/-! ===== the guess: worlds and forms in which it is so ===== -/
section
variable {M : Mem} {n : Nat}
/-- what is judged stays while other cells change -/
theorem CA.sk {S : SH} {M' : Mem} (h : CA S M) (g : ∀ c j : Int, (c = 2 ∧ j = 4) ∨ (c = 3 ∧ (j = 11 ∨ j = 12)) ∨ c = 14 ∨ (47 ≤ c ∧ c ≤ 64) ∨ 169 < c → mG M' c j = mG M c j) : CA S M' := by
  have e4 : mG M' 2 4 = mG M 2 4 := g 2 4 (by decide)
  refine ⟨by rw [e4]; exact h.1, fun s hs hj => ?_⟩
  have e : jb M' s = jb M s := by unfold jb; rw [e4]
  have et : txs M' s = txs M s := by
    unfold txs
    by_cases x : s = 8
    · rw [if_pos x, if_pos x]; exact g 3 12 (by decide)
    · rw [if_neg x, if_neg x]; exact g 14 _ (Or.inr (Or.inr (Or.inl rfl)))
  rw [e] at hj
  obtain ⟨a, b, c, d⟩ := h.2 s hs hj
  rw [et, g 3 11 (by decide)]
  exact ⟨a, b, c, fun ps h1 h2 => (d ps (h1.of (fun b' j b0 b1 => (g b' j (by omega)).symm)) h2).kp (fun j => g _ j (by omega)) (fun j => g _ j (by omega))⟩
/-- the guess, on both sides -/
theorem guess_P (h : J3 M) : (mG M 3 12 = 0 ∧ mG M 141 8 = 0) ∨ ((¬ mG M 3 12 = 0 ∧ 169 < mG M 3 12) ∧ ∃ ps : List Row, TT ps (mG M 3 12) M ∧ RT ps 8 M ∧ ty (shp M).nr (shp M).k1 (shp M).k2 [(0, 255)] ps) := by
  have iM := h.1.1.1
  have sr := h.1.1.2.2.1 0 (by decide) (by decide) (Or.inl rfl)
  obtain ⟨_, _, sc, _⟩ := h.1.2 0 (by decide) (by decide) (Or.inl rfl)
  have r := shp_r sr
  unfold Sc at sc
  rw [sOf_0, show 9 * (0 : Int) + 8 = 8 by omega] at sc
  rcases sc with a | ⟨z, ps, t1, t2, t3⟩
  · exact Or.inl a
  · refine Or.inr ⟨⟨z, (tx_gu iM (i := 0) (by decide) (by decide) z).1⟩, ps, t1, t2, ty.mono (Int.le_of_eq r.2.1) (fun x x0 x1 => ?_) _ _ t3⟩
    have := r.2.2 x x0 (by have := r.2.1; omega)
    rw [show 4 * (0 : Int) + x = x by omega]
    exact ⟨this.1.symm, this.2.symm⟩
/-- the guess is judged -/
theorem q_guess8 {S : SH} {m : Mem} {ps : List Row} {t : Int} (ok : S.ok) (hn : S.nf = (n : Int)) (n12 : n ≤ 12) (k2 : K2 m) (sh : SHC S 4 m) (ca : CA S m) (e12 : mG m 3 12 = t) (h169 : 169 < t) (tt : TT ps t m) (hty : ty S.nr S.k1 S.k2 [(0, 255)] ps) : pw (mX4_truth 2 8 t m) (fun q => q.1 = 63 ∧ WS 63 (n : Int) (TMw S ps) q.2 ∧ FTs 63 m q.2) := by
  refine p_mono (q_truth (s := 8) (t := t) ok (by omega) k2 sh ca (by decide) (by unfold txs; rw [if_pos rfl]; exact e12) h169 (fun x => absurd x (by decide)) tt hty) (fun q y => ?_)
  obtain ⟨y1, _, y3, _, y5⟩ := y
  rw [hn] at y3
  exact ⟨y1, y3, y5⟩
/-- cells that the guess's questions leave alone -/
def FG (M M' : Mem) : Prop := ∀ c j : Int, c ≤ 1 ∨ (3 ≤ c ∧ c ≤ 19) ∨ 65 ≤ c → mG M' c j = mG M c j
theorem q_gworlds {P : Nat → List Row} {ps : List Row} {vw : Nat} {F : Int → Int} (ok : (shp M).ok) (hn : (shp M).nf = (n : Int)) (k2 : K2 M) (sh : SHC (shp M) 4 M) (cb : CB (shp M) M) (g0 : ¬ mG M 3 12 = 0 ∧ 169 < mG M 3 12) (tt : TT ps (mG M 3 12) M) (hty : ty (shp M).nr (shp M).k1 (shp M).k2 [(0, 255)] ps) (hl : pw (mX4_lookUp 2 M) (fun q => (12 < n ∧ q.1 = 0 ∧ q.2 = M) ∨ (n ≤ 12 ∧ q.1 = 1 ∧ LK (shp M) P vw F M q.2))) : pw (mX4_countGuessWorlds 2 M) (fun q => (CB (shp q.2) q.2 ∧ FG M q.2) ∧ ((12 < n ∧ q.1 = -1) ∨ (n ≤ 12 ∧ q.1 = ((ctn (fun w => WDw (shp M) P vw F w && TMw (shp M) ps w) (2 ^ n) : Nat) : Int)))) := by
  obtain ⟨Q, hQ⟩ : ∃ Q : Int × Mem → Prop, Q = fun q => (CB (shp q.2) q.2 ∧ FG M q.2) ∧ ((12 < n ∧ q.1 = -1) ∨ (n ≤ 12 ∧ q.1 = ((ctn (fun w => WDw (shp M) P vw F w && TMw (shp M) ps w) (2 ^ n) : Nat) : Int))) := ⟨_, rfl⟩
  rw [← hQ]
  unfold mX4_countGuessWorlds
  refine p_gFc (ji := 0) rfl k2.c2_0 (p_gFc (ji := 12) rfl rfl (p_it0 g0.1 (p_gK (p_call hl (fun v m y => ?_)))))
  rcases y with ⟨a, b, c⟩ | ⟨a, b, c⟩
  · replace c : m = M := c
    subst c
    refine p_it1 b (p_ret ?_)
    rw [hQ]
    exact ⟨⟨cb, fun _ _ _ => rfl⟩, Or.inl ⟨a, rfl⟩⟩
  replace b : v = 1 := b
  obtain ⟨_, w34, ca, _, fl⟩ := c
  replace w34 : WS 34 (shp M).nf (WDw (shp M) P vw F) m := w34
  replace ca : CA (shp M) m := ca
  replace fl : FLK M m := fl
  rw [hn] at w34
  have km := k2.fl fl
  have e12 : mG m 3 12 = mG M 3 12 := fl 3 12 (nq_0 (by omega))
  refine p_it0 (show ¬ v = 0 by omega) (p_gFc (ji := 6) rfl km.c2_6 (p_gFc (ji := 0) rfl km.c2_0 (p_gFc (ji := 12) rfl e12 (p_gK (p_call (q_guess8 (t := mG M 3 12) ok hn a km (sh.fl fl) ca e12 g0.2 (tt.fl fl g0.2) hty) (fun r m2 y => ?_))))))
  obtain ⟨y1, y3, y5⟩ := y
  replace y1 : r = 63 := y1
  replace y3 : WS 63 (n : Int) (TMw (shp M) ps) m2 := y3
  replace y5 : FTs 63 m m2 := y5
  subst y1
  have g2 : ∀ c j : Int, ¬ c = 2 → ¬ (20 ≤ c ∧ c ≤ 23) → ¬ (63 ≤ c ∧ c ≤ 64) → mG m2 c j = mG m c j := fun c j a b d => y5 c j (by omega) (by omega) (by omega) (by omega) (by omega)
  have c26 : mG m2 2 6 = 34 := (y5 2 6 (by decide) (by decide) (by decide) (by decide) (by decide)).trans km.c2_6
  have v34 : WS 34 (n : Int) (WDw (shp M) P vw F) m2 := w34.kp (fun j => g2 34 j (by decide) (by decide) (by decide)) (fun j => g2 (34 + 1) j (by decide) (by decide) (by decide))
  refine p_gK (p_call (q_keepOnly (l := 34) (l1 := 63) ⟨by omega, by omega⟩ v34 y3 ⟨by decide, by decide⟩) (fun _ m3 y => ?_))
  obtain ⟨w3, f3⟩ := y
  replace w3 : WS 34 (n : Int) (fun w => WDw (shp M) P vw F w && TMw (shp M) ps w) m3 := w3
  replace f3 : FX 35 m2 m3 := f3
  have gg : ∀ c j : Int, c ≤ 1 ∨ (3 ≤ c ∧ c ≤ 19) ∨ (24 ≤ c ∧ c ≤ 31) ∨ 65 ≤ c → mG m3 c j = mG M c j := fun c j hc => (f3 c j (by omega)).trans ((g2 c j (by omega) (by omega) (by omega)).trans (fl c j (nq_0 (by omega))))
  refine p_gFc (ji := 6) rfl ((f3 2 6 (by decide)).trans c26) (p_gK (p_call (q_count (l := 34) ⟨by omega, by omega⟩ w3) (fun r m4 y => p_ret ?_)))
  obtain ⟨z1, z2⟩ := y
  replace z1 : m4 = m3 := z1
  replace z2 : r = ((ctn (fun w => WDw (shp M) P vw F w && TMw (shp M) ps w) (64 * uw (n : Int)) : Nat) : Int) := z2
  subst z1
  rw [ctn_uw a (fun w hw => by rw [wd_out hn hw]; rfl)] at z2
  have es : shp m4 = shp M := shp_go (fun b j x => gg b j (by omega))
  rw [hQ]
  exact ⟨⟨by rw [es]; exact cb.kp (fun c j hc => gg c j (by omega)), fun c j hc => gg c j (by omega)⟩, Or.inr ⟨a, z2⟩⟩
/-- the forms are picked, the guess is judged -/
theorem q_gpick {β : Type} {Q : β → Prop} {P : Nat → List Row} {ps : List Row} {vw : Nat} {F : Int → Int} {n0 : Nat} {K : Int → Mem → Option β} (ok : (shp M).ok) (hn : (shp M).nf = (n : Int)) (iM : I n0 M) (sh : SHC (shp M) 4 M) (cb : CB (shp M) M) (g0 : ¬ mG M 3 12 = 0 ∧ 169 < mG M 3 12) (tt : TT ps (mG M 3 12) M) (hty : ty (shp M).nr (shp M).k1 (shp M).k2 [(0, 255)] ps) (hl : pw (mX4_lookUp 2 M) (fun q => (12 < n ∧ q.1 = 0 ∧ q.2 = M) ∨ (n ≤ 12 ∧ q.1 = 1 ∧ LK (shp M) P vw F M q.2))) (k0 : 12 < n → pw (K (-1) M) Q) {L : Int → Int → Mem → Option β} (k1 : ∀ m, n ≤ 12 → WS 36 (n : Int) (fun w => WDw (shp M) P vw F w && isF (shp M) n w) m → WS 63 (n : Int) (TMw (shp M) ps) m → K2 m → CB (shp M) m → FG M m → pw (L 36 63 m) Q) : pw ((gK 4 M 2).bind fun _ =>
    (mX4_lookUp 2 M).bind fun q11 =>
    if q11.1 = 0 then
      K (-1) q11.2
    else
      (gK 4 q11.2 2).bind fun _ =>
      (mX4_pickForms 2 q11.2).bind fun q20 =>
      (gF 4 7 q20.2 2).bind fun a24 =>
      (gF 4 0 q20.2 2).bind fun a31 =>
      (gF 6 12 q20.2 a31).bind fun a34 =>
      (gK 4 q20.2 2).bind fun _ =>
      (mX4_truth 2 8 a34 q20.2).bind fun q37 => L a24 q37.1 q37.2) Q := by
  have k2 := K2.of iM
  refine p_gK (p_call (p_and hl (p_wp (s_X4_lookUp iM))) (fun v m y => ?_))
  obtain ⟨y, im, _⟩ := y
  replace im : I n0 m := im
  rcases y with ⟨a, b, c⟩ | ⟨a, b, c⟩
  · replace c : m = M := c
    subst c
    exact p_it1 b (k0 a)
  replace b : v = 1 := b
  have lk : LK (shp M) P vw F M m := c
  obtain ⟨_, _, ca, _, fl⟩ := c
  replace ca : CA (shp M) m := ca
  replace fl : FLK M m := fl
  refine p_it0 (show ¬ v = 0 by omega) (p_gK (p_call (p_and (q_picked ok hn a k2 sh cb lk) (p_wp (s_X4_pickForms im))) (fun _ m2 y => ?_)))
  obtain ⟨⟨w36, cb2, g2⟩, i2, _⟩ := y
  replace w36 : WS 36 (n : Int) (fun w => WDw (shp M) P vw F w && isF (shp M) n w) m2 := w36
  replace cb2 : CB (shp M) m2 := cb2
  replace g2 : ∀ c j : Int, ¬ (24 ≤ c ∧ c ≤ 30) → ¬ c = 37 → ¬ (c = 36 ∧ (j = 1 ∨ j = 2)) → mG m2 c j = mG m c j := g2
  replace i2 : I n0 m2 := i2
  have kk := K2.of i2
  have gM : ∀ c j : Int, c ≤ 1 ∨ (3 ≤ c ∧ c ≤ 19) ∨ 65 ≤ c → mG m2 c j = mG M c j := fun c j hc => (g2 c j (by omega) (by omega) (by omega)).trans (fl c j (nq_0 (by omega)))
  have e12 : mG m2 3 12 = mG M 3 12 := gM 3 12 (by decide)
  refine p_gFc (ji := 7) rfl kk.c2_7 (p_gFc (ji := 0) rfl kk.c2_0 (p_gFc (ji := 12) rfl e12 (p_gK (p_call (q_guess8 (t := mG M 3 12) ok hn a kk (sh.kp (fun c j c0 c1 => gM c j (by omega))) (ca.sk (fun c j hc => g2 c j (by omega) (by omega) (by omega))) e12 g0.2 (tt.of (fun b j b0 b1 => gM b j (by omega))) hty) (fun r m3 y => ?_)))))
  obtain ⟨y1, y3, y5⟩ := y
  replace y1 : r = 63 := y1
  replace y3 : WS 63 (n : Int) (TMw (shp M) ps) m3 := y3
  replace y5 : FTs 63 m2 m3 := y5
  subst y1
  have g3 : ∀ c j : Int, ¬ c = 2 → ¬ (20 ≤ c ∧ c ≤ 23) → ¬ (63 ≤ c ∧ c ≤ 64) → mG m3 c j = mG m2 c j := fun c j a b d => y5 c j (by omega) (by omega) (by omega) (by omega) (by omega)
  refine k1 m3 a (w36.kp (fun j => g3 36 j (by decide) (by decide) (by decide)) (fun j => g3 (36 + 1) j (by decide) (by decide) (by decide))) y3 (kk.fl (FTs.fl (s := 8) y5 (by decide))) (cb2.kp (fun c j hc => g3 c j (by omega) (by omega) (by omega))) (fun c j hc => (g3 c j (by omega) (by omega) (by omega)).trans (gM c j hc))
theorem q_gforms {P : Nat → List Row} {ps : List Row} {vw : Nat} {F : Int → Int} {n0 : Nat} (ok : (shp M).ok) (hn : (shp M).nf = (n : Int)) (iM : I n0 M) (sh : SHC (shp M) 4 M) (cb : CB (shp M) M) (g0 : ¬ mG M 3 12 = 0 ∧ 169 < mG M 3 12) (tt : TT ps (mG M 3 12) M) (hty : ty (shp M).nr (shp M).k1 (shp M).k2 [(0, 255)] ps) (hl : pw (mX4_lookUp 2 M) (fun q => (12 < n ∧ q.1 = 0 ∧ q.2 = M) ∨ (n ≤ 12 ∧ q.1 = 1 ∧ LK (shp M) P vw F M q.2))) : pw (mX4_countGuessForms 2 M) (fun q => (CB (shp q.2) q.2 ∧ FG M q.2) ∧ ((12 < n ∧ q.1 = -1) ∨ (n ≤ 12 ∧ q.1 = ((ctn (fun w => (WDw (shp M) P vw F w && isF (shp M) n w) && TMw (shp M) ps w) (2 ^ n) : Nat) : Int)))) := by
  have k2 := K2.of iM
  unfold mX4_countGuessForms
  refine p_gFc (ji := 0) rfl k2.c2_0 (p_gFc (ji := 12) rfl rfl (p_it0 g0.1 ?_))
  refine q_gpick (K := fun v m => some (v, m)) (L := fun a b m => (gK 7 m a).bind fun _ => (mX7_keepOnly a b m).bind fun q40 => (gF 4 7 q40.2 2).bind fun a44 => (gK 7 q40.2 a44).bind fun _ => (mX7_count a44 q40.2).bind fun q47 => some (q47.1, q47.2)) ok hn iM sh cb g0 tt hty hl (fun c => p_ret ⟨⟨cb, fun _ _ _ => rfl⟩, Or.inl ⟨c, rfl⟩⟩) (fun m n12 w36 w63 km cb2 fg => ?_)
  refine p_gK (p_call (q_keepOnly (l := 36) (l1 := 63) ⟨by omega, by omega⟩ w36 w63 ⟨by decide, by decide⟩) (fun _ m3 y => ?_))
  obtain ⟨w3, f3⟩ := y
  replace w3 : WS 36 (n : Int) (fun w => (WDw (shp M) P vw F w && isF (shp M) n w) && TMw (shp M) ps w) m3 := w3
  replace f3 : FX 37 m m3 := f3
  refine p_gFc (ji := 7) rfl ((f3 2 7 (by decide)).trans km.c2_7) (p_gK (p_call (q_count (l := 36) ⟨by omega, by omega⟩ w3) (fun r m4 y => p_ret ?_)))
  obtain ⟨z1, z2⟩ := y
  replace z1 : m4 = m3 := z1
  replace z2 : r = ((ctn (fun w => (WDw (shp M) P vw F w && isF (shp M) n w) && TMw (shp M) ps w) (64 * uw (n : Int)) : Nat) : Int) := z2
  subst z1
  rw [ctn_uw n12 (fun w hw => by rw [wd_out hn hw]; rfl)] at z2
  have gg : FG M m4 := fun c j hc => (f3 c j (by omega)).trans (fg c j hc)
  have es : shp m4 = shp M := shp_go (fun b j x => gg b j (by omega))
  exact ⟨⟨by rw [es]; exact cb2.kp (fun c j hc => f3 c j (by omega)), gg⟩, Or.inr ⟨n12, z2⟩⟩
theorem q_gagainst {P : Nat → List Row} {ps : List Row} {vw : Nat} {F : Int → Int} {n0 : Nat} (ok : (shp M).ok) (hn : (shp M).nf = (n : Int)) (iM : I n0 M) (sh : SHC (shp M) 4 M) (cb : CB (shp M) M) (g0 : ¬ mG M 3 12 = 0 ∧ 169 < mG M 3 12) (tt : TT ps (mG M 3 12) M) (hty : ty (shp M).nr (shp M).k1 (shp M).k2 [(0, 255)] ps) (hl : pw (mX4_lookUp 2 M) (fun q => (12 < n ∧ q.1 = 0 ∧ q.2 = M) ∨ (n ≤ 12 ∧ q.1 = 1 ∧ LK (shp M) P vw F M q.2))) : pw (mX4_formAgainst 2 M) (fun q => (CB (shp q.2) q.2 ∧ FG M q.2) ∧ ((12 < n ∧ q.1 = -1) ∨ (n ≤ 12 ∧ NTH (fun w => (WDw (shp M) P vw F w && isF (shp M) n w) && !TMw (shp M) ps w) (2 ^ n) 0 q.1))) := by
  have k2 := K2.of iM
  unfold mX4_formAgainst
  refine p_gFc (ji := 0) rfl k2.c2_0 (p_gFc (ji := 12) rfl rfl (p_it0 g0.1 ?_))
  refine q_gpick (K := fun v m => some (v, m)) (L := fun a b m => (gK 7 m a).bind fun _ => (mX7_drop a b m).bind fun q40 => (gF 4 7 q40.2 2).bind fun a44 => (gK 7 q40.2 a44).bind fun _ => (mX7_nth a44 0 q40.2).bind fun q48 => some (q48.1, q48.2)) ok hn iM sh cb g0 tt hty hl (fun c => p_ret ⟨⟨cb, fun _ _ _ => rfl⟩, Or.inl ⟨c, rfl⟩⟩) (fun m n12 w36 w63 km cb2 fg => ?_)
  refine p_gK (p_call (q_drop (l := 36) (l1 := 63) ⟨by omega, by omega⟩ w36 w63 ⟨by decide, by decide⟩) (fun _ m3 y => ?_))
  obtain ⟨w3, f3⟩ := y
  replace w3 : WS 36 (n : Int) (fun w => (WDw (shp M) P vw F w && isF (shp M) n w) && !TMw (shp M) ps w) m3 := w3
  replace f3 : FX 37 m m3 := f3
  refine p_gFc (ji := 7) rfl ((f3 2 7 (by decide)).trans km.c2_7) (p_gK (p_call (q_nth (l := 36) (k := 0) (by decide) ⟨by omega, by omega⟩ w3) (fun r m4 y => p_ret ?_)))
  obtain ⟨z1, z2⟩ := y
  replace z1 : m4 = m3 := z1
  replace z2 : NTH (fun w => (WDw (shp M) P vw F w && isF (shp M) n w) && !TMw (shp M) ps w) (2 ^ (n : Int).toNat) 0 r := z2
  subst z1
  rw [Int.toNat_natCast] at z2
  have gg : FG M m4 := fun c j hc => (f3 c j (by omega)).trans (fg c j hc)
  have es : shp m4 = shp M := shp_go (fun b j x => gg b j (by omega))
  exact ⟨⟨by rw [es]; exact cb2.kp (fun c j hc => f3 c j (by omega)), gg⟩, Or.inr ⟨n12, z2⟩⟩
theorem cb_holds {l : Int} (h : JB M) : pw (mX8_holds 1 l M) (fun q => CB (shp q.2) q.2) := by
  obtain ⟨P, n, ok, hn, k2, sh, tp, rf, ve, vlt, h1, hl⟩ := look h.1
  have iM := h.1.1.1.1
  unfold mX8_holds
  rcases guess_P h.1 with ⟨a, _⟩ | ⟨g0, ps, tt, _, hty⟩
  · refine p_if (fun _ => ?_) (fun _ => p_if (fun _ => ?_) (fun _ => p_ret h.2))
    · unfold mX4_countGuessWorlds
      exact p_gFc (ji := 0) rfl h1.1 (p_gK (p_call (P := fun q => q.2 = M) (p_gFc (ji := 0) rfl k2.c2_0 (p_gFc (ji := 12) rfl rfl (p_it1 a (p_ret rfl)))) (fun v m e => p_ret (by
        replace e : m = M := e
        show CB (shp m) m
        rw [e]; exact h.2))))
    · unfold mX4_countGuessForms
      exact p_gFc (ji := 0) rfl h1.1 (p_gK (p_call (P := fun q => q.2 = M) (p_gFc (ji := 0) rfl k2.c2_0 (p_gFc (ji := 12) rfl rfl (p_it1 a (p_ret rfl)))) (fun v m e => p_ret (by
        replace e : m = M := e
        show CB (shp m) m
        rw [e]; exact h.2))))
  · refine p_if (fun _ => ?_) (fun _ => p_if (fun _ => ?_) (fun _ => p_ret h.2))
    · exact p_gFc (ji := 0) rfl h1.1 (p_gK (p_call (q_gworlds ok hn k2 sh h.2 g0 tt hty hl) (fun v m y => p_ret y.1.1)))
    · exact p_gFc (ji := 0) rfl h1.1 (p_gK (p_call (q_gforms ok hn iM sh h.2 g0 tt hty hl) (fun v m y => p_ret y.1.1)))
theorem cb_against (h : JB M) : pw (mX8_against 1 M) (fun q => CB (shp q.2) q.2) := by
  obtain ⟨P, n, ok, hn, k2, sh, tp, rf, ve, vlt, h1, hl⟩ := look h.1
  have iM := h.1.1.1.1
  unfold mX8_against
  refine p_gFc (ji := 0) rfl h1.1 (p_gK (p_call (P := fun q => CB (shp q.2) q.2 ∧ I (mN M) q.2) (p_and ?_ (p_mono (p_wp (s_X4_formAgainst iM)) (fun q y => y.1))) (fun v m y => p_gK (p_call (cb_becomes y.2 y.1) (fun v m y => p_zR (fun _ => p_ret y))))))
  rcases guess_P h.1 with ⟨a, _⟩ | ⟨g0, ps, tt, _, hty⟩
  · unfold mX4_formAgainst
    exact p_gFc (ji := 0) rfl k2.c2_0 (p_gFc (ji := 12) rfl rfl (p_it1 a (p_ret h.2)))
  · exact p_mono (q_gagainst ok hn iM sh h.2 g0 tt hty hl) (fun q y => y.1.1)
end
