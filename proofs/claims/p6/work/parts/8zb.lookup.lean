/-! ===== what is judged of texts, kept ===== -/
def txs (M : Mem) (s : Nat) : Int := if s = 8 then mG M 3 12 else mG M 14 (s : Int)
def jb (M : Mem) (s : Nat) : Bool := (mG M 2 4).toNat.testBit s
def CAs (S : SH) (s : Nat) (t : Int) (M : Mem) : Prop := ∀ ps : List Row, TT ps t M → ty S.nr S.k1 S.k2 [(0, 255)] ps → WS (47 + 2 * (s : Int)) S.nf (TMw S ps) M
def CA (S : SH) (M : Mem) : Prop := (0 ≤ mG M 2 4 ∧ mG M 2 4 < 512) ∧ ∀ s : Nat, s < 9 → jb M s = true → S.nf ≤ 12 ∧ 169 < txs M s ∧ (s < 8 → (s : Int) < mG M 3 11) ∧ CAs S s (txs M s) M
/-- the cells that a truth changes, the look-up changes -/
def FTs (l : Int) (M M' : Mem) : Prop := ∀ c j : Int, ¬ (c = 20 ∧ (j = 0 ∨ j = 1 ∨ j = 5)) → ¬ (21 ≤ c ∧ c ≤ 23) → ¬ (c = 2 ∧ j = 4) → ¬ c = l + 1 → ¬ (c = l ∧ (j = 1 ∨ j = 2)) → mG M' c j = mG M c j
def QC (c j : Int) : Prop := (c = 20 ∧ (j = 0 ∨ j = 1 ∨ j = 5)) ∨ (21 ≤ c ∧ c ≤ 23) ∨ (c = 2 ∧ j = 4) ∨ c = 33 ∨ c = 35 ∨ ((c = 32 ∨ c = 34) ∧ (j = 1 ∨ j = 2)) ∨ (48 ≤ c ∧ c ≤ 64 ∧ c % 2 = 0) ∨ (47 ≤ c ∧ c ≤ 63 ∧ c % 2 = 1 ∧ (j = 1 ∨ j = 2))
def FLK (M M' : Mem) : Prop := ∀ c j : Int, ¬ QC c j → mG M' c j = mG M c j
theorem FLK.rf {M : Mem} : FLK M M := fun _ _ _ => rfl
theorem FLK.tr {M M1 M2 : Mem} (h : FLK M M1) (k : FLK M1 M2) : FLK M M2 := fun c j x => (k c j x).trans (h c j x)
theorem nq_0 {c j : Int} (h : c ≤ 1 ∨ (3 ≤ c ∧ c ≤ 19) ∨ (24 ≤ c ∧ c ≤ 31) ∨ (36 ≤ c ∧ c ≤ 46) ∨ 65 ≤ c) : ¬ QC c j := by
  unfold QC
  omega
theorem K2.fl {M M' : Mem} (h : K2 M) (k : FLK M M') : K2 M' := h.kp (fun x hx => k _ _ (fun e => by
  have c := cst_out x hx
  unfold QC at e
  omega))
theorem FTs.fl {s : Nat} {M M' : Mem} (k : FTs (47 + 2 * (s : Int)) M M') (hs : s < 9) : FLK M M' := fun c j x => by
  unfold QC at x
  exact k c j (fun e => x (Or.inl e)) (fun e => x (Or.inr (Or.inl e))) (fun e => x (Or.inr (Or.inr (Or.inl e)))) (fun e => x (by omega)) (fun e => x (by omega))
theorem FX.fl {l : Int} {M M' : Mem} (k : FX l M M') (hl : l = 33 ∨ l = 35) : FLK M M' := fun c j x => k c j (fun e => x (by unfold QC; omega))
theorem FW.fl {l : Int} {M M' : Mem} (k : FW l M M') (hl : l = 32 ∨ l = 34) : FLK M M' := fun c j x => k c j (fun e => x (by unfold QC; omega)) (fun e => x (by unfold QC; omega))
theorem SHC.fl {S : SH} {M M' : Mem} (h : SHC S 4 M) (k : FLK M M') : SHC S 4 M' := h.kp (fun c j c0 c1 => k c j (nq_0 (by omega)))
theorem TT.fl {ps : List Row} {t : Int} {M M' : Mem} (h : TT ps t M) (k : FLK M M') (ht : 169 < t) : TT ps t M' := h.of (fun b j b0 b1 => k b j (nq_0 (by omega)))
theorem TT.fl' {ps : List Row} {t : Int} {M M' : Mem} (h : TT ps t M') (k : FLK M M') (ht : 169 < t) : TT ps t M := h.of (fun b j b0 b1 => (k b j (nq_0 (by omega))).symm)
theorem txs_fl {M M' : Mem} (k : FLK M M') (s : Nat) : txs M' s = txs M s := by
  unfold txs
  split
  · exact k 3 12 (nq_0 (by omega))
  · exact k 14 _ (nq_0 (by omega))
/-- the truths stay while other cells change -/
theorem CA.fl {S : SH} {M M' : Mem} (h : CA S M) (k : FLK M M') (h4 : mG M' 2 4 = mG M 2 4) (g : ∀ c j : Int, 47 ≤ c → c ≤ 64 → mG M' c j = mG M c j) : CA S M' := by
  refine ⟨by rw [h4]; exact h.1, fun s hs hj => ?_⟩
  have e : jb M' s = jb M s := by unfold jb; rw [h4]
  rw [e] at hj
  obtain ⟨a, b, c, d⟩ := h.2 s hs hj
  rw [txs_fl k s, k 3 11 (nq_0 (by omega))]
  exact ⟨a, b, c, fun ps h1 h2 => (d ps (h1.fl' k b) h2).kp (fun j => g _ j (by omega) (by omega)) (fun j => g _ j (by omega) (by omega))⟩
section
variable {S : SH} {ps : List Row} {t : Int} {M : Mem} {s : Nat}
theorem jb_or {j s : Nat} (hj : j < 512) (hs : s < 9) : ior (j : Int) (ishl 1 (s : Int)) = ((j ||| 2 ^ s : Nat) : Int) ∧ (j ||| 2 ^ s) < 512 := by
  have h1 : (2 : Nat) ^ s < 2 ^ 9 := Nat.pow_lt_pow_right (by decide) hs
  rw [ishl1 s (by omega), show (2 : Int) ^ s = ((2 ^ s : Nat) : Int) by simp]
  exact ⟨ior_nn (by omega) (by omega), Nat.or_lt_two_pow (n := 9) hj h1⟩
theorem jb_tb {j s u : Nat} : (j ||| 2 ^ s).testBit u = (j.testBit u || decide (s = u)) := by
  rw [Nat.testBit_or]
  by_cases e : s = u
  · subst e
    rw [Nat.testBit_two_pow_self, decide_eq_true rfl]
  · rw [Nat.testBit_two_pow_of_ne e, decide_eq_false e]
theorem q_truth (ok : S.ok) (n12 : S.nf ≤ 12) (k2 : K2 M) (sh : SHC S 4 M) (ca : CA S M) (hs : s < 9) (ht : txs M s = t) (h169 : 169 < t) (h3 : s < 8 → (s : Int) < mG M 3 11) (tt : TT ps t M) (hty : ty S.nr S.k1 S.k2 [(0, 255)] ps) : pw (mX4_truth 2 (s : Int) t M) (fun q => q.1 = 47 + 2 * (s : Int) ∧ CA S q.2 ∧ WS (47 + 2 * (s : Int)) S.nf (TMw S ps) q.2 ∧ (jb q.2 s = true ∧ ∀ u, jb M u = true → jb q.2 u = true) ∧ FTs (47 + 2 * (s : Int)) M q.2) := by
  have nf := ok.nf
  have ub := uw_b ⟨nf.1, n12⟩
  obtain ⟨w1, w2⟩ := k2.ws hs
  obtain ⟨J, hJ⟩ := Int.eq_ofNat_of_zero_le ca.1.1
  have J5 : J < 512 := by have := ca.1.2; omega
  have jbe : ∀ u, jb M u = J.testBit u := fun u => by unfold jb; rw [hJ, Int.toNat_natCast]
  obtain ⟨Q, hQ⟩ : ∃ Q : Int × Mem → Prop, Q = fun q => q.1 = 47 + 2 * (s : Int) ∧ CA S q.2 ∧ WS (47 + 2 * (s : Int)) S.nf (TMw S ps) q.2 ∧ (jb q.2 s = true ∧ ∀ u, jb M u = true → jb q.2 u = true) ∧ FTs (47 + 2 * (s : Int)) M q.2 := ⟨_, rfl⟩
  rw [← hQ]
  have loop : ∀ (fu a : Nat) (m : Mem), a ≤ uw S.nf → FTs (47 + 2 * (s : Int)) M m → mG m 2 4 = (J : Int) → (mG m (47 + 2 * (s : Int)) 0 = 47 + 2 * (s : Int) + 1 ∧ mG m (47 + 2 * (s : Int)) 1 = ((uw S.nf : Nat) : Int) ∧ mG m (47 + 2 * (s : Int)) 2 = S.nf) → (∀ ps : List Row, TT ps t M → ty S.nr S.k1 S.k2 [(0, 255)] ps → WH (47 + 2 * (s : Int)) S.nf (fun _ => false) (TMw S ps) a m) → pw (mX4_truth_39 fu 2 (s : Int) t (47 + 2 * (s : Int)) (a : Int) m) Q := by
    intro fu
    induction fu with
    | zero => intro a m _ _ _ _ _; exact p_none
    | succ fu ih =>
      intro a m ha fr h4 h0 wh
      show pw (bX4_truth_39 (mX4_truth_39 fu) 2 (s : Int) t (47 + 2 * (s : Int)) (a : Int) m) _
      have fl := fr.fl hs
      have km := k2.fl fl
      unfold bX4_truth_39
      refine p_gK (p_call (P := fun q => q.2 = m ∧ q.1 = ((uw S.nf : Nat) : Int)) ?_ (fun r m1 y => ?_))
      · unfold mX7_usedWords
        exact p_gFc (ji := 1) rfl h0.2.1 (p_ret ⟨rfl, rfl⟩)
      obtain ⟨y1, y2⟩ := y
      replace y1 : m1 = m := y1
      replace y2 : r = ((uw S.nf : Nat) : Int) := y2
      subst y1
      refine p_if (fun c => ?_) (fun c => ?_)
      · refine p_gFc (ji := 4) rfl h4 (p_pF (ji := 4) rfl (fun m2 h2 => ?_))
        unfold mX4_truth_90
        refine p_ret ?_
        obtain ⟨o1, o2⟩ := jb_or J5 hs
        have f2 : FTs (47 + 2 * (s : Int)) M m2 := fun c j x y z u v => (st_ne h2 z).trans (fr c j x y z u v)
        have g2 : ∀ c j : Int, ¬ c = 2 → mG m2 c j = mG m1 c j := fun c j x => st_ne h2 (fun w => x w.1)
        have e4 : mG m2 2 4 = ((J ||| 2 ^ s : Nat) : Int) := (st_eq h2).trans o1
        have jb2 : ∀ u, jb m2 u = (J.testBit u || decide (s = u)) := fun u => by unfold jb; rw [e4, Int.toNat_natCast, jb_tb]
        have all : ∀ ps : List Row, TT ps t M → ty S.nr S.k1 S.k2 [(0, 255)] ps → WS (47 + 2 * (s : Int)) S.nf (TMw S ps) m2 := fun ps' t1 t2 =>
          ((wh ps' t1 t2).done (by omega) h0).kp (fun j => g2 _ j (by omega)) (fun j => g2 _ j (by omega))
        have fl2 := f2.fl hs
        rw [hQ]
        refine ⟨rfl, ⟨by rw [e4]; omega, fun u hu hj => ?_⟩, all ps tt hty, ⟨?_, fun u hu => ?_⟩, f2⟩
        · rw [txs_fl fl2 u, fl2 3 11 (nq_0 (by omega))]
          by_cases e : s = u
          · subst e
            rw [ht]
            exact ⟨n12, h169, h3, fun ps' t1 t2 => all ps' (t1.fl' fl2 h169) t2⟩
          · rw [jb2, decide_eq_false e, Bool.or_false, ← jbe] at hj
            obtain ⟨a1, a2, a3, a4⟩ := ca.2 u hu hj
            have g : ∀ c j : Int, 47 ≤ c → ¬ c = 47 + 2 * (s : Int) + 1 → ¬ c = 47 + 2 * (s : Int) → mG m2 c j = mG M c j := fun c j c0 c1 c2 => f2 c j (by omega) (by omega) (by omega) c1 (fun w => c2 w.1)
            exact ⟨a1, a2, a3, fun ps' t1 t2 => (a4 ps' (t1.fl' fl2 a2) t2).kp (fun j => g _ j (by omega) (by omega) (by omega)) (fun j => g _ j (by omega) (by omega) (by omega))⟩
        · show jb m2 s = true
          rw [jb2, decide_eq_true rfl, Bool.or_true]
        · show jb m2 u = true
          rw [jbe] at hu
          rw [jb2, hu]; rfl
      · refine p_gFc (ji := 0) rfl h0.1 (p_gFc (ji := 1) rfl km.c2_1 (p_gFc (ji := 0) rfl km.c2_0 (p_gFc (ji := 0) rfl km.c3_0 (p_gK ?_))))
        have a64 : a < 64 := by omega
        have si : ∀ ps' : List Row, TT ps' t M → ty S.nr S.k1 S.k2 [(0, 255)] ps' → _ := fun ps' t1 t2 => q_soInWord (s := 4) (t := t) (a := a) ok n12 ⟨Or.inl rfl, h169⟩ km (sh.fl fl) (t1.fl fl h169) t2 a64
        refine p_call (P := fun q => (InLL q.1 ∧ FQ m1 q.2) ∧ ∀ ps' : List Row, TT ps' t M → ty S.nr S.k1 S.k2 [(0, 255)] ps' → ∀ b : Nat, b < 64 → lb q.1 b = TMw S ps' (64 * a + b)) (fun q e => ?_) (fun v m2 y => ?_)
        · have z := si ps tt hty q e
          exact ⟨⟨z.1.1, z.2⟩, fun ps' t1 t2 => (si ps' t1 t2 q e).1.2⟩
        obtain ⟨⟨y1, y2⟩, y3⟩ := y
        replace y1 : InLL v := y1
        replace y2 : FQ m1 m2 := y2
        replace y3 : ∀ ps' : List Row, TT ps' t M → ty S.nr S.k1 S.k2 [(0, 255)] ps' → ∀ b : Nat, b < 64 → lb v b = TMw S ps' (64 * a + b) := y3
        refine p_aS (fun m3 h3' => ?_)
        rw [wI_s (p := a) (by omega)]
        have g3 : ∀ c j : Int, ¬ (20 ≤ c ∧ c ≤ 23) → ¬ c = 47 + 2 * (s : Int) + 1 → mG m3 c j = mG m1 c j := fun c j x y => (st_ne h3' (fun w => y w.1)).trans (y2 c j (fun w => x (by omega)) (fun w => x (by omega)))
        refine ih (a + 1) m3 (by omega) (fun c j x y z u v => ?_) ((g3 2 4 (by omega) (by omega)).trans h4) ⟨(g3 _ 0 (by omega) (by omega)).trans h0.1, (g3 _ 1 (by omega) (by omega)).trans h0.2.1, (g3 _ 2 (by omega) (by omega)).trans h0.2.2⟩ (fun ps' t1 t2 => ?_)
        · rw [st_ne h3' (fun w => u w.1), y2 c j x y]
          exact fr c j x y z u v
        · have w0 : WH (47 + 2 * (s : Int)) S.nf (fun _ => false) (TMw S ps') a m2 := fun x hx => by
            rw [y2 _ _ (fun w => by omega) (fun w => by omega)]
            exact wh ps' t1 t2 x hx
          exact w0.st h3' y1 (y3 ps' t1 t2)
  unfold mX4_truth
  refine p_gFc (ji := 3) rfl k2.c2_3 (p_aGc w1 (p_it0 (by omega) (p_gFc (ji := 4) rfl hJ (p_if (fun c => ?_) (fun c => ?_)))))
  · refine p_gFc (ji := 0) rfl k2.c2_0 (p_gFc (ji := 0) rfl k2.c3_0 (p_gFc (ji := 7) rfl sh.1.2.2.2.2.2.2.2 (p_gK (p_call (q_takeNone (l := 47 + 2 * (s : Int)) ⟨nf.1, n12⟩ w2) (fun _ m y => ?_)))))
    obtain ⟨y1, y2⟩ := y
    replace y1 : WS (47 + 2 * (s : Int)) S.nf (fun _ => false) m := y1
    replace y2 : FW (47 + 2 * (s : Int)) M m := y2
    exact loop FU 0 m (by omega) (fun c j _ _ _ x y => y2 c j x y) ((y2 2 4 (by omega) (by omega)).trans hJ) y1.1 (fun ps' _ _ => y1.wh)
  · unfold mX4_truth_90
    have hb : jb M s = true := by
      rw [jbe]
      cases e : J.testBit s with
      | true => rfl
      | false => exact absurd ((ibit (by omega) (by omega)).mpr e) c
    rw [hQ]
    refine p_ret ⟨rfl, ca, ?_, ⟨hb, fun u hu => hu⟩, fun c j _ _ _ _ _ => rfl⟩
    have := (ca.2 s hs hb).2.2.2
    rw [ht] at this
    exact this ps tt hty
/-- the stories of the view, as bits -/
def vwb (M : Mem) : Nat := bitsOf (vwf (vdy (mG M 3 13) (mG M 3 14)) (mG M 15) (mG M 16)) (mG M 3 11).toNat
def stw (S : SH) (P : Nat → List Row) (vw : Nat) (w : Nat) (s : Nat) : Bool := !vw.testBit s || TMw S (P s) w
/-- the worlds -/
def WDw (S : SH) (P : Nat → List Row) (vw : Nat) (kq : Int → Int) (w : Nat) : Bool := PKq S.nf kq S.nf.toNat w && allb (stw S P vw w) 8
theorem vwb_fl {M M' : Mem} (k : FLK M M') : vwb M' = vwb M := by
  unfold vwb
  rw [k 3 13 (nq_0 (by omega)), k 3 14 (nq_0 (by omega)), k 3 11 (nq_0 (by omega)), show mG M' 15 = mG M 15 from funext (fun j => k 15 j (nq_0 (by omega))), show mG M' 16 = mG M 16 from funext (fun j => k 16 j (nq_0 (by omega)))]
def LK (S : SH) (P : Nat → List Row) (vw : Nat) (kq : Int → Int) (M m : Mem) : Prop := WS 32 S.nf (PKq S.nf kq S.nf.toNat) m ∧ WS 34 S.nf (WDw S P vw kq) m ∧ CA S m ∧ (∀ s : Nat, s < 8 → vw.testBit s = true → jb m s = true) ∧ FLK M m
/-- the texts that are told -/
def TXP (S : SH) (P : Nat → List Row) (M : Mem) : Prop := ∀ s : Nat, (s : Int) < mG M 3 11 → 169 < mG M 14 (s : Int) ∧ TT (P s) (mG M 14 (s : Int)) M ∧ ty S.nr S.k1 S.k2 [(0, 255)] (P s)
theorem TXP.fl {P : Nat → List Row} {M M' : Mem} (h : TXP S P M) (k : FLK M M') : TXP S P M' := fun s hs => by
  rw [k 3 11 (nq_0 (by omega))] at hs
  obtain ⟨a, b, c⟩ := h s hs
  rw [k 14 _ (nq_0 (by omega))]
  exact ⟨a, b.fl k a, c⟩
theorem q_canTell (k2 : K2 M) (sh : SHC S 4 M) : pw (mX4_canTell 2 M) (fun q => q.2 = M ∧ ((12 < S.nf ∧ q.1 = 0) ∨ (S.nf ≤ 12 ∧ q.1 = 1))) := by
  unfold mX4_canTell
  exact p_gFc (ji := 0) rfl k2.c2_0 (p_gFc (ji := 0) rfl k2.c3_0 (p_gFc (ji := 7) rfl sh.1.2.2.2.2.2.2.2 (p_if (fun c => p_ret ⟨rfl, Or.inl ⟨c, rfl⟩⟩) (fun c => p_ret ⟨rfl, Or.inr ⟨by omega, rfl⟩⟩))))
theorem q_lookUp {P : Nat → List Row} {kq : Int → Int} (ok : S.ok) (k2 : K2 M) (sh : SHC S 4 M) (ca : CA S M) (hn : 0 ≤ mG M 3 11 ∧ mG M 3 11 ≤ 8) (hP : TXP S P M) (hq : ∀ p, kq p = -1 ∨ kq p = 0 ∨ kq p = 1) (kn : ∀ r i j : Int, (0 ≤ r ∧ r < S.nr) → (0 ≤ i ∧ i < S.zv (S.k1 r)) → (0 ≤ j ∧ j < S.zv (S.k2 r)) → ∀ m, FW 32 M m → K2 m → pw (mX6_knownOf 3 r i j m) (fun q => q.2 = m ∧ q.1 = kq (S.at' r i j))) : pw (mX4_lookUp 2 M) (fun q => (12 < S.nf ∧ q.1 = 0 ∧ q.2 = M) ∨ (S.nf ≤ 12 ∧ q.1 = 1 ∧ LK S P (vwb M) kq M q.2)) := by
  have nf := ok.nf
  obtain ⟨Q, hQ⟩ : ∃ Q : Int × Mem → Prop, Q = fun q => (12 < S.nf ∧ q.1 = 0 ∧ q.2 = M) ∨ (S.nf ≤ 12 ∧ q.1 = 1 ∧ LK S P (vwb M) kq M q.2) := ⟨_, rfl⟩
  rw [← hQ]
  obtain ⟨vw, hvw⟩ : ∃ vw, vw = vwb M := ⟨_, rfl⟩
  rw [← hvw] at hQ
  have vlt : vw < 2 ^ (mG M 3 11).toNat := by rw [hvw]; exact bitsOf_lt _ _
  have v8 : vw < 256 := Nat.lt_of_lt_of_le vlt (Nat.pow_le_pow_right (n := 2) (by decide) (show (mG M 3 11).toNat ≤ 8 by omega))
  have vin : ∀ s : Nat, vw.testBit s = true → (s : Int) < mG M 3 11 := fun s h => by
    have : s < (mG M 3 11).toNat := by
      apply Classical.byContradiction
      intro h2
      have := Nat.testBit_lt_two_pow (Nat.lt_of_lt_of_le vlt (Nat.pow_le_pow_right (n := 2) (by decide) (show (mG M 3 11).toNat ≤ s by omega)))
      rw [h] at this
      cases this
    omega
  unfold mX4_lookUp
  refine p_gK (p_call (q_canTell k2 sh) (fun r m y => ?_))
  obtain ⟨y1, y2⟩ := y
  replace y1 : m = M := y1
  subst y1
  rcases y2 with ⟨z1, z2⟩ | ⟨n12, z2⟩
  · refine p_it1 z2 (p_ret ?_)
    rw [hQ]
    exact Or.inl ⟨z1, rfl, rfl⟩
  have loop : ∀ (fu s : Nat) (m1 : Mem), s ≤ 8 → FLK m m1 → WS 32 S.nf (PKq S.nf kq S.nf.toNat) m1 → CA S m1 → (∀ u : Nat, u < s → vw.testBit u = true → jb m1 u = true) → WS 34 S.nf (fun w => PKq S.nf kq S.nf.toNat w && allb (stw S P vw w) s) m1 → pw (mX4_lookUp_34 fu 2 (vw : Int) (s : Int) m1) Q := by
    intro fu
    induction fu with
    | zero => intro s m1 _ _ _ _ _ _; exact p_none
    | succ fu ih =>
      intro s m1 hs fl w32 ca1 hj w34
      show pw (bX4_lookUp_34 (mX4_lookUp_34 fu) 2 (vw : Int) (s : Int) m1) _
      have km := k2.fl fl
      unfold bX4_lookUp_34
      refine p_if (fun c => p_ret ?_) (fun c => ?_)
      · have e : s = 8 := by omega
        subst e
        rw [hQ]
        exact Or.inr ⟨n12, rfl, w32, w34, ca1, hj, fl⟩
      refine p_if (fun c2 => ?_) (fun c2 => ?_)
      · have f : vw.testBit s = false := (ibit (by omega) (by omega)).mp c2
        unfold mX4_lookUp_69
        rw [wI_s (p := s) (by omega)]
        refine ih (s + 1) m1 (by omega) fl w32 ca1 (fun u hu hv => ?_) (w34.ext (fun w _ => ?_))
        · by_cases e : u = s
          · rw [e, f] at hv; cases hv
          · exact hj u (by omega) hv
        · show (_ && allb _ s) = (_ && (allb _ s && stw S P vw w s))
          have : stw S P vw w s = true := by unfold stw; rw [f]; rfl
          rw [this, Bool.and_true]
      · have f : vw.testBit s = true := by
          cases e : vw.testBit s with
          | true => rfl
          | false => exact absurd ((ibit (by omega) (by omega)).mpr e) c2
        have hin := vin s f
        have h11 : (s : Int) < mG m1 3 11 := by rw [fl 3 11 (nq_0 (by omega))]; exact hin
        obtain ⟨t1, t2, t3⟩ := (hP.fl fl) s h11
        refine p_gFc (ji := 6) rfl km.c2_6 (p_gFc (ji := 0) rfl km.c2_0 (p_gFc (ji := 8) rfl km.c3_8 (p_aGc rfl (p_gK (p_call (q_truth (s := s) (t := mG m1 14 (s : Int)) ok n12 km (sh.fl fl) ca1 (by omega) (by unfold txs; rw [if_neg (by omega)]) t1 (fun _ => h11) t2 t3) (fun v m2 y => ?_))))))
        obtain ⟨y1, y2, y3, ⟨y4, y5⟩, y6⟩ := y
        replace y1 : v = 47 + 2 * (s : Int) := y1
        replace y2 : CA S m2 := y2
        replace y3 : WS (47 + 2 * (s : Int)) S.nf (TMw S (P s)) m2 := y3
        replace y4 : jb m2 s = true := y4
        replace y5 : ∀ u, jb m1 u = true → jb m2 u = true := y5
        replace y6 : FTs (47 + 2 * (s : Int)) m1 m2 := y6
        subst y1
        have g2 : ∀ c j : Int, 32 ≤ c → c ≤ 35 → mG m2 c j = mG m1 c j := fun c j c0 c1 => y6 c j (by omega) (by omega) (by omega) (by omega) (by omega)
        have fl2 : FLK m m2 := fl.tr (y6.fl (by omega))
        refine p_gK (p_call (q_keepOnly (l := 34) (l1 := 47 + 2 * (s : Int)) ⟨nf.1, n12⟩ (w34.kp (fun j => g2 34 j (by omega) (by omega)) (fun j => g2 _ j (by omega) (by omega))) y3 ⟨by omega, by omega⟩) (fun _ m3 y => ?_))
        obtain ⟨y7, y8⟩ := y
        replace y8 : FX 35 m2 m3 := y8
        have g3 : ∀ c j : Int, ¬ c = 35 → mG m3 c j = mG m2 c j := fun c j x => y8 c j x
        have fl3 : FLK m2 m3 := y8.fl (Or.inr rfl)
        unfold mX4_lookUp_69
        rw [wI_s (p := s) (by omega)]
        have jm : ∀ u, jb m3 u = jb m2 u := fun u => by unfold jb; rw [g3 2 4 (by omega)]
        refine ih (s + 1) m3 (by omega) (fl2.tr fl3) (w32.kp (fun j => (g3 32 j (by omega)).trans (g2 32 j (by omega) (by omega))) (fun j => (g3 _ j (by omega)).trans (g2 _ j (by omega) (by omega)))) (y2.fl fl3 (g3 2 4 (by omega)) (fun c j c0 c1 => g3 c j (by omega))) (fun u hu hv => ?_) (WS.ext y7 (fun w _ => ?_))
        · rw [jm]
          by_cases e : u = s
          · rw [e]; exact y4
          · exact y5 u (hj u (by omega) hv)
        · show ((_ && allb _ s) && _) = (_ && (allb _ s && stw S P vw w s))
          have : stw S P vw w s = TMw S (P s) w := by unfold stw; rw [f]; rfl
          rw [this, Bool.and_assoc]
  refine p_it0 (by omega) (p_gK (p_call (q_findPossible ok n12 k2 sh hq kn) (fun _ m1 y => ?_)))
  obtain ⟨y1, y2⟩ := y
  replace y1 : WS 32 S.nf (PKq S.nf kq S.nf.toNat) m1 := y1
  replace y2 : FW 32 m m1 := y2
  have fl1 : FLK m m1 := y2.fl (Or.inl rfl)
  have k1 := k2.fl fl1
  refine p_gFc (ji := 6) rfl k1.c2_6 (p_gFc (ji := 5) rfl k1.c2_5 (p_gK (p_call (q_copy (l := 34) (l1 := 32) ⟨nf.1, n12⟩ k1.c34_0 y1 ⟨by decide, by decide, by decide⟩) (fun _ m2 y => ?_))))
  obtain ⟨y3, y4⟩ := y
  replace y3 : WS 34 S.nf (PKq S.nf kq S.nf.toNat) m2 := y3
  replace y4 : FW 34 m1 m2 := y4
  have fl2 : FLK m m2 := fl1.tr (y4.fl (Or.inr rfl))
  have k3 := k2.fl fl2
  have e11 := fl2 3 11 (nq_0 (by omega))
  refine p_gFc (ji := 0) rfl k3.c2_0 (p_gK (p_call (q_viewed k3 (by rw [e11]; exact hn)) (fun v m3 y => ?_)))
  obtain ⟨y5, y6⟩ := y
  replace y5 : m3 = m2 := y5
  replace y6 : v = ((vwb m2 : Nat) : Int) := y6
  subst y5
  rw [vwb_fl fl2, ← hvw] at y6
  subst y6
  have g : ∀ c j : Int, ¬ (32 ≤ c ∧ c ≤ 35) → mG m3 c j = mG m c j := fun c j x => (y4 c j (by omega) (by omega)).trans (y2 c j (by omega) (by omega))
  refine loop FU 0 m3 (by omega) fl2 (y1.kp (fun j => y4 32 j (by omega) (by omega)) (fun j => y4 _ j (by omega) (by omega))) (ca.fl fl2 (g 2 4 (by omega)) (fun c j c0 c1 => g c j (by omega))) (fun u hu => absurd hu (by omega)) (y3.ext (fun w _ => ?_))
  show _ = (_ && true)
  rw [Bool.and_true]
end
