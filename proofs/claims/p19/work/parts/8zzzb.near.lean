section
/-! ===== how far worlds are apart; near ===== -/
theorem ctn_f (P : Nat → Bool) : ∀ k : Nat, ctn P (k + 1) = (P 0).toNat + ctn (fun i => P (i + 1)) k := by
  intro k
  induction k with
  | zero =>
    show 0 + (P 0).toNat = (P 0).toNat + 0
    omega
  | succ k ih =>
    rw [ctn_s P (k + 1), ih, ctn_s (fun i => P (i + 1)) k]
    show _ = (P 0).toNat + (ctn (fun i => P (i + 1)) k + (P (k + 1)).toNat)
    omega
theorem ctn_rev : ∀ (n : Nat) (P : Nat → Bool), ctn (fun x => P (n - 1 - x)) n = ctn P n := by
  intro n
  induction n with
  | zero => intro P; rfl
  | succ n ih =>
    intro P
    have e : ctn (fun x => P (n + 1 - 1 - x)) n = ctn (fun x => P (n - 1 - x + 1)) n := ctn_congr n (fun x hx => by
      show P (n + 1 - 1 - x) = P (n - 1 - x + 1)
      rw [show n + 1 - 1 - x = n - 1 - x + 1 by omega])
    have i := ih (fun i => P (i + 1))
    have i2 : ctn (fun x => P (n - 1 - x + 1)) n = ctn (fun i => P (i + 1)) n := i
    have l : ctn (fun x => P (n + 1 - 1 - x)) (n + 1) = ctn (fun x => P (n + 1 - 1 - x)) n + (P (n + 1 - 1 - n)).toNat := ctn_s _ _
    rw [l, e, i2, ctn_f P n, show n + 1 - 1 - n = 0 by omega]
    exact Nat.add_comm _ _
/-- in how many facts a world differs -/
def dst (x : Int) (k : Nat) : Nat := ctn (fun b => lb (lxor x (k : Int)) b) 64
theorem wn_pl {g : Int → Int} {n x : Nat} (hx : x < n) : (wn g n).testBit (n - 1 - x) = decide (g (x : Int) = 1) := by
  rw [wn_b, decide_eq_true (show n - 1 - x < n by omega), Bool.true_and, show (n : Int) - 1 - ((n - 1 - x : Nat) : Int) = (x : Int) by omega]
theorem dst_e {g : Int → Int} {n w : Nat} (n36 : n ≤ 36) (hw : w < 2 ^ n) (hg : ∀ f : Int, 0 ≤ g f ∧ g f ≤ 1) : dst ((wn g n : Nat) : Int) w = ctn (fun x => !decide (b2i (phw (n : Int) w (x : Int)) = g (x : Int))) n := by
  unfold dst
  obtain ⟨P, hP⟩ : ∃ P : Nat → Bool, P = fun (b : Nat) => (wn g n).testBit b ^^ w.testBit b := ⟨_, rfl⟩
  have z : ∀ b, ¬ b < n → P b = false := fun b hb => by
    rw [hP]
    show ((wn g n).testBit b ^^ w.testBit b) = false
    rw [wn_b, decide_eq_false hb, Nat.testBit_lt_two_pow (Nat.lt_of_lt_of_le hw (Nat.pow_le_pow_right (by decide) (by omega)))]; rfl
  have e1 : ctn (fun b => lb (lxor ((wn g n : Nat) : Int) (w : Int)) b) 64 = ctn P 64 := ctn_congr 64 (fun b hb => by
    rw [hP, lb_xor, lb_nat _ hb, lb_nat _ hb])
  have e2 : ctn P 64 = ctn P n := by
    have := ctn_cut z (64 - n)
    rw [show n + (64 - n) = 64 by omega] at this
    exact this
  rw [e1, e2, ← ctn_rev n P]
  refine ctn_congr n (fun x hx => ?_)
  rw [hP]
  show ((wn g n).testBit (n - 1 - x) ^^ w.testBit (n - 1 - x)) = !decide (b2i (phw (n : Int) w (x : Int)) = g (x : Int))
  have b : phw (n : Int) w (x : Int) = w.testBit (n - 1 - x) := by
    unfold phw
    rw [show ((n : Int) - 1 - (x : Int)).toNat = n - 1 - x by omega]
  rw [wn_pl hx, b]
  have r := hg (x : Int)
  cases w.testBit (n - 1 - x) with
  | true =>
    show (decide (g (x : Int) = 1) ^^ true) = !decide ((1 : Int) = g (x : Int))
    by_cases c : g (x : Int) = 1
    · rw [decide_eq_true c, decide_eq_true c.symm]; rfl
    · rw [decide_eq_false c, decide_eq_false (fun h => c h.symm)]; rfl
  | false =>
    show (decide (g (x : Int) = 1) ^^ false) = !decide ((0 : Int) = g (x : Int))
    by_cases c : g (x : Int) = 1
    · rw [decide_eq_true c, decide_eq_false (show ¬ (0 : Int) = g (x : Int) by omega)]; rfl
    · rw [decide_eq_false c, decide_eq_true (show (0 : Int) = g (x : Int) by omega)]; rfl
/-- the nearest one of the first k -/
def nrF (G : Nat → Bool) (d : Nat → Nat) : Nat → Int × Nat
  | 0 => (-1, 13)
  | k + 1 => if G k = true ∧ d k < (nrF G d k).2 then ((k : Int), d k) else nrF G d k
section
variable {G G' : Nat → Bool} {d : Nat → Nat}
theorem nrF_t {k : Nat} (h : G k = true ∧ d k < (nrF G d k).2) : nrF G d (k + 1) = ((k : Int), d k) := if_pos h
theorem nrF_n {k : Nat} (h : ¬ (G k = true ∧ d k < (nrF G d k).2)) : nrF G d (k + 1) = nrF G d k := if_neg h
theorem nrF_b : ∀ k : Nat, nrF G d k = (-1, 13) ∨ ∃ x : Nat, x < k ∧ nrF G d k = ((x : Int), d x) := by
  intro k
  induction k with
  | zero => exact Or.inl rfl
  | succ k ih =>
    by_cases c : G k = true ∧ d k < (nrF G d k).2
    · exact Or.inr ⟨k, by omega, nrF_t c⟩
    · rcases ih with h | ⟨x, h1, h2⟩
      · exact Or.inl ((nrF_n c).trans h)
      · exact Or.inr ⟨x, by omega, (nrF_n c).trans h2⟩
theorem nrF_congr : ∀ k : Nat, (∀ x, x < k → G x = G' x) → nrF G d k = nrF G' d k := by
  intro k
  induction k with
  | zero => intro _; rfl
  | succ k ih =>
    intro h
    show (if G k = true ∧ d k < (nrF G d k).2 then ((k : Int), d k) else nrF G d k) = (if G' k = true ∧ d k < (nrF G' d k).2 then ((k : Int), d k) else nrF G' d k)
    rw [h k (by omega), ih (fun x hx => h x (by omega))]
end
section
variable {M : Mem} {n : Nat}
theorem q_near8 {P : Nat → List Row} {vw : Nat} {F : Int → Int} {W : Int} (ok : (shp M).ok) (hn : (shp M).nf = (n : Int)) (k2 : K2 M) (h1 : mG M 1 0 = 2 ∧ mG M 1 1 = 3) (e : mG M 3 1 = W) (hl : pw (mX4_lookUp 2 M) (fun q => (12 < n ∧ q.1 = 0 ∧ q.2 = M) ∨ (n ≤ 12 ∧ q.1 = 1 ∧ LK (shp M) P vw F M q.2))) : pw (mX8_near 1 M) (fun q => (12 < n ∧ q.1 = -1 ∧ mG q.2 3 1 = mG M 3 1) ∨ (n ≤ 12 ∧ ((nrF (WDw (shp M) P vw F) (dst W) (2 ^ n) = (-1, 13) ∧ q.1 = -1 ∧ mG q.2 3 1 = mG M 3 1) ∨ ∃ x : Nat, x < 2 ^ n ∧ nrF (WDw (shp M) P vw F) (dst W) (2 ^ n) = ((x : Int), dst W x) ∧ q.1 = ((dst W x : Nat) : Int) ∧ mG q.2 3 1 = (x : Int)))) := by
  obtain ⟨G, hG⟩ : ∃ G : Nat → Bool, G = WDw (shp M) P vw F := ⟨_, rfl⟩
  rw [← hG]
  unfold mX8_near
  refine p_gFc (ji := 0) rfl h1.1 (p_gK (p_call (P := fun q => (mG q.2 1 1 = 3 ∧ mG q.2 3 1 = W) ∧ ((12 < n ∧ q.1 = -1) ∨ (n ≤ 12 ∧ q.1 = (nrF G (dst W) (2 ^ n)).1))) ?_ (fun v m y => ?_)))
  · unfold mX4_nearestWorld
    refine p_gK (p_call hl (fun v m y => ?_))
    rcases y with ⟨a, b, c⟩ | ⟨a, b, c⟩
    · replace c : m = M := c
      subst c
      exact p_it1 b (p_ret ⟨⟨h1.2, e⟩, Or.inl ⟨a, rfl⟩⟩)
    replace b : v = 1 := b
    obtain ⟨_, w34, _, _, fl⟩ := c
    replace w34 : WS 34 (shp M).nf (WDw (shp M) P vw F) m := w34
    replace fl : FLK M m := fl
    rw [hn, ← hG] at w34
    have km := k2.fl fl
    have e31 : mG m 3 1 = W := (fl 3 1 (nq_0 (by omega))).trans e
    have e11 : mG m 1 1 = 3 := (fl 1 1 (nq_0 (by omega))).trans h1.2
    have p12 : 2 ^ n ≤ 2 ^ 12 := Nat.pow_le_pow_right (n := 2) (by decide) a
    refine p_it0 (show ¬ v = 0 by omega) ?_
    have loop : ∀ (fu k : Nat), k ≤ 2 ^ n → pw (mX4_nearestWorld_16 fu 2 (nrF G (dst W) k).1 (((nrF G (dst W) k).2 : Nat) : Int) (k : Int) m) (fun q => (mG q.2 1 1 = 3 ∧ mG q.2 3 1 = W) ∧ ((12 < n ∧ q.1 = -1) ∨ (n ≤ 12 ∧ q.1 = (nrF G (dst W) (2 ^ n)).1))) := by
      intro fu
      induction fu with
      | zero => intro k _; exact p_none
      | succ fu ih =>
        intro k hk
        show pw (bX4_nearestWorld_16 (mX4_nearestWorld_16 fu) 2 _ _ (k : Int) m) _
        unfold bX4_nearestWorld_16
        refine p_gFc (ji := 6) rfl km.c2_6 (p_gK (p_call (q_most (l := 34) ⟨by omega, by omega⟩ w34) (fun u m2 y => ?_)))
        obtain ⟨y1, y2⟩ := y
        replace y1 : m2 = m := y1
        replace y2 : u = ((2 ^ (n : Int).toNat : Nat) : Int) := y2
        rw [Int.toNat_natCast] at y2
        subst y1; subst y2
        refine p_if (fun c => p_ret ⟨⟨e11, e31⟩, Or.inr ⟨a, ?_⟩⟩) (fun c => ?_)
        · replace c : ((2 ^ n : Nat) : Int) ≤ (k : Int) := c
          show (nrF G (dst W) k).1 = _
          rw [show k = 2 ^ n by omega]
        replace c : ¬ ((2 ^ n : Nat) : Int) ≤ (k : Int) := c
        have skip : ∀ m3, m3 = m2 → ¬ (G k = true ∧ dst W k < (nrF G (dst W) k).2) → pw (mX4_nearestWorld_64 (mX4_nearestWorld_16 fu) 2 (nrF G (dst W) k).1 (((nrF G (dst W) k).2 : Nat) : Int) (k : Int) m3) (fun q => (mG q.2 1 1 = 3 ∧ mG q.2 3 1 = W) ∧ ((12 < n ∧ q.1 = -1) ∨ (n ≤ 12 ∧ q.1 = (nrF G (dst W) (2 ^ n)).1))) := fun m3 h3 no => by
          subst h3
          unfold mX4_nearestWorld_64
          rw [wI_s (p := k) (by omega), ← nrF_n no]
          exact ih (k + 1) (by omega)
        refine p_gFc (ji := 0) rfl km.c2_0 (p_gFc (ji := 1) rfl e31 (p_call (q_bitCount _ m2) (fun r m3 y => ?_)))
        obtain ⟨y3, y4⟩ := y
        replace y3 : m3 = m2 := y3
        replace y4 : r = ((dst W k : Nat) : Int) := y4
        subst y4
        refine p_if (fun c2 => skip m3 y3 (fun z => ?_)) (fun c2 => ?_)
        · replace c2 : (((nrF G (dst W) k).2 : Nat) : Int) ≤ ((dst W k : Nat) : Int) := c2
          omega
        replace c2 : ¬ (((nrF G (dst W) k).2 : Nat) : Int) ≤ ((dst W k : Nat) : Int) := c2
        subst y3
        refine p_gFc (ji := 6) rfl km.c2_6 (p_gK (p_call (q_has (l := 34) (w := k) ⟨by omega, by omega⟩ w34) (fun x m4 y => ?_)))
        obtain ⟨z1, z2⟩ := y
        replace z1 : m4 = m3 := z1
        replace z2 : x = b2i (decide (k < 2 ^ (n : Int).toNat) && G k) := z2
        rw [Int.toNat_natCast, decide_eq_true (show k < 2 ^ n by omega), Bool.true_and] at z2
        refine p_if (fun c3 => skip m4 z1 (fun z => ?_)) (fun c3 => ?_)
        · have := b2i_0.mp (z2.symm.trans c3)
          rw [z.1] at this; cases this
        · have gt : G k = true := by
            cases h : G k with
            | true => rfl
            | false => rw [h] at z2; exact absurd z2 c3
          subst z1
          unfold mX4_nearestWorld_64
          have t := nrF_t (G := G) (d := dst W) (k := k) ⟨gt, by omega⟩
          have i := ih (k + 1) (by omega)
          rw [t] at i
          rw [wI_s (p := k) (by omega)]
          exact i
    exact loop FU 0 (Nat.zero_le _)
  · obtain ⟨⟨y1, y2⟩, y3⟩ := y
    replace y1 : mG m 1 1 = 3 := y1
    replace y2 : mG m 3 1 = W := y2
    rcases y3 with ⟨a, b⟩ | ⟨a, b⟩
    · exact p_it1 b (p_ret (Or.inl ⟨a, rfl, y2.trans e.symm⟩))
    replace b : v = (nrF G (dst W) (2 ^ n)).1 := b
    rcases nrF_b (G := G) (d := dst W) (2 ^ n) with h | ⟨x, hx, h⟩
    · rw [h] at b
      exact p_it1 b (p_ret (Or.inr ⟨a, Or.inl ⟨h, rfl, y2.trans e.symm⟩⟩))
    · rw [h] at b
      replace b : v = (x : Int) := b
      subst b
      refine p_it0 (show ¬ (x : Int) = -1 by omega) (p_gFc (ji := 1) rfl y1 (p_gFc (ji := 1) rfl y2 (p_call (q_bitCount _ m) (fun r m3 y => ?_))))
      obtain ⟨z1, z2⟩ := y
      replace z1 : m3 = m := z1
      replace z2 : r = ((dst W x : Nat) : Int) := z2
      subst z1
      exact p_gFc (ji := 1) rfl y1 (p_pF (ji := 1) rfl (fun m4 h4 => p_ret (Or.inr ⟨a, Or.inr ⟨x, hx, h, z2, st_eq h4⟩⟩)))
end
section
variable {S : SH} {P : Nat → List Row} {M : Mem} {n : Nat}
def NRQ (n : Nat) (G : Nat → Bool) (d : Nat → Nat) (M : Mem) (q : Int × Mem) : Prop := (12 < n ∧ q.1 = -1 ∧ ∀ f : Int, mG q.2 137 f = mG M 137 f) ∨ (n ≤ 12 ∧ ((nrF G d (2 ^ n) = (-1, 13) ∧ q.1 = -1 ∧ ∀ f : Int, mG q.2 137 f = mG M 137 f) ∨ ∃ x : Nat, x < 2 ^ n ∧ nrF G d (2 ^ n) = ((x : Int), d x) ∧ q.1 = ((d x : Nat) : Int) ∧ (∀ f : Int, 0 ≤ f → f < (n : Int) → mG q.2 137 f = b2i (phw (n : Int) x f)) ∧ ∀ f : Int, ¬ (0 ≤ f ∧ f < (n : Int)) → mG q.2 137 f = mG M 137 f))
theorem v_near24 {K vw : Nat} {F : Int → Int} (ok : S.ok) (hn : S.nf = (n : Int)) (n12 : n ≤ 12) (hF : ∀ p, F p = -1 ∨ F p = 0 ∨ F p = 1) (K8 : K ≤ 8) (hv : vw < 256) (hb : ∀ f : Int, 0 ≤ mG M 137 f ∧ mG M 137 f ≤ 1) {G : Nat → Bool} (hG : G = WDr S P K vw F n) {d : Nat → Nat} (hd : d = dst ((wn (mG M 137) n : Nat) : Int)) : ∀ (fu w : Nat) (l1 l2 : Int) (m : Mem), w ≤ 2 ^ n → RWd S P (K : Int) vw F n m → (∀ f : Int, mG m 137 f = mG M 137 f) → l1 = (nrF G d w).1 → (l1 = -1 ∨ l2 = (((nrF G d w).2 : Nat) : Int)) → pw (mX9_near_24 fu 126 l1 l2 (w : Int) m) (NRQ n G d M) := by
  have p12 : 2 ^ n ≤ 2 ^ 12 := Nat.pow_le_pow_right (n := 2) (by decide) n12
  intro fu
  induction fu with
  | zero => intro w l1 l2 m _ _ _ _ _; exact p_none
  | succ fu ih =>
    intro w l1 l2 m hw r4 g4 e1 e2
    show pw (bX9_near_24 (mX9_near_24 fu) 126 l1 l2 (w : Int) m) _
    unfold bX9_near_24
    refine p_gK (p_call (v_manyFacts ok r4.1.1 r4.1.2) (fun v m5 y => ?_))
    obtain ⟨y6, y7⟩ := y
    replace y6 : m5 = m := y6
    replace y7 : v = S.nf := y7
    subst y6
    rw [hn] at y7
    subst y7
    rw [ishl1 n (by omega), show (2 : Int) ^ n = ((2 ^ n : Nat) : Int) by simp]
    refine p_if (fun c => ?_) (fun c => ?_)
    · replace c : ((2 ^ n : Nat) : Int) ≤ (w : Int) := c
      rw [show w = 2 ^ n by omega] at e1 e2
      rcases nrF_b (G := G) (d := d) (2 ^ n) with h | ⟨x, hx, h⟩
      · rw [h] at e1
        exact p_it1 e1 (p_ret (Or.inr ⟨n12, Or.inl ⟨h, rfl, g4⟩⟩))
      · rw [h] at e1 e2
        replace e1 : l1 = (x : Int) := e1
        replace e2 : l1 = -1 ∨ l2 = ((d x : Nat) : Int) := e2
        have e3 : l2 = ((d x : Nat) : Int) := e2.resolve_left (by omega)
        subst e1
        refine p_it0 (show ¬ (x : Int) = -1 by omega) (p_gK (p_call (v_takeWorld (w := x) ok hn n12 r4.1.1 r4.1.2 (by omega)) (fun _ m7 y => p_ret (Or.inr ⟨n12, Or.inr ⟨x, hx, h, e3, ?_, ?_⟩⟩))))
        · exact y.1
        · exact fun f hf => (y.2 137 f (fun z => hf z.2)).trans (g4 f)
    replace c : ¬ ((2 ^ n : Nat) : Int) ≤ (w : Int) := c
    have w1 : w < 2 ^ n := by omega
    have skip : ∀ m7, ¬ (G w = true ∧ d w < (nrF G d w).2) → RWd S P (K : Int) vw F n m7 → (∀ f : Int, mG m7 137 f = mG M 137 f) → pw (mX9_near_109 (mX9_near_24 fu) 126 l1 l2 (w : Int) m7) (NRQ n G d M) := fun m7 no r7 g7 => by
      unfold mX9_near_109
      rw [wI_s (p := w) (by omega)]
      exact ih (w + 1) l1 l2 m7 (by omega) r7 g7 (by rw [nrF_n no]; exact e1) (by rw [nrF_n no]; exact e2)
    refine p_gK (p_call (v_isWorld (w := w) ok hn n12 w1 hF K8 hv r4) (fun v m6 y => ?_))
    obtain ⟨y8, y9, y10⟩ := y
    replace y8 : FI m5 m6 := y8
    replace y9 : v = b2i (G w) := by rw [hG]; exact y9
    replace y10 : v = 1 → LW S (phw S.nf w) m6 := y10
    have g6 : ∀ f : Int, mG m6 137 f = mG M 137 f := fun f => (y8 137 f (by omega) (by decide) (by decide) (by decide)).trans (g4 f)
    have r6 := r4.fi y8
    refine p_if (fun c2 => ?_) (fun c2 => ?_)
    · have gf : G w = false := b2i_0.mp (y9.symm.trans c2)
      exact skip m6 (fun z => by rw [gf] at z; cases z.1) r6 g6
    have gt : G w = true := by
      cases e : G w with
      | true => rfl
      | false => rw [e] at y9; exact absurd y9 c2
    have lw := y10 (by rw [y9, gt]; rfl)
    rw [hn] at lw
    obtain ⟨E, hE⟩ : ∃ E : Nat → Bool, E = fun (x : Nat) => !decide (b2i (phw (n : Int) w (x : Int)) = mG M 137 (x : Int)) := ⟨_, rfl⟩
    have dE : d w = ctn E n := by
      rw [hd, hE]
      exact dst_e (by omega) w1 hb
    have take : (nrF G d w).2 > d w → pw (mX9_near_104 (mX9_near_24 fu) 126 (w : Int) ((ctn E n : Nat) : Int) m6) (NRQ n G d M) := fun lt => by
      unfold mX9_near_104 mX9_near_109
      have t := nrF_t (G := G) (d := d) (k := w) ⟨gt, lt⟩
      rw [wI_s (p := w) (by omega), ← dE]
      exact ih (w + 1) (w : Int) ((d w : Nat) : Int) m6 (by omega) r6 g6 (by rw [t]) (Or.inr (by rw [t]))
    have l51 : ∀ (fu2 f : Nat), f ≤ n → pw (mX9_near_51 (mX9_near_24 fu) fu2 126 l1 l2 (w : Int) ((ctn E f : Nat) : Int) (f : Int) m6) (NRQ n G d M) := by
      intro fu2
      induction fu2 with
      | zero => intro f _; exact p_none
      | succ fu2 ih2 =>
        intro f hf
        show pw (bX9_near_51 (mX9_near_24 fu) (mX9_near_51 (mX9_near_24 fu) fu2) 126 l1 l2 (w : Int) _ (f : Int) m6) _
        unfold bX9_near_51
        refine p_gK (p_call (v_manyFacts ok r6.1.1 r6.1.2) (fun u m8 y => ?_))
        obtain ⟨z6, z7⟩ := y
        replace z6 : m8 = m6 := z6
        replace z7 : u = S.nf := z7
        subst z6
        rw [hn] at z7
        subst z7
        have cle := ctn_le E f
        refine p_if (fun c3 => ?_) (fun c3 => ?_)
        · replace c3 : (n : Int) ≤ (f : Int) := c3
          rw [show f = n by omega]
          have dn := ctn_le E n
          refine p_if (fun c4 => take ?_) (fun c4 => p_if (fun c5 => skip m8 (fun z => ?_) r6 g6) (fun c5 => take ?_))
          · rcases nrF_b (G := G) (d := d) w with h | ⟨x, hx, h⟩
            · rw [h]
              show 13 > d w
              omega
            · rw [h] at e1
              replace e1 : l1 = (x : Int) := e1
              omega
          · replace c5 : l2 ≤ ((ctn E n : Nat) : Int) := c5
            have := e2.resolve_left c4
            omega
          · replace c5 : ¬ l2 ≤ ((ctn E n : Nat) : Int) := c5
            have := e2.resolve_left c4
            omega
        · replace c3 : ¬ (n : Int) ≤ (f : Int) := c3
          have f1 : f < n := by omega
          have go : ∀ x : Int, x = b2i (E f) → pw (mX9_near_84 (mX9_near_24 fu) (mX9_near_51 (mX9_near_24 fu) fu2) 126 l1 l2 (w : Int) (f : Int) ((ctn E f : Nat) : Int) x m8) (NRQ n G d M) := fun x hx => by
            unfold mX9_near_84
            have bb := b2i_b (E f)
            rw [wI_s (p := f) (by omega), wI_id (x := ((ctn E f : Nat) : Int) + x) (by omega) (by omega), hx, b2i_n, ← Int.natCast_add, ← ctn_s]
            exact ih2 (f + 1) (by omega)
          refine p_gFc (ji := 28) rfl r6.1.1.c28 (p_aGc (lw (f : Int) (by omega) (by rw [hn]; omega)) (p_gFc (ji := 11) rfl r6.1.1.c11 (p_aGc (g6 (f : Int)) (p_if (fun c4 => go 0 ?_) (fun c4 => go 1 ?_)))))
          · rw [hE]
            show (0 : Int) = b2i (!decide (b2i (phw (n : Int) w (f : Int)) = mG M 137 (f : Int)))
            rw [decide_eq_true c4]; rfl
          · rw [hE]
            show (1 : Int) = b2i (!decide (b2i (phw (n : Int) w (f : Int)) = mG M 137 (f : Int)))
            rw [decide_eq_false c4]; rfl
    exact l51 FU 0 (Nat.zero_le _)
theorem v_near {K : Nat} (ok : S.ok) (hn : S.nf = (n : Int)) (rf : RFB S P M) (hK : mG M 138 0 = (K : Int)) (hb : ∀ f : Int, 0 ≤ mG M 137 f ∧ mG M 137 f ≤ 1) : pw (mX9_near 126 M) (NRQ n (WDr S P K (tvb M) (knR S M) n) (dst ((wn (mG M 137) n : Nat) : Int)) M) := by
  have h8 := rf.2.2.2.1
  have K8 : K ≤ 8 := by omega
  have vl := tvb_lt hK
  have p8 : 2 ^ K ≤ 2 ^ 8 := Nat.pow_le_pow_right (n := 2) (by decide) K8
  have hF : ∀ p, knR S M p = -1 ∨ knR S M p = 0 ∨ knR S M p = 1 := fun p => knf_rg _ _ _ _ _ _
  unfold mX9_near
  refine p_pF (ji := 0) rfl (fun m1 h1 => ?_)
  have g1 : ∀ c j : Int, ¬ c = 126 → mG m1 c j = mG M c j := fun c j x => st_ne h1 (fun w => x w.1)
  have k1 : K9 m1 := rf.1.kp (fun j hj => st_ne h1 (fun w => by omega))
  refine p_gK (p_call (v_can ok rf k1 (fun c j x _ _ => g1 c j x)) (fun v m2 y => ?_))
  obtain ⟨rb, y⟩ := y
  have g2 : ∀ f : Int, mG m2 137 f = mG M 137 f := fun f => rb.2.2 137 f (by decide) (by decide) (by decide)
  rcases y with ⟨z1, z2⟩ | ⟨z1, z2⟩
  · exact p_it1 z2 (p_ret (Or.inl ⟨by omega, rfl, g2⟩))
  replace z2 : v = 1 := z2
  have n12 : n ≤ 12 := by omega
  refine p_it0 (show ¬ v = 0 by omega) (p_gK (p_call (v_prep ok hn n12 h8 rb) (fun v m4 y => ?_)))
  obtain ⟨r4, g4⟩ := y
  rw [hK] at r4
  replace r4 : RWd S P (K : Int) (tvb M) (knR S M) n m4 := r4
  replace g4 : ∀ c j : Int, ¬ (c = 126 ∧ (j = 48 ∨ j = 49 ∨ j = 50)) → mG m4 c j = mG m2 c j := g4
  exact v_near24 ok hn n12 hF K8 (by omega) hb rfl rfl FU 0 (-1) 0 m4 (Nat.zero_le _) r4 (fun f => (g4 137 f (by omega)).trans (g2 f)) rfl (Or.inl rfl)
end
section
variable {M : Mem}
theorem kw_near (h : J4 M) : pw (mX8_near 1 M) (fun q1 => pw (mX9_near 126 q1.2) (fun q2 => KW q2.2 ∧ EQ q1 q2)) := by
  obtain ⟨P, n, ok, hn, k2, sh, tp, rf, ve, vlt, h1, hl⟩ := look h.1.1
  obtain ⟨en, n36, w0⟩ := h.n hn sh
  have iM := h.1.1.1.1.1
  have wf := h.1.1.1.1.2.1
  obtain ⟨K, hK⟩ := Int.eq_ofNat_of_zero_le rf.2.2.2.1.1
  have h8 := rf.2.2.2.1
  rw [hK, Int.toNat_natCast] at vlt
  have hn169 : (169 : Int) ≤ ((mN M : Nat) : Int) := by have := iM.2.2.2.2.1; omega
  refine p_mono (p_and (q_near8 ok hn k2 h1 w0.1.1 hl) (p_wp (s_X8_near iM))) (fun q1 y => ?_)
  obtain ⟨c, i1, kp, _⟩ := y
  have f8 : FW8 M q1.2 := fw8_of iM kp (fun b j z => by unfold W_X8_near isWS at z; unfold WX8; omega)
  have g9 : F9 M q1.2 := kp.f9 (by omega) (fun b j z => by unfold W_X8_near isWS at z; omega)
  have wf1 : WF q1.2 := WF_of wf (fun j => g9 _ j (by decide) (by decide)) (fun j => g9 _ j (by decide) (by decide)) (fun j => g9 _ j (by decide) (by decide)) (fun j => g9 _ j (by decide) (by decide)) (fun j => g9 _ j (by decide) (by decide))
  obtain ⟨rf1, e1, e2, e3⟩ := rf.f9 (M' := q1.2) g9
  have eg : mG q1.2 137 = mG M 137 := funext (fun f => g9 137 f (by decide) (by decide))
  refine p_mono (p_and (v_near ok hn rf1 (e3.trans hK) (fun f => by rw [eg]; exact rd_Mworld iM (a := 137) (i := f) rfl)) (p_wp (s_X9_near wf1 i1))) (fun q2 z => ?_)
  obtain ⟨r, i2, kp2, _⟩ := z
  rw [e1, e2, ve, eg] at r
  have f9 : FW9 q1.2 q2.2 := fw9_of i1 kp2 (fun b j z => by unfold W_X9_near at z; omega)
  have ec : nrF (WDw (shp M) P (vwb M) (knR (shp M) M)) (dst ((wn (mG M 137) n : Nat) : Int)) (2 ^ n) = nrF (WDr (shp M) P K (vwb M) (knR (shp M) M) n) (dst ((wn (mG M 137) n : Nat) : Int)) (2 ^ n) := nrF_congr _ (fun x hx => wd_eq hn vlt (by omega) hx)
  rcases c with ⟨c1, c2, c3⟩ | ⟨c1, c2⟩
  · rcases r with ⟨_, r2, r3⟩ | ⟨r1, _⟩
    · exact ⟨h.2.same iM f8 f9 c3 r3, c2.trans r2.symm⟩
    · omega
  · rcases r with ⟨r1, _⟩ | ⟨r1, r2⟩
    · omega
    rcases c2 with ⟨a1, a2, a3⟩ | ⟨x, a1, a2, a3, a4⟩
    · rcases r2 with ⟨b1, b2, b3⟩ | ⟨y, b1, b2, _⟩
      · exact ⟨h.2.same iM f8 f9 a3 b3, a2.trans b2.symm⟩
      · rw [ec, b2] at a1
        have : (y : Int) = -1 := congrArg Prod.fst a1
        omega
    · rcases r2 with ⟨b1, _⟩ | ⟨y, b1, b2, b3, b4, b5⟩
      · rw [ec, b1] at a2
        have : (-1 : Int) = (x : Int) := congrArg Prod.fst a2
        omega
      · rw [ec, b2] at a2
        have e : (y : Int) = (x : Int) := congrArg Prod.fst a2
        have e' : y = x := by omega
        subst e'
        exact ⟨h.2.upd iM en w0 b1 f8 f9 a4 b4 b5, a3.trans b3.symm⟩
theorem j4_nearE (h : J4 M) : wp (mX8_near 1 M) (fun q1 => wp (mX9_near 126 q1.2) (fun q2 => J4 q2.2 ∧ EQ q1 q2)) :=
  w_mono (w_and3 (M := M) (jb_near h.1) (kw_near h)) (fun q1 z => w_mono z (fun q2 y => ⟨⟨y.1, y.2.1⟩, y.2.2⟩))
theorem j4_near (h : J4 M) : wp (mX8_near 1 M) (fun q1 => wp (mX9_near 126 q1.2) (fun q2 => J4 q2.2)) := J4.d (j4_nearE h)
end
end
section
/-! ===== J4 is kept by the other calls ===== -/
section
variable {M : Mem}
theorem j4_facts (h : J4 M) : wp (mX8_facts 1 M) (fun q1 => wp (mX9_facts 126 q1.2) (fun q2 => J4 q2.2)) :=
  J4.un h (jb_facts  h.1) (hx_of h.1.1 (s_X8_facts  h.1.1.1.1.1) (fun b j z => False.elim z)) (gx_of h (s_X8_facts  h.1.1.1.1.1) (fun b j z => False.elim z)) (fun n m w i => s_X9_facts  i) (fun b j z => by unfold W_X9_facts at z; omega)
theorem j4_fact {l1 l2 l3 : Int} (r1 : (-2147483648) ≤ l1 ∧ l1 ≤ 2147483647) (r2 : (-2147483648) ≤ l2 ∧ l2 ≤ 2147483647) (r3 : (-2147483648) ≤ l3 ∧ l3 ≤ 2147483647) (h : J4 M) : wp (mX8_fact 1 l1 l2 l3 M) (fun q1 => wp (mX9_fact 126 l1 l2 l3 q1.2) (fun q2 => J4 q2.2)) :=
  J4.un h (jb_fact r1 r2 r3 h.1) (hx_of h.1.1 (s_X8_fact r1 r2 r3 h.1.1.1.1.1) (fun b j z => False.elim z)) (gx_of h (s_X8_fact r1 r2 r3 h.1.1.1.1.1) (fun b j z => False.elim z)) (fun n m w i => s_X9_fact r1 r2 r3 i) (fun b j z => by unfold W_X9_fact at z; omega)
theorem j4_known {l1 l2 l3 l4 : Int} (r1 : (-2147483648) ≤ l1 ∧ l1 ≤ 2147483647) (r2 : (-2147483648) ≤ l2 ∧ l2 ≤ 2147483647) (r3 : (-2147483648) ≤ l3 ∧ l3 ≤ 2147483647) (r4 : 0 ≤ l4 ∧ l4 ≤ 1) (h : J4 M) : wp (mX8_known 1 l1 l2 l3 l4 M) (fun q1 => wp (mX9_known 126 l1 l2 l3 l4 q1.2) (fun q2 => J4 q2.2)) :=
  J4.un h (jb_known r1 r2 r3 r4 h.1) (hx_of h.1.1 (s_X8_known r1 r2 r3 r4 h.1.1.1.1.1) (fun b j z => by unfold W_X8_known at z; omega)) (gx_of h (s_X8_known r1 r2 r3 r4 h.1.1.1.1.1) (fun b j z => by unfold W_X8_known at z; unfold WX8; omega)) (fun n m w i => s_X9_known r1 r2 r3 r4 i) (fun b j z => by unfold W_X9_known at z; omega)
theorem j4_apart {l1 : Int} (r1 : (-2147483648) ≤ l1 ∧ l1 ≤ 2147483647) (h : J4 M) : wp (mX8_apart 1 l1 M) (fun q1 => wp (mX9_apart 126 l1 q1.2) (fun q2 => J4 q2.2)) :=
  J4.un h (jb_apart r1 h.1) (hx_of h.1.1 (s_X8_apart r1 h.1.1.1.1.1) (fun b j z => by unfold W_X8_apart at z; omega)) (gx_of h (s_X8_apart r1 h.1.1.1.1.1) (fun b j z => by unfold W_X8_apart at z; unfold WX8; omega)) (fun n m w i => s_X9_apart r1 i) (fun b j z => by unfold W_X9_apart at z; omega)
theorem j4_feed {l1 l2 l3 l4 l5 : Int} (r1 : (-2147483648) ≤ l1 ∧ l1 ≤ 2147483647) (r2 : (-2147483648) ≤ l2 ∧ l2 ≤ 2147483647) (r3 : (-2147483648) ≤ l3 ∧ l3 ≤ 2147483647) (r4 : (-2147483648) ≤ l4 ∧ l4 ≤ 2147483647) (r5 : (-2147483648) ≤ l5 ∧ l5 ≤ 2147483647) (h : J4 M) : wp (mX8_feed 1 l1 l2 l3 l4 l5 M) (fun q1 => wp (mX9_feed 126 l1 l2 l3 l4 l5 q1.2) (fun q2 => J4 q2.2)) :=
  J4.un h (jb_feed r1 r2 r3 r4 r5 h.1) (hx_of h.1.1 (s_X8_feed r1 r2 r3 r4 r5 h.1.1.1.1.1) (fun b j z => by unfold W_X8_feed at z; omega)) (gx_of h (s_X8_feed r1 r2 r3 r4 r5 h.1.1.1.1.1) (fun b j z => by unfold W_X8_feed at z; unfold WX8; omega)) (fun n m w i => s_X9_feed r1 r2 r3 r4 r5 i) (fun b j z => by unfold W_X9_feed at z; omega)
theorem j4_end {l1 : Int} (r1 : (-2147483648) ≤ l1 ∧ l1 ≤ 2147483647) (h : J4 M) : wp (mX8_end 1 l1 M) (fun q1 => wp (mX9_end 126 l1 q1.2) (fun q2 => J4 q2.2)) :=
  J4.un h (jb_end r1 h.1) (hx_of h.1.1 (s_X8_end r1 h.1.1.1.1.1) (fun b j z => by unfold W_X8_end at z; omega)) (gx_of h (s_X8_end r1 h.1.1.1.1.1) (fun b j z => by unfold W_X8_end at z; unfold WX8; omega)) (fun n m w i => s_X9_end r1 i) (fun b j z => by unfold W_X9_end at z; omega)
theorem j4_story (h : J4 M) : wp (mX8_story 1 M) (fun q1 => wp (mX9_story 126 q1.2) (fun q2 => J4 q2.2)) :=
  J4.un (W9 := W_X9_story) (P9 := fun _ => True) h (jb_story  h.1) (p_mono (p_wp (s_X8_story h.1.1.1.1.1)) (fun q y => by
    obtain ⟨⟨n, hn, i2, k2, _⟩, _⟩ := y
    exact ⟨⟨n, i2⟩, k2.f9 (by have := h.1.1.1.1.1.2.2.2.2.1; omega) (fun b j z => by unfold W_X8_story at z; omega)⟩)) (p_mono (p_wp (s_X8_story h.1.1.1.1.1)) (fun q y b j z => by
    obtain ⟨⟨n, hn, i2, k2, _⟩, _⟩ := y
    exact k2.2.2 b j (by have := h.1.1.1.1.1.2.2.2.2.1; unfold WX8 at z; omega) (fun w => by unfold W_X8_story at w; unfold WX8 at z; omega))) (fun n m w i => w_mono (s_X9_story w i) (fun q z => ⟨z.1, z.2.1, True.intro⟩)) (fun b j z => by unfold W_X9_story at z; omega)
theorem j4_guess (h : J4 M) : wp (mX8_guess 1 M) (fun q1 => wp (mX9_guess 126 q1.2) (fun q2 => J4 q2.2)) :=
  J4.un (W9 := W_X9_guess) (P9 := fun _ => True) h (jb_guess  h.1) (p_mono (p_wp (s_X8_guess h.1.1.1.1.1)) (fun q y => by
    obtain ⟨⟨n, hn, i2, k2, _⟩, _⟩ := y
    exact ⟨⟨n, i2⟩, k2.f9 (by have := h.1.1.1.1.1.2.2.2.2.1; omega) (fun b j z => by unfold W_X8_guess at z; omega)⟩)) (p_mono (p_wp (s_X8_guess h.1.1.1.1.1)) (fun q y b j z => by
    obtain ⟨⟨n, hn, i2, k2, _⟩, _⟩ := y
    exact k2.2.2 b j (by have := h.1.1.1.1.1.2.2.2.2.1; unfold WX8 at z; omega) (fun w => by unfold W_X8_guess at w; unfold WX8 at z; omega))) (fun n m w i => w_mono (s_X9_guess w i) (fun q z => ⟨z.1, z.2.1, True.intro⟩)) (fun b j z => by unfold W_X9_guess at z; omega)
theorem j4_fault {l1 : Int} (r1 : (-2147483648) ≤ l1 ∧ l1 ≤ 2147483647) (h : J4 M) : wp (mX8_fault 1 l1 M) (fun q1 => wp (mX9_fault 126 l1 q1.2) (fun q2 => J4 q2.2)) :=
  J4.un h (jb_fault r1 h.1) (hx_of h.1.1 (s_X8_fault r1 h.1.1.1.1.1) (fun b j z => False.elim z)) (gx_of h (s_X8_fault r1 h.1.1.1.1.1) (fun b j z => False.elim z)) (fun n m w i => s_X9_fault r1 i) (fun b j z => by unfold W_X9_fault at z; omega)
theorem j4_strike {l1 : Int} (r1 : (-2147483648) ≤ l1 ∧ l1 ≤ 2147483647) (h : J4 M) : wp (mX8_strike 1 l1 M) (fun q1 => wp (mX9_strike 126 l1 q1.2) (fun q2 => J4 q2.2)) :=
  J4.un h (jb_strike r1 h.1) (hx_of h.1.1 (s_X8_strike r1 h.1.1.1.1.1) (fun b j z => by unfold W_X8_strike at z; omega)) (gx_of h (s_X8_strike r1 h.1.1.1.1.1) (fun b j z => by unfold W_X8_strike at z; unfold WX8; omega)) (fun n m w i => s_X9_strike r1 i) (fun b j z => by unfold W_X9_strike at z; omega)
theorem j4_day {l1 : Int} (r1 : (-2147483648) ≤ l1 ∧ l1 ≤ 2147483647) (h : J4 M) : wp (mX8_day 1 l1 M) (fun q1 => wp (mX9_day 126 l1 q1.2) (fun q2 => J4 q2.2)) :=
  J4.un h (jb_day r1 h.1) (hx_of h.1.1 (s_X8_day r1 h.1.1.1.1.1) (fun b j z => by unfold W_X8_day at z; omega)) (gx_of h (s_X8_day r1 h.1.1.1.1.1) (fun b j z => by unfold W_X8_day at z; unfold WX8; omega)) (fun n m w i => s_X9_day r1 i) (fun b j z => by unfold W_X9_day at z; omega)
theorem j4_view {l1 : Int} (r1 : (-2147483648) ≤ l1 ∧ l1 ≤ 2147483647) (h : J4 M) : wp (mX8_view 1 l1 M) (fun q1 => wp (mX9_view 126 l1 q1.2) (fun q2 => J4 q2.2)) :=
  J4.un h (jb_view r1 h.1) (hx_of h.1.1 (s_X8_view r1 h.1.1.1.1.1) (fun b j z => by unfold W_X8_view at z; omega)) (gx_of h (s_X8_view r1 h.1.1.1.1.1) (fun b j z => by unfold W_X8_view at z; unfold WX8; omega)) (fun n m w i => s_X9_view r1 i) (fun b j z => by unfold W_X9_view at z; omega)
theorem j4_so {l1 : Int} (r1 : (-2147483648) ≤ l1 ∧ l1 ≤ 2147483647) (h : J4 M) : wp (mX8_so 1 l1 M) (fun q1 => wp (mX9_so 126 l1 q1.2) (fun q2 => J4 q2.2)) :=
  J4.un h (jb_so r1 h.1) (hx_of h.1.1 (s_X8_so r1 h.1.1.1.1.1) (fun b j z => by unfold W_X8_so at z; omega)) (gx_of h (s_X8_so r1 h.1.1.1.1.1) (fun b j z => by unfold W_X8_so at z; unfold WX8; omega)) (fun n m w i => s_X9_so r1 w i) (fun b j z => by unfold W_X9_so at z; omega)
theorem j4_breaks {l1 l2 : Int} (r1 : (-2147483648) ≤ l1 ∧ l1 ≤ 2147483647) (r2 : (-2147483648) ≤ l2 ∧ l2 ≤ 2147483647) (h : J4 M) : wp (mX8_breaks 1 l1 l2 M) (fun q1 => wp (mX9_breaks 126 l1 l2 q1.2) (fun q2 => J4 q2.2)) :=
  J4.un h (jb_breaks r1 r2 h.1) (hx_of h.1.1 (s_X8_breaks r1 r2 h.1.1.1.1.1) (fun b j z => by unfold W_X8_breaks at z; omega)) (gx_of h (s_X8_breaks r1 r2 h.1.1.1.1.1) (fun b j z => by unfold W_X8_breaks at z; unfold WX8; omega)) (fun n m w i => s_X9_breaks r1 r2 w i) (fun b j z => by unfold W_X9_breaks at z; omega)
theorem j4_worlds (h : J4 M) : wp (mX8_worlds 1 M) (fun q1 => wp (mX9_worlds 126 q1.2) (fun q2 => J4 q2.2)) :=
  J4.un h (jb_worlds  h.1) (hx_of h.1.1 (s_X8_worlds  h.1.1.1.1.1) (fun b j z => by unfold W_X8_worlds at z; unfold isWS at z; omega)) (gx_of h (s_X8_worlds  h.1.1.1.1.1) (fun b j z => by unfold W_X8_worlds at z; unfold isWS at z; unfold WX8; omega)) (fun n m w i => s_X9_worlds  w i) (fun b j z => by unfold W_X9_worlds at z; omega)
theorem j4_forms (h : J4 M) : wp (mX8_forms 1 M) (fun q1 => wp (mX9_forms 126 q1.2) (fun q2 => J4 q2.2)) :=
  J4.un h (jb_forms  h.1) (hx_of h.1.1 (s_X8_forms  h.1.1.1.1.1) (fun b j z => by unfold W_X8_forms at z; unfold isWS at z; omega)) (gx_of h (s_X8_forms  h.1.1.1.1.1) (fun b j z => by unfold W_X8_forms at z; unfold isWS at z; unfold WX8; omega)) (fun n m w i => s_X9_forms  w i) (fun b j z => by unfold W_X9_forms at z; omega)
theorem j4_least {l1 : Int} (r1 : (-2147483648) ≤ l1 ∧ l1 ≤ 2147483647) (h : J4 M) : wp (mX8_least 1 l1 M) (fun q1 => wp (mX9_least 126 l1 q1.2) (fun q2 => J4 q2.2)) :=
  J4.un h (jb_least r1 h.1) (hx_of h.1.1 (s_X8_least r1 h.1.1.1.1.1) (fun b j z => by unfold W_X8_least at z; omega)) (gx_of h (s_X8_least r1 h.1.1.1.1.1) (fun b j z => by unfold W_X8_least at z; unfold WX8; omega)) (fun n m w i => s_X9_least r1 w i) (fun b j z => by unfold W_X9_least at z; omega)
theorem j4_core {l1 : Int} (r1 : (-2147483648) ≤ l1 ∧ l1 ≤ 2147483647) (h : J4 M) : wp (mX8_core 1 l1 M) (fun q1 => wp (mX9_core 126 l1 q1.2) (fun q2 => J4 q2.2)) :=
  J4.un h (jb_core r1 h.1) (hx_of h.1.1 (s_X8_core r1 h.1.1.1.1.1) (fun b j z => by unfold W_X8_core at z; unfold isWS at z; omega)) (gx_of h (s_X8_core r1 h.1.1.1.1.1) (fun b j z => by unfold W_X8_core at z; unfold isWS at z; unfold WX8; omega)) (fun n m w i => s_X9_core r1 w i) (fun b j z => by unfold W_X9_core at z; omega)
theorem j4_sure {l1 l2 l3 : Int} (r1 : (-2147483648) ≤ l1 ∧ l1 ≤ 2147483647) (r2 : (-2147483648) ≤ l2 ∧ l2 ≤ 2147483647) (r3 : (-2147483648) ≤ l3 ∧ l3 ≤ 2147483647) (h : J4 M) : wp (mX8_sure 1 l1 l2 l3 M) (fun q1 => wp (mX9_sure 126 l1 l2 l3 q1.2) (fun q2 => J4 q2.2)) :=
  J4.un h (jb_sure r1 r2 r3 h.1) (hx_of h.1.1 (s_X8_sure r1 r2 r3 h.1.1.1.1.1) (fun b j z => by unfold W_X8_sure at z; unfold isWS at z; omega)) (gx_of h (s_X8_sure r1 r2 r3 h.1.1.1.1.1) (fun b j z => by unfold W_X8_sure at z; unfold isWS at z; unfold WX8; omega)) (fun n m w i => s_X9_sure r1 r2 r3 w i) (fun b j z => by unfold W_X9_sure at z; omega)
theorem j4_cause {l1 l2 l3 l4 : Int} (r1 : (-2147483648) ≤ l1 ∧ l1 ≤ 2147483647) (r2 : (-2147483648) ≤ l2 ∧ l2 ≤ 2147483647) (r3 : (-2147483648) ≤ l3 ∧ l3 ≤ 2147483647) (r4 : (-2147483648) ≤ l4 ∧ l4 ≤ 2147483647) (h : J4 M) : wp (mX8_cause 1 l1 l2 l3 l4 M) (fun q1 => wp (mX9_cause 126 l1 l2 l3 l4 q1.2) (fun q2 => J4 q2.2)) :=
  J4.un h (jb_cause r1 r2 r3 r4 h.1) (hx_of h.1.1 (s_X8_cause r1 r2 r3 r4 h.1.1.1.1.1) (fun b j z => by unfold W_X8_cause at z; unfold isWS at z; omega)) (gx_of h (s_X8_cause r1 r2 r3 r4 h.1.1.1.1.1) (fun b j z => by unfold W_X8_cause at z; unfold isWS at z; unfold WX8; omega)) (fun n m w i => s_X9_cause r1 r2 r3 r4 w i) (fun b j z => by unfold W_X9_cause at z; omega)
theorem j4_without {l1 : Int} (r1 : (-2147483648) ≤ l1 ∧ l1 ≤ 2147483647) (h : J4 M) : wp (mX8_without 1 l1 M) (fun q1 => wp (mX9_without 126 l1 q1.2) (fun q2 => J4 q2.2)) :=
  J4.un h (jb_without r1 h.1) (hx_of h.1.1 (s_X8_without r1 h.1.1.1.1.1) (fun b j z => by unfold W_X8_without at z; unfold isWS at z; omega)) (gx_of h (s_X8_without r1 h.1.1.1.1.1) (fun b j z => by unfold W_X8_without at z; unfold isWS at z; unfold WX8; omega)) (fun n m w i => s_X9_without r1 w i) (fun b j z => by unfold W_X9_without at z; omega)
theorem j4_questions (h : J4 M) : wp (mX8_questions 1 M) (fun q1 => wp (mX9_questions 126 q1.2) (fun q2 => J4 q2.2)) :=
  J4.un h (jb_questions  h.1) (hx_of h.1.1 (s_X8_questions  h.1.1.1.1.1) (fun b j z => by unfold W_X8_questions at z; unfold isWS at z; omega)) (gx_of h (s_X8_questions  h.1.1.1.1.1) (fun b j z => by unfold W_X8_questions at z; unfold isWS at z; unfold WX8; omega)) (fun n m w i => s_X9_questions  w i) (fun b j z => by unfold W_X9_questions at z; omega)
theorem j4_settle {l1 : Int} (r1 : (-2147483648) ≤ l1 ∧ l1 ≤ 2147483647) (h : J4 M) : wp (mX8_settle 1 l1 M) (fun q1 => wp (mX9_settle 126 l1 q1.2) (fun q2 => J4 q2.2)) :=
  J4.un h (jb_settle r1 h.1) (hx_of h.1.1 (s_X8_settle r1 h.1.1.1.1.1) (fun b j z => by unfold W_X8_settle at z; unfold isWS at z; omega)) (gx_of h (s_X8_settle r1 h.1.1.1.1.1) (fun b j z => by unfold W_X8_settle at z; unfold isWS at z; unfold WX8; omega)) (fun n m w i => s_X9_settle r1 w i) (fun b j z => by unfold W_X9_settle at z; omega)
theorem j4_holds {l1 : Int} (r1 : (-2147483648) ≤ l1 ∧ l1 ≤ 2147483647) (h : J4 M) : wp (mX8_holds 1 l1 M) (fun q1 => wp (mX9_holds 126 l1 q1.2) (fun q2 => J4 q2.2)) :=
  J4.un h (jb_holds r1 h.1) (hx_of h.1.1 (s_X8_holds r1 h.1.1.1.1.1) (fun b j z => by unfold W_X8_holds at z; unfold isWS at z; omega)) (gx_of h (s_X8_holds r1 h.1.1.1.1.1) (fun b j z => by unfold W_X8_holds at z; unfold isWS at z; unfold WX8; omega)) (fun n m w i => s_X9_holds r1 w i) (fun b j z => by unfold W_X9_holds at z; omega)
theorem j4_many {l1 : Int} (r1 : (-2147483648) ≤ l1 ∧ l1 ≤ 2147483647) (h : J4 M) : wp (mX8_many 1 l1 M) (fun q1 => wp (mX9_many 126 l1 q1.2) (fun q2 => J4 q2.2)) :=
  J4.un h (jb_many r1 h.1) (hx_of h.1.1 (s_X8_many r1 h.1.1.1.1.1) (fun b j z => False.elim z)) (gx_of h (s_X8_many r1 h.1.1.1.1.1) (fun b j z => False.elim z)) (fun n m w i => s_X9_many r1 i) (fun b j z => by unfold W_X9_many at z; omega)
end
theorem j4_factE {l1 l2 l3 : Int} {M : Mem} (r1 : (-2147483648) ≤ l1 ∧ l1 ≤ 2147483647) (r2 : (-2147483648) ≤ l2 ∧ l2 ≤ 2147483647) (r3 : (-2147483648) ≤ l3 ∧ l3 ≤ 2147483647) (h : J4 M) : wp (mX8_fact 1 l1 l2 l3 M) (fun q1 => wp (mX9_fact 126 l1 l2 l3 q1.2) (fun q2 => J4 q2.2 ∧ EQ q1 q2)) := w_and3 (M := M) (j4_fact r1 r2 r3 h) (eq_fact r1 h)
theorem tz_137 : ∀ x : Nat, x < 36 → tvo 0 [] 137 (x : Int) = some 0 := by decide
theorem init_J4 {M : Mem} (r : RepL 197 169 M) : J4 M := by
  have t := TR.of r (X := 0) (lo := 1) (hi := 169)
  have g : ∀ a j v, 1 ≤ a → a ≤ 169 → tvo 0 [] a j = some v → mG M a j = v := fun a j v a0 a1 e => t.v e ⟨a0, a1⟩
  refine ⟨init_JB r, fun i hi => ?_⟩
  have e0 : i = 0 := by
    obtain ⟨i0, i1, hi⟩ := hi
    rcases hi with hi | hi
    · exact hi
    · have hk : i - 1 = 0 ∨ i - 1 = 1 ∨ i - 1 = 2 ∨ i - 1 = -1 := by omega
      rcases hk with e | e | e | e
      · rw [e, g 169 0 0 (by decide) (by decide) (by decide)] at hi; cases hi
      · rw [e, g 169 1 0 (by decide) (by decide) (by decide)] at hi; cases hi
      · rw [e, g 169 2 0 (by decide) (by decide) (by decide)] at hi; cases hi
      · omega
  subst e0
  have e137 : ∀ f : Int, 0 ≤ f → f < 36 → mG M 137 f = 0 := fun f f0 f1 => by
    obtain ⟨x, rfl⟩ := Int.eq_ofNat_of_zero_le f0
    exact g 137 (x : Int) 0 (by decide) (by decide) (tz_137 x (by omega))
  refine W0.sw (W0.z (nfs_0 (init_J3 r).1.1.1).1 (g 3 1 0 (by decide) (by decide) (by decide)) e137 (fun p p0 p1 => ?_))
  obtain e | e | e | e : p = 0 ∨ p = 1 ∨ p = 2 ∨ p = 3 := by omega
  · subst e; exact g 12 0 0 (by decide) (by decide) (by decide)
  · subst e; exact g 12 1 0 (by decide) (by decide) (by decide)
  · subst e; exact g 12 2 0 (by decide) (by decide) (by decide)
  · subst e; exact g 12 3 0 (by decide) (by decide) (by decide)
end
section
/-! ===== many: alike ===== -/
theorem cnt8 {g : Int → Int} {n : Nat} (n36 : n ≤ 36) (hg : ∀ f : Int, 0 ≤ g f ∧ g f ≤ 1) (hz : ∀ f : Int, (n : Int) ≤ f → f < 36 → g f = 0) : ctn (fun b => lb ((wn g n : Nat) : Int) b) 64 = ctn (fun x => !decide ((0 : Int) = g (x : Int))) 36 := by
  have e := dst_e (w := 0) n36 (Nat.two_pow_pos n) hg
  have e1 : dst ((wn g n : Nat) : Int) 0 = ctn (fun b => lb ((wn g n : Nat) : Int) b) 64 := by
    unfold dst
    refine ctn_congr 64 (fun b hb => ?_)
    rw [lb_xor, lb_nat 0 hb, Nat.zero_testBit, Bool.xor_false]
  obtain ⟨F, hF⟩ : ∃ F : Nat → Bool, F = fun (x : Nat) => !decide ((0 : Int) = g (x : Int)) := ⟨_, rfl⟩
  have e2 : ctn (fun x => !decide (b2i (phw (n : Int) 0 (x : Int)) = g (x : Int))) n = ctn F n := ctn_congr n (fun x hx => by
    have z : b2i (phw (n : Int) 0 (x : Int)) = 0 := by
      unfold phw
      rw [Nat.zero_testBit]; rfl
    rw [hF, z])
  have e3 : ctn F 36 = ctn (fun x => F x && decide (x < n)) 36 := ctn_congr 36 (fun x hx => by
    show F x = (F x && decide (x < n))
    by_cases c : x < n
    · rw [decide_eq_true c, Bool.and_true]
    · have : F x = false := by
        rw [hF]
        show (!decide ((0 : Int) = g (x : Int))) = false
        rw [decide_eq_true (hz (x : Int) (by omega) (by omega)).symm]; rfl
      rw [this]; rfl)
  have e4 : ctn (fun x => F x && decide (x < n)) 36 = ctn (fun x => F x && decide (x < n)) n := by
    have := ctn_cut (f := fun x => F x && decide (x < n)) (a := n) (fun w hw => by
      show (F w && decide (w < n)) = false
      rw [decide_eq_false hw, Bool.and_false]) (36 - n)
    rw [show n + (36 - n) = 36 by omega] at this
    exact this
  have e5 : ctn (fun x => F x && decide (x < n)) n = ctn F n := ctn_congr n (fun x hx => by
    show (F x && decide (x < n)) = F x
    rw [decide_eq_true hx, Bool.and_true])
  rw [← hF, ← e1, e, e2, e3, e4, e5]
/-- what is counted -/
def MA (l : Int) (M : Mem) : Int := if l = 0 ∨ l = 1 ∨ l = 2 then mG M 133 l else if l = 3 then mG M 134 0 else if l = 4 then mG M 138 0 else if l = 5 then mG M 131 0 else if l = 6 then mG M 132 0 else if l = 7 then ((tvb M : Nat) : Int) else if l = 8 then ((ctn (fun x => !decide ((0 : Int) = mG M 137 (x : Int))) 36 : Nat) : Int) else if l = 9 then mG M 141 8 else if l = 10 then mG M 146 0 else -2
theorem MA_o {l : Int} {M : Mem} (c0 : ¬ l = 0) (c1 : ¬ l = 1) (c2 : ¬ l = 2) (c3 : ¬ l = 3) (c4 : ¬ l = 4) (c5 : ¬ l = 5) (c6 : ¬ l = 6) (c7 : ¬ l = 7) (c8 : ¬ l = 8) (c9 : ¬ l = 9) (c10 : ¬ l = 10) : MA l M = -2 := by
  unfold MA
  rw [if_neg (by omega), if_neg c3, if_neg c4, if_neg c5, if_neg c6, if_neg c7, if_neg c8, if_neg c9, if_neg c10]
section
variable {M : Mem} {l : Int}
theorem q_many8 (h : J4 M) : pw (mX8_many 1 l M) (fun q => q.2 = M ∧ q.1 = MA l M) := by
  obtain ⟨P, n, ok, hn, k2, sh, tp, rf, ve, vlt, h1, hl⟩ := look h.1.1
  obtain ⟨en, n36, w0⟩ := h.n hn sh
  have iM := h.1.1.1.1.1
  obtain ⟨s1, s2, _, _, _, s6, s7, s8⟩ := h.1.1.1.1.2.2.1 0 (by decide) (by decide) (Or.inl rfl)
  obtain ⟨_, sb, _, _, _⟩ := h.1.1.1.2 0 (by decide) (by decide) (Or.inl rfl)
  have sb1 := sb.1
  rw [sOf_0] at s1 s2 s6 s7 s8 sb1
  have z : ∀ k : Int, 0 ≤ k → k < 3 → mG M 5 k = mG M 133 k := fun k k0 k1 => by
    have := s1 k k0 k1
    rw [show 3 * (0 : Int) + k = k by omega] at this
    exact this
  unfold mX8_many
  refine p_if (fun c0 => ?_) (fun c0 => p_if (fun c1 => ?_) (fun c1 => p_if (fun c2 => ?_) (fun c2 => p_if (fun c3 => ?_) (fun c3 => p_if (fun c4 => ?_) (fun c4 => p_if (fun c5 => ?_) (fun c5 => p_if (fun c6 => ?_) (fun c6 => p_if (fun c7 => ?_) (fun c7 => p_if (fun c8 => ?_) (fun c8 => p_if (fun c9 => ?_) (fun c9 => p_if (fun c10 => ?_) (fun c10 => p_ret ⟨rfl, (MA_o c0 c1 c2 c3 c4 c5 c6 c7 c8 c9 c10).symm⟩)))))))))))
  · subst c0
    exact p_gFc (ji := 1) rfl h1.2 (p_gFc (ji := 0) rfl k2.c3_0 (p_gFc (ji := 0) rfl k2.c4_0 (p_aGc (z 0 (by decide) (by decide)) (p_ret ⟨rfl, rfl⟩))))
  · subst c1
    exact p_gFc (ji := 1) rfl h1.2 (p_gFc (ji := 0) rfl k2.c3_0 (p_gFc (ji := 0) rfl k2.c4_0 (p_aGc (z 1 (by decide) (by decide)) (p_ret ⟨rfl, rfl⟩))))
  · subst c2
    exact p_gFc (ji := 1) rfl h1.2 (p_gFc (ji := 0) rfl k2.c3_0 (p_gFc (ji := 0) rfl k2.c4_0 (p_aGc (z 2 (by decide) (by decide)) (p_ret ⟨rfl, rfl⟩))))
  · subst c3
    exact p_gFc (ji := 1) rfl h1.2 (p_gFc (ji := 0) rfl k2.c3_0 (p_gFc (ji := 6) rfl s2 (p_ret ⟨rfl, rfl⟩)))
  · subst c4
    exact p_gFc (ji := 1) rfl h1.2 (p_gFc (ji := 11) rfl sb1 (p_ret ⟨rfl, rfl⟩))
  · subst c5
    exact p_gFc (ji := 1) rfl h1.2 (p_gFc (ji := 13) rfl s6 (p_ret ⟨rfl, rfl⟩))
  · subst c6
    exact p_gFc (ji := 1) rfl h1.2 (p_gFc (ji := 14) rfl s7 (p_ret ⟨rfl, rfl⟩))
  · subst c7
    refine p_gFc (ji := 1) rfl h1.2 (p_gK (p_call (q_viewed k2 (rd_Told_11 iM (a := 3) rfl)) (fun v m y => p_ret ⟨y.1, ?_⟩)))
    have y2 : v = ((vwb M : Nat) : Int) := y.2
    rw [← ve] at y2
    exact y2
  · subst c8
    refine p_gFc (ji := 1) rfl h1.2 (p_gFc (ji := 1) rfl w0.1.1 (p_call (q_bitCount _ M) (fun v m y => p_ret ⟨y.1, ?_⟩)))
    have y2 : v = ((ctn (fun b => lb ((wn (mG M 137) n : Nat) : Int) b) 64 : Nat) : Int) := y.2
    rw [cnt8 n36 (fun f => rd_Mworld iM (a := 137) (i := f) rfl) w0.1.2] at y2
    exact y2
  · subst c9
    rcases guess_P h.1.1 with ⟨a, b⟩ | ⟨g0, ps, tt, rt, hty⟩
    · exact p_gFc (ji := 1) rfl h1.2 (p_gFc (ji := 12) rfl a (p_it1 rfl (p_ret ⟨rfl, b.symm⟩)))
    · exact p_gFc (ji := 1) rfl h1.2 (p_gFc (ji := 12) rfl rfl (p_it0 g0.1 (p_gFc (ji := 1) rfl h1.2 (p_gFc (ji := 12) rfl rfl (p_gFc (ji := 5) rfl tt.1.2.2.2.2.2.2 (p_ret ⟨rfl, rt.1.symm⟩))))))
  · subst c10
    exact p_gFc (ji := 1) rfl h1.2 (p_gFc (ji := 18) rfl s8 (p_ret ⟨rfl, rfl⟩))
theorem v_many9 {n : Nat} (iM : I n M) : pw (mX9_many 126 l M) (fun q => q.1 = MA l M) := by
  unfold mX9_many
  refine p_pF (ji := 0) rfl (fun m1 h1 => ?_)
  have g1 : ∀ c j : Int, ¬ c = 126 → mG m1 c j = mG M c j := fun c j x => st_ne h1 (fun w => x w.1)
  have k1 : K9 m1 := (K9.of iM).kp (fun j hj => st_ne h1 (fun w => by omega))
  refine p_if (fun c0 => ?_) (fun c0 => p_if (fun c1 => ?_) (fun c1 => p_if (fun c2 => ?_) (fun c2 => p_if (fun c3 => ?_) (fun c3 => p_if (fun c4 => ?_) (fun c4 => p_if (fun c5 => ?_) (fun c5 => p_if (fun c6 => ?_) (fun c6 => p_if (fun c7 => ?_) (fun c7 => p_if (fun c8 => ?_) (fun c8 => p_if (fun c9 => ?_) (fun c9 => p_if (fun c10 => ?_) (fun c10 => p_ret (MA_o c0 c1 c2 c3 c4 c5 c6 c7 c8 c9 c10).symm)))))))))))
  · subst c0
    exact p_gFc (ji := 7) rfl k1.c7 (p_aGc (g1 133 0 (by decide)) (p_ret rfl))
  · subst c1
    exact p_gFc (ji := 7) rfl k1.c7 (p_aGc (g1 133 1 (by decide)) (p_ret rfl))
  · subst c2
    exact p_gFc (ji := 7) rfl k1.c7 (p_aGc (g1 133 2 (by decide)) (p_ret rfl))
  · subst c3
    exact p_gFc (ji := 8) rfl k1.c8 (p_aGc (g1 134 0 (by decide)) (p_ret rfl))
  · subst c4
    exact p_gFc (ji := 12) rfl k1.c12 (p_aGc (g1 138 0 (by decide)) (p_ret rfl))
  · subst c5
    exact p_gFc (ji := 5) rfl k1.c5 (p_aGc (g1 131 0 (by decide)) (p_ret rfl))
  · subst c6
    exact p_gFc (ji := 6) rfl k1.c6 (p_aGc (g1 132 0 (by decide)) (p_ret rfl))
  · subst c7
    have et : tvb m1 = tvb M := by
      unfold tvb
      rw [g1 131 0 (by decide), g1 132 0 (by decide), g1 138 0 (by decide), show mG m1 139 = mG M 139 from funext (fun j => g1 139 j (by decide)), show mG m1 140 = mG M 140 from funext (fun j => g1 140 j (by decide))]
    refine p_gK (p_call (v_told k1 (by rw [g1 138 0 (by decide)]; exact rd_Mstories iM (a := 138) (i := 0) rfl)) (fun v m y => p_ret ?_))
    have y2 : v = ((tvb m1 : Nat) : Int) := y.2
    rw [et] at y2
    exact y2
  · subst c8
    obtain ⟨F, hF⟩ : ∃ F : Nat → Bool, F = fun (x : Nat) => !decide ((0 : Int) = mG M 137 (x : Int)) := ⟨_, rfl⟩
    have loop : ∀ (fu f : Nat), f ≤ 36 → pw (mX9_many_110 fu 126 ((ctn F f : Nat) : Int) (f : Int) m1) (fun q => q.1 = ((ctn F 36 : Nat) : Int)) := by
      intro fu
      induction fu with
      | zero => intro f _; exact p_none
      | succ fu ih =>
        intro f hf
        show pw (bX9_many_110 (mX9_many_110 fu) 126 _ (f : Int) m1) _
        unfold bX9_many_110
        have cle := ctn_le F f
        refine p_if (fun c => p_ret ?_) (fun c => ?_)
        · show ((ctn F f : Nat) : Int) = _
          rw [show f = 36 by omega]
        have go : ∀ x : Int, x = b2i (F f) → pw (mX9_many_131 (mX9_many_110 fu) 126 (f : Int) ((ctn F f : Nat) : Int) x m1) (fun q => q.1 = ((ctn F 36 : Nat) : Int)) := fun x hx => by
          unfold mX9_many_131
          have bb := b2i_b (F f)
          rw [wI_s (p := f) (by omega), wI_id (x := ((ctn F f : Nat) : Int) + x) (by omega) (by omega), hx, b2i_n, ← Int.natCast_add, ← ctn_s]
          exact ih (f + 1) (by omega)
        refine p_gFc (ji := 11) rfl k1.c11 (p_aGc (g1 137 (f : Int) (by decide)) (p_if (fun c2 => go 0 ?_) (fun c2 => go 1 ?_)))
        · rw [hF]
          show (0 : Int) = b2i (!decide ((0 : Int) = mG M 137 (f : Int)))
          rw [decide_eq_true c2.symm]; rfl
        · rw [hF]
          show (1 : Int) = b2i (!decide ((0 : Int) = mG M 137 (f : Int)))
          rw [decide_eq_false (fun z => c2 z.symm)]; rfl
    refine p_mono (loop FU 0 (Nat.zero_le _)) (fun q y => ?_)
    rw [hF] at y
    exact y
  · subst c9
    exact p_gFc (ji := 15) rfl k1.c15 (p_aGc (g1 141 8 (by decide)) (p_ret rfl))
  · subst c10
    exact p_gFc (ji := 20) rfl k1.c20 (p_aGc (g1 146 0 (by decide)) (p_ret rfl))
theorem eq_many (h : J4 M) : pw (mX8_many 1 l M) (fun q1 => pw (mX9_many 126 l q1.2) (fun q2 => EQ q1 q2)) :=
  p_mono (q_many8 h) (fun q1 y => by
    rw [y.1]
    exact p_mono (v_many9 (l := l) h.1.1.1.1.1) (fun q2 z => y.2.trans z.symm))
theorem j4_manyE (r1 : (-2147483648) ≤ l ∧ l ≤ 2147483647) (h : J4 M) : wp (mX8_many 1 l M) (fun q1 => wp (mX9_many 126 l q1.2) (fun q2 => J4 q2.2 ∧ EQ q1 q2)) := w_and3 (M := M) (j4_many r1 h) (eq_many h)
end
end
