/-! ===== other sizes: whether all that is viewed fits ===== -/
def SH.rs (S : SH) (a b c : Int) : SH := (fun k => if k = 0 then a else if k = 1 then b else c, S.nr, S.k1, S.k2)
theorem rs_ok {S : SH} {a b c : Int} (ok : S.ok) (ha : 1 ≤ a ∧ a ≤ 3) (hb : 1 ≤ b ∧ b ≤ 3) (hc : 1 ≤ c ∧ c ≤ 3) : (S.rs a b c).ok := by
  refine ⟨fun k k0 k1 => ?_, ok.2.1, ok.2.2⟩
  show 1 ≤ (if k = 0 then a else if k = 1 then b else c) ∧ (if k = 0 then a else if k = 1 then b else c) ≤ 3
  by_cases e : k = 0
  · rw [if_pos e]; exact ha
  · rw [if_neg e]
    by_cases e1 : k = 1
    · rw [if_pos e1]; exact hb
    · rw [if_neg e1]; exact hc
def FITS (S : SH) (P : Nat → List Row) (vw : Nat) (a b c : Int) : Prop := (1 ≤ c ∧ c ≤ 3) ∧ (S.rs a b c).nf ≤ 12 ∧ ∃ w : Nat, w < 2 ^ (S.rs a b c).nf.toNat ∧ allb (stw (S.rs a b c) P vw w) 8 = true
def ky (s m h : Int) : Int := 16 * s + 4 * m + h
def rg3 (s m h : Int) : Prop := (3 ≤ s ∧ s ≤ 9) ∧ (1 ≤ m ∧ m ≤ 3) ∧ (1 ≤ h ∧ h ≤ 3)
/-- none of those that come earlier fits -/
def NFT (S : SH) (P : Nat → List Row) (vw : Nat) (k : Int) : Prop := ∀ s m h : Int, rg3 s m h → ky s m h < k → ¬ FITS S P vw m h (s - m - h)
def LST (S : SH) (P : Nat → List Row) (vw : Nat) (x y z : Int) : Prop := (∃ s m h : Int, rg3 s m h ∧ FITS S P vw m h (s - m - h) ∧ NFT S P vw (ky s m h) ∧ x = m ∧ y = h ∧ z = s - m - h) ∨ (NFT S P vw 200 ∧ x = -1 ∧ y = -1 ∧ z = -1)
section
variable {S : SH} {P : Nat → List Row} {vw : Nat}
theorem LST.eq {x y z x' y' z' : Int} (h : LST S P vw x y z) (k : LST S P vw x' y' z') : x = x' ∧ y = y' ∧ z = z' := by
  rcases h with ⟨s, m, h, r, f, n, e1, e2, e3⟩ | ⟨n, e1, e2, e3⟩
  · rcases k with ⟨s', m', h', r', f', n', e1', e2', e3'⟩ | ⟨n', _⟩
    · have a : ¬ ky s' m' h' < ky s m h := fun w => n s' m' h' r' w f'
      have b : ¬ ky s m h < ky s' m' h' := fun w => n' s m h r w f
      unfold ky at a b
      unfold rg3 at r r'
      refine ⟨by omega, by omega, by omega⟩
    · exact absurd f (n' s m h r (by unfold ky; unfold rg3 at r; omega))
  · rcases k with ⟨s', m', h', r', f', n', e1', e2', e3'⟩ | ⟨n', e1', e2', e3'⟩
    · exact absurd f' (n s' m' h' r' (by unfold ky; unfold rg3 at r'; omega))
    · exact ⟨by omega, by omega, by omega⟩
theorem NFT.step {s m h : Int} (n : NFT S P vw (ky s m h)) (r0 : rg3 s m h) (f : ¬ FITS S P vw m h (s - m - h)) : NFT S P vw (ky s m (h + 1)) := fun s' m' h' r w => by
  by_cases e : ky s' m' h' < ky s m h
  · exact n s' m' h' r e
  · unfold ky at e w
    unfold rg3 at r r0
    have e1 : s' = s := by omega
    have e2 : m' = m := by omega
    have e3 : h' = h := by omega
    rw [e1, e2, e3]
    exact f
theorem NFT.row {s m : Int} (n : NFT S P vw (ky s m 4)) : NFT S P vw (ky s (m + 1) 1) := fun s' m' h' r w => n s' m' h' r (by
  unfold ky at w ⊢
  unfold rg3 at r
  omega)
theorem NFT.sum {s : Int} (n : NFT S P vw (ky s 4 1)) : NFT S P vw (ky (s + 1) 1 1) := fun s' m' h' r w => n s' m' h' r (by
  unfold ky at w ⊢
  unfold rg3 at r
  omega)
theorem NFT.fin (n : NFT S P vw (ky 10 1 1)) : NFT S P vw 200 := fun s' m' h' r w => n s' m' h' r (by
  unfold ky at w ⊢
  unfold rg3 at r
  omega)
theorem NFT.ini : NFT S P vw (ky 3 1 1) := fun s' m' h' r w => by
  unfold ky at w
  unfold rg3 at r
  omega
end
/-- the trial's shape, sizes aside -/
def TRI (S : SH) (m : Mem) : Prop := LO 38 m ∧ mG m 38 6 = S.nr ∧ ∀ r : Int, 0 ≤ r → r < S.nr → mG m 40 r = S.k1 r ∧ mG m 41 r = S.k2 r
theorem TRI.kp {S : SH} {m m' : Mem} (h : TRI S m) (g : ∀ c j : Int, 38 ≤ c → c ≤ 44 → mG m' c j = mG m c j) : TRI S m' :=
  ⟨h.1.of (fun b j b0 b1 => g b j b0 (by omega)), (g 38 6 (by decide) (by decide)).trans h.2.1, fun r r0 r1 => ⟨(g 40 r (by decide) (by decide)).trans (h.2.2 r r0 r1).1, (g 41 r (by decide) (by decide)).trans (h.2.2 r r0 r1).2⟩⟩
theorem is38 : isShape 38 := by unfold isShape; decide
theorem tri_shc {n : Nat} {m : Mem} {S : SH} {a b c : Int} (iM : I n m) (n4 : 0 ≤ S.nr ∧ S.nr ≤ 4) (h : TRI S m) (h0 : mG m 39 0 = a) (h1 : mG m 39 1 = b) (h2 : mG m 39 2 = c) : SHC (S.rs a b c) 38 m := by
  obtain ⟨⟨l1, l2⟩, e6, kk⟩ := h
  have sg := iM.sg is38
  have hs : ∀ k : Int, 0 ≤ k ∧ k ≤ 2 → mG m 39 k = (S.rs a b c).sz k := fun k hk => by
    show mG m 39 k = (if k = 0 then a else if k = 1 then b else c)
    by_cases e0 : k = 0
    · rw [if_pos e0, e0, h0]
    · rw [if_neg e0]
      by_cases e1 : k = 1
      · rw [if_pos e1, e1, h1]
      · rw [if_neg e1, show k = 2 by omega, h2]
  have hz : ∀ k : Int, -1 ≤ k ∧ k ≤ 2 → szC 38 m k = (S.rs a b c).zv k := fun k hk => by
    show (if k = -1 then 1 else mG m 39 k) = (if k = -1 then 1 else (S.rs a b c).sz k)
    by_cases e : k = -1
    · rw [if_pos e, if_pos e]
    · rw [if_neg e, if_neg e, hs k ⟨by omega, hk.2⟩]
  have f1 : ∀ r : Int, 0 ≤ mG m 40 r ∧ mG m 40 r ≤ 2 := fun r => sg.2.2.2.1 r
  have f2 : ∀ r : Int, -1 ≤ mG m 41 r ∧ mG m 41 r ≤ 2 := fun r => sg.2.2.2.2 r
  have st : ∀ r : Nat, (r : Int) ≤ S.nr → stC 38 m r = (S.rs a b c).st r := by
    intro r
    induction r with
    | zero => intro _; rfl
    | succ r ih =>
      intro hr
      obtain ⟨k1, k2⟩ := kk (r : Int) (by omega) (by omega)
      have x1 := f1 (r : Int)
      have x2 := f2 (r : Int)
      show stC 38 m r + szC 38 m (mG m 40 r) * szC 38 m (mG m 41 r) = (S.rs a b c).st r + (S.rs a b c).zv (S.k1 r) * (S.rs a b c).zv (S.k2 r)
      rw [ih (by omega), hz _ ⟨by omega, x1.2⟩, hz _ x2, k1, k2]
  refine ⟨⟨(sg.1 0 (by decide) (by decide)).trans (by decide), (sg.1 1 (by decide) (by decide)).trans (by decide), (sg.1 2 (by decide) (by decide)).trans (by decide), (sg.1 3 (by decide) (by decide)).trans (by decide), (sg.1 4 (by decide) (by decide)).trans (by decide), (sg.1 5 (by decide) (by decide)).trans (by decide), e6, ?_⟩, fun k k0 k1 => hs k ⟨k0, by omega⟩, fun r r0 r1 => ?_⟩
  · rw [e6] at l1
    exact l1.trans (st _ (by omega))
  · obtain ⟨x, rfl⟩ := Int.eq_ofNat_of_zero_le r0
    have r1 : (x : Int) < S.nr := r1
    obtain ⟨k1, k2⟩ := kk (x : Int) r0 r1
    obtain ⟨y1, y2, y3⟩ := l2 x (by rw [e6]; exact r1)
    have x1 := f1 (x : Int)
    have x2 := f2 (x : Int)
    refine ⟨k1, k2, ?_, ?_, ?_⟩
    · rw [Int.toNat_natCast]
      exact y1.trans (st x (by omega))
    · refine y2.trans ?_
      show szC 38 m (mG m 40 x) = (S.rs a b c).zv (S.k1 x)
      rw [hz _ ⟨by omega, x1.2⟩, k1]
    · refine y3.trans ?_
      show szC 38 m (mG m 41 x) = (S.rs a b c).zv (S.k2 x)
      rw [hz _ x2, k2]
theorem q_resize {n : Nat} {m : Mem} {k v : Int} (iM : I n m) (lo : LO 38 m) (hk : 0 ≤ k ∧ k ≤ 2) (hv : 1 ≤ v ∧ v ≤ 3) : pw (mX3_resize 38 k v m) (fun q => I n q.2 ∧ LO 38 q.2 ∧ (∀ j : Int, mG q.2 39 j = if j = k then v else mG m 39 j) ∧ ∀ c j : Int, ¬ c = 39 → ¬ (c = 38 ∧ j = 7) → ¬ (42 ≤ c ∧ c ≤ 44) → mG q.2 c j = mG m c j) := by
  have main : pw (mX3_resize 38 k v m) (fun q => LO 38 q.2 ∧ (∀ j : Int, mG q.2 39 j = if j = k then v else mG m 39 j) ∧ ∀ c j : Int, ¬ c = 39 → ¬ (c = 38 ∧ j = 7) → ¬ (42 ≤ c ∧ c ≤ 44) → mG q.2 c j = mG m c j) := by
    unfold mX3_resize
    refine p_call pl_isKind (fun r m1 y => ?_)
    obtain ⟨y1, y2⟩ := y
    replace y1 : m1 = m := y1
    subst y1
    rcases y2 with ⟨e, _⟩ | ⟨e, c⟩
    · replace e : r = 1 := e
      have s5 : mG m1 38 0 = 39 := ((iM.sg is38).1 0 (by decide) (by decide)).trans (by decide)
      refine p_it0 (show ¬ r = 0 by omega) (p_it0 (by omega) (p_it0 (by omega) (p_gFc (ji := 0) rfl s5 (p_aG (fun u hu => p_if (fun c4 => p_ret ⟨lo, fun j => ?_, fun _ _ _ _ _ => rfl⟩) (fun c4 => p_gFc (ji := 0) rfl s5 (p_aS (fun M1 h1 => p_gK ?_))))))))
      · by_cases e2 : j = k
        · rw [if_pos e2, e2]; exact hu.trans c4
        · rw [if_neg e2]
      · have iM1 : I n M1 := wr_Ssizes iM (a := 39) rfl ⟨by omega, by omega⟩ h1
        refine p_call (pl_layOut (iM1.sg is38)) (fun r2 m2 y => p_ret ?_)
        obtain ⟨lo2, fr⟩ := y
        replace fr : FrL 38 M1 m2 := fr
        refine ⟨lo2, fun j => ?_, fun c j c0 c1 c2 => (fr c j c1 (by omega)).trans (st_ne h1 (fun w => c0 w.1))⟩
        refine (fr 39 j (by omega) (by omega)).trans ?_
        by_cases e2 : j = k
        · rw [if_pos e2, e2]; exact st_eq h1
        · rw [if_neg e2]; exact st_ne h1 (fun w => e2 w.2)
    · exact absurd hk c
  exact p_mono (p_and main (p_wp (s_X3_resize (l0 := 38) (l1 := k) (l2 := v) is38 (by omega) (by omega) iM))) (fun q y => ⟨y.2.1, y.1⟩)
section
variable {m : Mem} {S : SH} {P : Nat → List Row} {vw : Nat}
theorem q_fits73 (ok : S.ok) (n12 : S.nf ≤ 12) (k2 : K2 m) (sh : SHC S 38 m) (tp : TXP S P m) (hvw : ∀ s : Nat, vw.testBit s = true → (s : Int) < mG m 3 11) (v8 : vw < 256) (ws : WS 36 S.nf (fun w => decide (w < 2 ^ S.nf.toNat)) m) : pw (mX4_fits_73 FU 2 (vw : Int) 0 m) (fun q => FQ m q.2 ∧ (((∃ w : Nat, w < 2 ^ S.nf.toNat ∧ allb (stw S P vw w) 8 = true) ∧ q.1 = 1) ∨ ((¬ ∃ w : Nat, w < 2 ^ S.nf.toNat ∧ allb (stw S P vw w) 8 = true) ∧ q.1 = 0))) := by
  have nf := ok.nf
  have ub := uw_b (n := S.nf) ⟨nf.1, n12⟩
  obtain ⟨Q, hQ⟩ : ∃ Q : Int × Mem → Prop, Q = fun q => FQ m q.2 ∧ (((∃ w : Nat, w < 2 ^ S.nf.toNat ∧ allb (stw S P vw w) 8 = true) ∧ q.1 = 1) ∨ ((¬ ∃ w : Nat, w < 2 ^ S.nf.toNat ∧ allb (stw S P vw w) 8 = true) ∧ q.1 = 0)) := ⟨_, rfl⟩
  rw [← hQ]
  have l73 : ∀ (fu x : Nat) (m5 : Mem), x ≤ uw S.nf → FQ m m5 → (∀ w, w < 64 * x → w < 2 ^ S.nf.toNat → ¬ allb (stw S P vw w) 8 = true) → pw (mX4_fits_73 fu 2 (vw : Int) (x : Int) m5) Q := by
    intro fu
    induction fu with
    | zero => intro x m5 _ _ _; exact p_none
    | succ fu ih =>
      intro x m5 hx fq hz
      show pw (bX4_fits_73 (mX4_fits_73 fu) 2 (vw : Int) (x : Int) m5) Q
      have k5 := k2.fq fq
      have ws5 : WS 36 S.nf (fun w => decide (w < 2 ^ S.nf.toNat)) m5 := ws.kp (fun j => fq 36 j (by omega) (by omega)) (fun j => fq 37 j (by omega) (by omega))
      unfold bX4_fits_73
      refine p_gFc (ji := 7) rfl k5.c2_7 (p_gK (p_call (P := fun q => q.2 = m5 ∧ q.1 = ((uw S.nf : Nat) : Int)) ?_ (fun r m6 y => ?_)))
      · unfold mX7_usedWords
        exact p_gFc (ji := 1) rfl ws5.1.2.1 (p_ret ⟨rfl, rfl⟩)
      obtain ⟨y1, y2⟩ := y
      replace y1 : m6 = m5 := y1
      replace y2 : r = ((uw S.nf : Nat) : Int) := y2
      subst y1
      refine p_if (fun c => p_ret ?_) (fun c => ?_)
      · have c : r ≤ (x : Int) := c
        rw [hQ]
        refine ⟨fq, Or.inr ⟨?_, rfl⟩⟩
        rintro ⟨w, w1, w2⟩
        exact hz w (by have p := ub.2.2.1; omega) w1 w2
      have c : ¬ r ≤ (x : Int) := c
      have x1 : x < uw S.nf := by omega
      obtain ⟨v1, v2⟩ := ws5.2 x x1
      refine p_gFc (ji := 7) rfl k5.c2_7 (p_gFc (ji := 0) rfl ws5.1.1 (p_aG (fun l hl => ?_)))
      rw [hl] at v1 v2
      have nxt : ∀ m7, FQ m m7 → (∀ b : Nat, b < 64 → 64 * x + b < 2 ^ S.nf.toNat → ¬ allb (stw S P vw (64 * x + b)) 8 = true) → pw (mX4_fits_73 fu 2 (vw : Int) (wI ((x : Int) + 1)) m7) Q := fun m7 f7 h => by
        rw [wI_s (p := x) (by omega)]
        refine ih (x + 1) m7 (by omega) f7 (fun w hw w1 => ?_)
        by_cases e : w < 64 * x
        · exact hz w e w1
        · have := h (w - 64 * x) (by omega)
          rw [show 64 * x + (w - 64 * x) = w by omega] at this
          exact this w1
      have l100 : ∀ (fu2 s : Nat) (l : Int) (m7 : Mem), s ≤ 8 → FQ m m7 → InLL l → (∀ b : Nat, b < 64 → lb l b = (decide (64 * x + b < 2 ^ S.nf.toNat) && allb (stw S P vw (64 * x + b)) s)) → pw (mX4_fits_100 (mX4_fits_73 fu) fu2 2 (vw : Int) (x : Int) l (s : Int) m7) Q := by
        intro fu2
        induction fu2 with
        | zero => intro s l m7 _ _ _ _; exact p_none
        | succ fu2 ih2 =>
          intro s l m7 hs f7 l1 l2
          show pw (bX4_fits_100 (mX4_fits_73 fu) (mX4_fits_100 (mX4_fits_73 fu) fu2) 2 (vw : Int) (x : Int) l (s : Int) m7) Q
          have zero : l = 0 → pw (mX4_fits_73 fu 2 (vw : Int) (wI ((x : Int) + 1)) m7) Q := fun e => nxt m7 f7 (fun b hb w1 w2 => by
            have h := l2 b hb
            have t := (allb_t 8).mp w2
            rw [(l_zero l1).mp e b hb, decide_eq_true w1, Bool.true_and, (allb_t s).mpr (fun i hi => t i (by omega))] at h
            cases h)
          have k7 := k2.fq f7
          unfold bX4_fits_100
          refine p_if (fun c8 => ?_) (fun c8 => p_if (fun c0 => ?_) (fun c0 => ?_))
          · have e8 : s = 8 := by omega
            subst e8
            unfold mX4_fits_167
            refine p_if (fun c0 => zero ((lcmp_0 _ _).mp c0)) (fun c0 => p_ret ?_)
            rw [hQ]
            refine ⟨f7, Or.inl ⟨?_, rfl⟩⟩
            apply Classical.byContradiction
            intro hn
            refine c0 ((lcmp_0 _ _).mpr ((l_zero l1).mpr (fun b hb => ?_)))
            rw [l2 b hb]
            by_cases w1 : 64 * x + b < 2 ^ S.nf.toNat
            · cases w2 : allb (stw S P vw (64 * x + b)) 8 with
              | false => exact Bool.and_false _
              | true => exact absurd ⟨_, w1, w2⟩ hn
            · rw [decide_eq_false w1]; rfl
          · unfold mX4_fits_167
            exact p_it1 c0 (zero ((lcmp_0 _ _).mp c0))
          · have s8 : s < 8 := by omega
            refine p_gFc (ji := 0) rfl k7.c2_0 (p_gFc (ji := 8) rfl k7.c3_8 (p_aG (fun t ht => ?_)))
            have skip : vw.testBit s = false → pw (mX4_fits_161 (mX4_fits_73 fu) (mX4_fits_100 (mX4_fits_73 fu) fu2) 2 (vw : Int) (x : Int) l (s : Int) m7) Q := fun e => by
              unfold mX4_fits_161
              rw [wI_s (p := s) (by omega)]
              refine ih2 (s + 1) l m7 (by omega) f7 l1 (fun b hb => ?_)
              rw [l2 b hb]
              show (_ && allb _ s) = (_ && (allb _ s && stw S P vw (64 * x + b) s))
              have : stw S P vw (64 * x + b) s = true := by unfold stw; rw [e]; rfl
              rw [this, Bool.and_true]
            refine p_if (fun c2 => skip ((ibit (x := vw) (k := s) (by omega) (by omega)).mp c2)) (fun c2 => ?_)
            have tk : vw.testBit s = true := by
              cases e : vw.testBit s with
              | true => rfl
              | false => exact absurd ((ibit (x := vw) (k := s) (by omega) (by omega)).mpr e) c2
            obtain ⟨t1, t2, t3⟩ := tp s (hvw s tk)
            have et : t = mG m 14 (s : Int) := ht.symm.trans (f7 14 _ (by omega) (by omega))
            subst et
            refine p_it0 (by omega) (p_gFc (ji := 1) rfl k7.c2_1 (p_gFc (ji := 8) rfl k7.c2_8 (p_gK (p_call (q_soInWord (s := 38) (t := mG m 14 (s : Int)) (a := x) ok n12 ⟨Or.inr rfl, t1⟩ k7 (sh.kp (fun c j c0 c1 => f7 c j (by omega) (by omega))) (t2.of (fun b j b0 b1 => f7 b j (by omega) (by omega))) t3 (by omega)) (fun v m8 y => ?_)))))
            obtain ⟨⟨y1, y2⟩, y3⟩ := y
            replace y3 : FQ m7 m8 := y3
            replace y2 : ∀ b : Nat, b < 64 → lb v b = TMw S (P s) (64 * x + b) := y2
            unfold mX4_fits_161
            rw [wI_s (p := s) (by omega)]
            refine ih2 (s + 1) (land l v) m8 (by omega) (fun c j a b => (y3 c j a b).trans (f7 c j a b)) (land_L _ _) (fun b hb => ?_)
            rw [lb_and, l2 b hb, y2 b hb]
            show ((_ && allb _ s) && _) = (_ && (allb _ s && stw S P vw (64 * x + b) s))
            have : stw S P vw (64 * x + b) s = TMw S (P s) (64 * x + b) := by unfold stw; rw [tk]; rfl
            rw [this, Bool.and_assoc]
      refine l100 FU 0 l m6 (Nat.zero_le _) fq v1 (fun b hb => ?_)
      rw [v2 b hb]
      show _ = (_ && true)
      rw [Bool.and_true]
  exact l73 FU 0 m (Nat.zero_le _) (fun _ _ _ _ => rfl) (fun w hw => absurd hw (by omega))
end
def WFT (c j : Int) : Prop := (c = 20 ∧ (j = 0 ∨ j = 1 ∨ j = 5)) ∨ (21 ≤ c ∧ c ≤ 23) ∨ c = 37 ∨ (c = 36 ∧ (j = 1 ∨ j = 2)) ∨ c = 39 ∨ (c = 38 ∧ j = 7) ∨ (42 ≤ c ∧ c ≤ 44)
def FFT (M M' : Mem) : Prop := ∀ c j : Int, ¬ WFT c j → mG M' c j = mG M c j
theorem q_fits {n : Nat} {m : Mem} {S : SH} {P : Nat → List Row} {vw : Nat} {a b c : Int} (ok : S.ok) (iM : I n m) (tri : TRI S m) (tp : TXP S P m) (hvw : ∀ s : Nat, vw.testBit s = true → (s : Int) < mG m 3 11) (v8 : vw < 256) (ha : 1 ≤ a ∧ a ≤ 3) (hb : 1 ≤ b ∧ b ≤ 3) (hc : -3 ≤ c ∧ c ≤ 7) : pw (mX4_fits 2 a b c (vw : Int) m) (fun q => (I n q.2 ∧ TRI S q.2 ∧ FFT m q.2) ∧ ((FITS S P vw a b c ∧ q.1 = 1 ∧ mG q.2 39 0 = a ∧ mG q.2 39 1 = b ∧ mG q.2 39 2 = c) ∨ (¬ FITS S P vw a b c ∧ q.1 = 0))) := by
  obtain ⟨Q, hQ⟩ : ∃ Q : Int × Mem → Prop, Q = fun q => (TRI S q.2 ∧ FFT m q.2) ∧ ((FITS S P vw a b c ∧ q.1 = 1 ∧ mG q.2 39 0 = a ∧ mG q.2 39 1 = b ∧ mG q.2 39 2 = c) ∨ (¬ FITS S P vw a b c ∧ q.1 = 0)) := ⟨_, rfl⟩
  have main : pw (mX4_fits 2 a b c (vw : Int) m) Q := by
    have n4 := ok.2.1
    unfold mX4_fits
    refine p_if (fun c1 => p_ret ?_) (fun c1 => p_if (fun c3 => ?_) (fun c3 => p_ret ?_))
    · rw [hQ]; exact ⟨⟨tri, fun _ _ _ => rfl⟩, Or.inr ⟨fun w => by have := w.1; omega, rfl⟩⟩
    · have hc3 : 1 ≤ c ∧ c ≤ 3 := ⟨by omega, c3⟩
      refine p_gFc (ji := 8) rfl (K2.of iM).c2_8 (p_gK (p_call (q_resize (k := 0) (v := a) iM tri.1 (by omega) ha) (fun _ m1 y => ?_)))
      obtain ⟨i1, lo1, z1, g1⟩ := y
      replace i1 : I n m1 := i1
      replace lo1 : LO 38 m1 := lo1
      replace z1 : ∀ j : Int, mG m1 39 j = if j = 0 then a else mG m 39 j := z1
      replace g1 : ∀ c j : Int, ¬ c = 39 → ¬ (c = 38 ∧ j = 7) → ¬ (42 ≤ c ∧ c ≤ 44) → mG m1 c j = mG m c j := g1
      refine p_gFc (ji := 8) rfl (K2.of i1).c2_8 (p_gK (p_call (q_resize (k := 1) (v := b) i1 lo1 (by omega) hb) (fun _ m2 y => ?_)))
      obtain ⟨i2, lo2, z2, g2⟩ := y
      replace i2 : I n m2 := i2
      replace lo2 : LO 38 m2 := lo2
      replace z2 : ∀ j : Int, mG m2 39 j = if j = 1 then b else mG m1 39 j := z2
      replace g2 : ∀ c j : Int, ¬ c = 39 → ¬ (c = 38 ∧ j = 7) → ¬ (42 ≤ c ∧ c ≤ 44) → mG m2 c j = mG m1 c j := g2
      refine p_gFc (ji := 8) rfl (K2.of i2).c2_8 (p_gK (p_call (q_resize (k := 2) (v := c) i2 lo2 (by omega) hc3) (fun _ m3 y => ?_)))
      obtain ⟨i3, lo3, z3, g3⟩ := y
      replace i3 : I n m3 := i3
      replace lo3 : LO 38 m3 := lo3
      replace z3 : ∀ j : Int, mG m3 39 j = if j = 2 then c else mG m2 39 j := z3
      have gg : ∀ c j : Int, ¬ c = 39 → ¬ (c = 38 ∧ j = 7) → ¬ (42 ≤ c ∧ c ≤ 44) → mG m3 c j = mG m c j := fun c j x y z => (g3 c j x y z).trans ((g2 c j x y z).trans (g1 c j x y z))
      have e0 : mG m3 39 0 = a := by rw [z3, if_neg (by decide), z2, if_neg (by decide), z1, if_pos rfl]
      have e1 : mG m3 39 1 = b := by rw [z3, if_neg (by decide), z2, if_pos rfl]
      have e2 : mG m3 39 2 = c := by rw [z3, if_pos rfl]
      have tri3 : TRI S m3 := ⟨lo3, (gg 38 6 (by decide) (by decide) (by decide)).trans tri.2.1, fun r r0 r1 => ⟨(gg 40 r (by decide) (by omega) (by decide)).trans (tri.2.2 r r0 r1).1, (gg 41 r (by decide) (by omega) (by decide)).trans (tri.2.2 r r0 r1).2⟩⟩
      have sh : SHC (S.rs a b c) 38 m3 := tri_shc i3 n4 tri3 e0 e1 e2
      have oks : (S.rs a b c).ok := rs_ok ok ha hb hc3
      have nf := oks.nf
      have k3 := K2.of i3
      refine p_gFc (ji := 8) rfl k3.c2_8 (p_gFc (ji := 7) rfl sh.1.2.2.2.2.2.2.2 (p_if (fun c12 => ?_) (fun c12 => p_ret ?_)))
      · refine p_gFc (ji := 7) rfl k3.c2_7 (p_gFc (ji := 8) rfl k3.c2_8 (p_gFc (ji := 7) rfl sh.1.2.2.2.2.2.2.2 (p_gK (p_call (q_takeAll (l := 36) (k := (S.rs a b c).nf) ⟨nf.1, c12⟩ k3.c36_0) (fun _ m4 y => ?_)))))
        obtain ⟨ws, f4⟩ := y
        replace f4 : FW 36 m3 m4 := f4
        have g4 : ∀ c j : Int, ¬ c = 37 → ¬ (c = 36 ∧ (j = 1 ∨ j = 2)) → mG m4 c j = mG m3 c j := fun c j x y => f4 c j x y
        have tp4 : TXP (S.rs a b c) P m4 := fun s hs => by
          have e11 : mG m4 3 11 = mG m 3 11 := (g4 3 11 (by decide) (by decide)).trans (gg 3 11 (by decide) (by decide) (by decide))
          rw [e11] at hs
          obtain ⟨t1, t2, t3⟩ := tp s hs
          have e14 : mG m4 14 (s : Int) = mG m 14 (s : Int) := (g4 14 _ (by decide) (by omega)).trans (gg 14 _ (by decide) (by omega) (by decide))
          rw [e14]
          exact ⟨t1, t2.of (fun b' j b0 b1 => (g4 b' j (by omega) (by omega)).trans (gg b' j (by omega) (by omega) (by omega))), t3⟩
        refine p_mono (q_fits73 (S := S.rs a b c) (P := P) (vw := vw) oks c12 (k3.fw f4 (by decide)) (sh.kp (fun c j c0 c1 => g4 c j (by omega) (by omega))) tp4 (fun s hs => by
          rw [(g4 3 11 (by decide) (by decide)).trans (gg 3 11 (by decide) (by decide) (by decide))]
          exact hvw s hs) v8 ws) (fun q y => ?_)
        obtain ⟨fq, y⟩ := y
        have g5 : ∀ c j : Int, ¬ (c = 20 ∧ (j = 0 ∨ j = 1 ∨ j = 5)) → ¬ (21 ≤ c ∧ c ≤ 23) → ¬ c = 37 → ¬ (c = 36 ∧ (j = 1 ∨ j = 2)) → mG q.2 c j = mG m3 c j := fun c j x y z w => (fq c j x y).trans (g4 c j z w)
        rw [hQ]
        refine ⟨⟨tri3.kp (fun c j c0 c1 => g5 c j (by omega) (by omega) (by omega) (by omega)), fun c j x => (g5 c j (fun w => x (by unfold WFT; omega)) (fun w => x (by unfold WFT; omega)) (fun w => x (by unfold WFT; omega)) (fun w => x (by unfold WFT; omega))).trans (gg c j (fun w => x (by unfold WFT; omega)) (fun w => x (by unfold WFT; omega)) (fun w => x (by unfold WFT; omega)))⟩, ?_⟩
        have s39 : ∀ j, mG q.2 39 j = mG m3 39 j := fun j => g5 39 j (by omega) (by decide) (by decide) (by omega)
        rcases y with ⟨y1, y2⟩ | ⟨y1, y2⟩
        · exact Or.inl ⟨⟨hc3, c12, y1⟩, y2, (s39 0).trans e0, (s39 1).trans e1, (s39 2).trans e2⟩
        · exact Or.inr ⟨fun w => y1 w.2.2, y2⟩
      · rw [hQ]
        exact ⟨⟨tri3, fun c j x => gg c j (fun w => x (by unfold WFT; omega)) (fun w => x (by unfold WFT; omega)) (fun w => x (by unfold WFT; omega))⟩, Or.inr ⟨fun w => c12 w.2.1, rfl⟩⟩
    · rw [hQ]; exact ⟨⟨tri, fun _ _ _ => rfl⟩, Or.inr ⟨fun w => by have := w.1; omega, rfl⟩⟩
  rw [hQ] at main
  exact p_mono (p_and main (p_wp (s_X4_fits (l1 := a) (l2 := b) (l3 := c) (l4 := (vw : Int)) ha hb hc (by omega) iM))) (fun q y => ⟨⟨y.2.1, y.1.1⟩, y.1.2⟩)
