/-! ===== breaks: the class ===== -/
theorem lead_lt : ∀ (ps : List Row) (p : Nat) (r : Row), ps[p]? = some r → p ≤ lead ps → r.c0 = 0 → p < lead ps := by
  intro ps
  induction ps with
  | nil => intro p r h; cases h
  | cons r0 rs ih =>
    intro p r h hp hr
    by_cases c : r0.c0 = 0
    · rw [lead_t c] at hp ⊢
      cases p with
      | zero => omega
      | succ p =>
        have := ih p r h (by omega) hr
        omega
    · rw [lead_f c] at hp
      have e : p = 0 := by omega
      subst e
      have e2 : r0 = r := Option.some.inj h
      rw [e2] at c
      exact absurd hr c
/-- what is so behind the alls, in row c -/
def TBk (S : SH) (φ : Int → Bool) (ps : List Row) (c : Nat) : Bool := hd (sm S (S.fa φ) (ps.drop (lead ps))) (FWv ps (fun p => ((dgp (zf S ps) (lead ps) p c : Nat) : Int)) (lead ps))
def BKk (S : SH) (φ : Int → Bool) (ps : List Row) (k : Int) (v : Int) : Prop := (¬ (0 ≤ k ∧ k < (lead ps : Int)) ∧ v = -1) ∨ ∃ kn : Nat, k = (kn : Int) ∧ kn < lead ps ∧ BR (TBk S φ ps) (RWn (zf S ps) (lead ps)) (fun c => ((dgp (zf S ps) (lead ps) kn c : Nat) : Int)) v
theorem BKk.uniq {S : SH} {φ : Int → Bool} {ps : List Row} {k v v' : Int} (h : BKk S φ ps k v) (h' : BKk S φ ps k v') : v = v' := by
  rcases h with ⟨a, b⟩ | ⟨kn, a, b, c⟩
  · rcases h' with ⟨_, b'⟩ | ⟨kn', a', b', _⟩
    · rw [b, b']
    · exact absurd ⟨by omega, by omega⟩ a
  · rcases h' with ⟨a', _⟩ | ⟨kn', a', b', c'⟩
    · exact absurd ⟨by omega, by omega⟩ a'
    · have e : kn = kn' := by omega
      subst e
      exact c.uniq c'
section
variable {S : SH} {M : Mem} {n : Nat} {ps : List Row} {t : Int} {Φ : Nat → Int → Bool}
theorem q_leadingAlls (tt : TT ps t M) (l4 : lead ps ≤ 4) : pw (mX5_leadingAlls t M) (fun q => q.2 = M ∧ q.1 = ((lead ps : Nat) : Int)) := by
  have loop : ∀ (fu a : Nat), a ≤ lead ps → pw (mX5_leadingAlls_2 fu t (a : Int) M) (fun q => q.2 = M ∧ q.1 = ((lead ps : Nat) : Int)) := by
    intro fu
    induction fu with
    | zero => intro a _; exact p_none
    | succ fu ih =>
      intro a ha
      show pw (bX5_leadingAlls_2 (mX5_leadingAlls_2 fu) t (a : Int) M) _
      unfold bX5_leadingAlls_2
      have fin : ¬ a < lead ps → pw (mX5_leadingAlls_30 (a : Int) M) (fun q => q.2 = M ∧ q.1 = ((lead ps : Nat) : Int)) := fun c => by
        unfold mX5_leadingAlls_30
        refine p_ret ⟨rfl, ?_⟩
        show (a : Int) = _
        omega
      have get : a < lead ps → ∃ r, ps[a]? = some r ∧ r.c0 = 0 ∧ a < ps.length := fun c => by
        obtain ⟨r, h1, h2, h3⟩ := lead_at ps a c
        exact ⟨r, h2, h3, (drop_get h1).2.1⟩
      refine p_gFc (ji := 5) rfl tt.1.2.2.2.2.2.2 (p_if (fun c => fin (fun w => by
        obtain ⟨_, _, _, g⟩ := get w
        omega)) (fun c => p_if (fun c2 => fin (by omega)) (fun c2 => p_gFc (ji := 0) rfl tt.1.2.1 ?_)))
      have la : a < ps.length := by omega
      obtain ⟨r, hr⟩ : ∃ r, ps[a]? = some r := ⟨_, List.getElem?_eq_getElem la⟩
      refine p_aGc (tt.2.1 a r hr).1 (p_if (fun c3 => ?_) (fun c3 => fin (fun w => ?_)))
      · have := lead_lt ps a r hr ha c3
        rw [wI_s (p := a) (by omega)]
        exact ih (a + 1) (by omega)
      · obtain ⟨r', h1, h2, _⟩ := get w
        rw [hr] at h1
        rw [Option.some.inj h1] at c3
        exact c3 h2
  exact loop FU 0 (Nat.zero_le _)
/-- other values chosen -/
theorem JC.ch {M' : Mem} (h : JC S ps t 4 Φ M) (o : okST 4 t) (g : ∀ c j : Int, ¬ c = 22 → mG M' c j = mG M c j) : JC S ps t 4 Φ M' := by
  obtain ⟨jf, jp, h5⟩ := h
  refine ⟨jf.kp o (fun c j _ y _ => g c j y), fun r r0 r1 hk hz i j i0 i1 j0 j1 => ?_, by rw [g 20 5 (by decide)]; exact h5⟩
  rw [g 20 5 (by decide)] at hz
  rw [g 23 _ (by decide)]
  exact jp r r0 r1 hk hz i j i0 i1 j0 j1
theorem q_chooseNext (ok : S.ok) (o : okST 4 t) (hty : ty S.nr S.k1 S.k2 [(0, 255)] ps) {c : Nat} (jc : JC S ps t 4 Φ M) (cells : ∀ p : Nat, p < lead ps → mG M 22 (p : Int) = ((dgp (zf S ps) (lead ps) p c : Nat) : Int)) : pw (mX0_chooseNext 20 ((lead ps : Nat) : Int) M) (fun q => JC S ps t 4 Φ q.2 ∧ ∀ p : Nat, p < lead ps → mG q.2 22 (p : Int) = ((dgp (zf S ps) (lead ps) p (c + 1) : Nat) : Int)) := by
  obtain ⟨_, _, _, _, _, l4, _⟩ := lead_ty hty (lead ps) (Nat.le_refl _)
  obtain ⟨A, hA⟩ : ∃ A, A = lead ps := ⟨_, rfl⟩
  obtain ⟨z, hz'⟩ : ∃ z, z = zf S ps := ⟨_, rfl⟩
  have hz : ∀ p, p < A → 1 ≤ z p ∧ z p ≤ 3 := fun p hp => by
    obtain ⟨_, _, _, _, _, _, _, _, _, _, zz⟩ := lead_row ok hty (p := p) (by omega)
    rw [hz']
    exact zz
  rw [← hA] at l4
  rw [← hA, ← hz'] at cells ⊢
  have loop : ∀ (fu j : Nat) (m : Mem), j ≤ A → (∀ x i : Int, ¬ x = 22 → mG m x i = mG M x i) → (c + 1) % PR z A j = 0 → (∀ p : Nat, p < A → (A - 1 - p < j → mG m 22 (p : Int) = ((dj z A (A - 1 - p) (c + 1) : Nat) : Int)) ∧ (j ≤ A - 1 - p → mG m 22 (p : Int) = ((dj z A (A - 1 - p) c : Nat) : Int))) → pw (mX0_chooseNext_4 fu 20 ((A : Int) - 1 - (j : Int)) m) (fun q => JC S ps t 4 Φ q.2 ∧ ∀ p : Nat, p < A → mG q.2 22 (p : Int) = ((dgp z A p (c + 1) : Nat) : Int)) := by
    intro fu
    induction fu with
    | zero => intro j m _ _ _ _; exact p_none
    | succ fu ih =>
      intro j m hj g hm cc
      show pw (bX0_chooseNext_4 (mX0_chooseNext_4 fu) 20 ((A : Int) - 1 - (j : Int)) m) _
      unfold bX0_chooseNext_4
      have jm := jc.ch o g
      refine p_if (fun c1 => p_ret ⟨jm, fun p hp => (cc p hp).1 (by omega)⟩) (fun c1 => ?_)
      have j1 : j < A := by omega
      obtain ⟨p0, hp0⟩ : ∃ p0, p0 = A - 1 - j := ⟨_, rfl⟩
      have ep : (A : Int) - 1 - (j : Int) = (p0 : Int) := by omega
      have ej : A - 1 - p0 = j := by omega
      obtain ⟨r, l1, l2, l3, lr0, l5, l6, l7, l8, l9, l10⟩ := lead_row ok hty (p := p0) (by omega)
      have c0 := (cc p0 (by omega)).2 (by omega)
      rw [ej] at c0
      have nx := dj_next hz j1 hm
      rw [← hp0] at nx
      have db : dj z A j c < 3 := by
        have := Nat.mod_lt (c / PR z A j) (show 0 < z (A - 1 - j) by have := hz (A - 1 - j) (by omega); omega)
        have := hz (A - 1 - j) (by omega)
        unfold dj
        omega
      rw [ep]
      refine p_gFc (ji := 3) rfl jm.1.1.2.2.2.1 (p_aGc c0 (p_aS (fun m2 h2 => ?_)))
      rw [wI_s (p := dj z A j c) (by omega)] at h2
      have g2 : ∀ x i : Int, ¬ x = 22 → mG m2 x i = mG M x i := fun x i y => (st_ne h2 (fun w => y w.1)).trans (g x i y)
      have j2 := jc.ch o g2
      refine p_gFc (ji := 3) rfl j2.1.1.2.2.2.1 (p_aGc (st_eq h2) (p_gK (p_call (q_sizeAt j2.1 l1 l5) (fun v m3 y => ?_))))
      obtain ⟨y1, y2⟩ := y
      replace y1 : m3 = m2 := y1
      replace y2 : v = S.sz r.c3 := y2
      subst y1
      rw [l9, ← hz'] at y2
      subst y2
      refine p_if (fun c2 => ?_) (fun c2 => p_ret ⟨j2, fun p hp => ?_⟩)
      · replace c2 : (z p0 : Int) ≤ ((dj z A j c + 1 : Nat) : Int) := c2
        obtain ⟨n1, n2⟩ := nx.2 (by omega)
        refine p_gFc (ji := 3) rfl j2.1.1.2.2.2.1 (p_aS (fun m4 h4 => ?_))
        rw [wI_id (x := (p0 : Int) + -1) (by omega) (by omega), show (p0 : Int) + -1 = (A : Int) - 1 - ((j + 1 : Nat) : Int) by omega]
        refine ih (j + 1) m4 (by omega) (fun x i y => (st_ne h4 (fun w => y w.1)).trans (g2 x i y)) n2 (fun p hp => ?_)
        by_cases e : p = p0
        · subst e
          refine ⟨fun _ => ?_, fun w => by omega⟩
          rw [st_eq h4, ej, n1]; rfl
        · have e4 : mG m4 22 (p : Int) = mG m 22 (p : Int) := (st_ne h4 (fun w => e (by have := w.2; omega))).trans (st_ne h2 (fun w => e (by have := w.2; omega)))
          rw [e4]
          exact ⟨fun w => (cc p hp).1 (by omega), fun w => (cc p hp).2 (by omega)⟩
      · replace c2 : ¬ (z p0 : Int) ≤ ((dj z A j c + 1 : Nat) : Int) := c2
        obtain ⟨n1, n2⟩ := nx.1 (by omega)
        show mG m3 22 (p : Int) = ((dj z A (A - 1 - p) (c + 1) : Nat) : Int)
        by_cases e : p = p0
        · subst e
          rw [st_eq h2, ej, n1]
        · rw [st_ne h2 (fun w => e (by have := w.2; omega))]
          by_cases k : A - 1 - p < j
          · exact (cc p hp).1 k
          · rw [n2 (A - 1 - p) (by omega) (by omega)]
            exact (cc p hp).2 (by omega)
  unfold mX0_chooseNext
  rw [wI_id (x := (A : Int) - 1) (by omega) (by omega), show (A : Int) - 1 = (A : Int) - 1 - ((0 : Nat) : Int) by omega]
  exact loop FU 0 M (Nat.zero_le _) (fun _ _ _ => rfl) (Nat.mod_one _) (fun p hp => ⟨fun w => by omega, fun _ => cells p hp⟩)
theorem q_break71 {φ : Int → Bool} (ok : S.ok) (o : okST 4 t) (hty : ty S.nr S.k1 S.k2 [(0, 255)] ps) {k : Nat} (hk : k < lead ps) : ∀ (fu c : Nat) (m : Mem), c ≤ RWn (zf S ps) (lead ps) → JC S ps t 4 (fun _ p => φ p) m → (∀ p : Nat, p < lead ps → mG m 22 (p : Int) = ((dgp (zf S ps) (lead ps) p c : Nat) : Int)) → (∀ x, x < c → TBk S φ ps x = true) → pw (mX0_breakNumber_71 fu 20 (k : Int) ((lead ps : Nat) : Int) ((RWn (zf S ps) (lead ps) : Nat) : Int) (c : Int) m) (fun q => BR (TBk S φ ps) (RWn (zf S ps) (lead ps)) (fun c => ((dgp (zf S ps) (lead ps) k c : Nat) : Int)) q.1) := by
  obtain ⟨sc, bo, t1, t2, t3, t4, t5⟩ := lead_ty hty (lead ps) (Nat.le_refl _)
  have rb := RW_b (z := zf S ps) t4 (fun p hp => by
    obtain ⟨_, _, _, _, _, _, _, _, _, _, zz⟩ := lead_row ok hty hp
    exact zz) (lead ps) (Nat.le_refl _)
  intro fu
  induction fu with
  | zero => intro c m _ _ _ _; exact p_none
  | succ fu ih =>
    intro c m hc jc cells no
    show pw (bX0_breakNumber_71 (mX0_breakNumber_71 fu) 20 (k : Int) _ _ (c : Int) m) _
    unfold bX0_breakNumber_71
    refine p_if (fun c1 => p_ret (Or.inl ⟨rfl, fun x hx => no x (by omega)⟩)) (fun c1 => ?_)
    refine p_gK (p_call (q_judged ok o 45 (lead ps) ((lead ps : Nat) : Int) sc bo [] (FWv ps (fun p => ((dgp (zf S ps) (lead ps) p c : Nat) : Int)) (lead ps)) m jc t1 t2 (by omega) (Int.le_refl _) (fun v v0 v1 hb => t5 (mG m 22) (fun p => ((dgp (zf S ps) (lead ps) p c : Nat) : Int)) (fun q hq => cells q hq) v v0 v1 hb)) (fun r m' y => ?_))
    obtain ⟨⟨y1, y2⟩, jc', fj⟩ := y
    replace y1 : InLL r := y1
    have y3 : ∀ b : Nat, b < 64 → lb r b = TBk S φ ps c := fun b hb => y2 b hb
    replace jc' : JC S ps t 4 (fun _ p => φ p) m' := jc'
    replace fj : FJ (ishr sc 16) m m' := fj
    rw [t3] at fj
    have c' : ∀ p : Nat, p < lead ps → mG m' 22 (p : Int) = ((dgp (zf S ps) (lead ps) p c : Nat) : Int) := fun p hp => (fj 22 (p : Int) (by omega) (by omega) (by decide)).trans (cells p hp)
    have lc : (lcmp r 0 = 0) ↔ r = 0 := lcmp_0 r 0
    refine p_if (fun c2 => ?_) (fun c2 => ?_)
    · have z := (l_zero y1).mp (lc.mp c2) 0 (by decide)
      rw [y3 0 (by decide)] at z
      exact p_gFc (ji := 3) rfl jc'.1.1.2.2.2.1 (p_aGc (c' k hk) (p_ret (Or.inr ⟨c, by omega, z, no, rfl⟩)))
    · have tc : TBk S φ ps c = true := by
        cases e : TBk S φ ps c with
        | true => rfl
        | false => exact absurd (lc.mpr ((l_zero y1).mpr (fun b hb => (y3 b hb).trans e))) c2
      refine p_gK (p_call (q_chooseNext ok o hty jc' c') (fun _ m2 y => ?_))
      rw [wI_s (p := c) (by omega)]
      refine ih (c + 1) m2 (by omega) y.1 y.2 (fun x hx => ?_)
      by_cases e : x = c
      · rw [e]; exact tc
      · exact no x (by omega)
theorem q_break36 {φ : Int → Bool} (ok : S.ok) (o : okST 4 t) (hty : ty S.nr S.k1 S.k2 [(0, 255)] ps) {k : Nat} (hk : k < lead ps) : ∀ (fu a : Nat) (m : Mem), a ≤ lead ps → JC S ps t 4 (fun _ p => φ p) m → (∀ p : Nat, p < a → mG m 22 (p : Int) = 0) → pw (mX0_breakNumber_36 fu 20 (k : Int) ((lead ps : Nat) : Int) ((RWn (zf S ps) a : Nat) : Int) (a : Int) m) (fun q => BR (TBk S φ ps) (RWn (zf S ps) (lead ps)) (fun c => ((dgp (zf S ps) (lead ps) k c : Nat) : Int)) q.1) := by
  obtain ⟨sc, bo, t1, t2, t3, t4, t5⟩ := lead_ty hty (lead ps) (Nat.le_refl _)
  have zz : ∀ p, p < lead ps → 1 ≤ zf S ps p ∧ zf S ps p ≤ 3 := fun p hp => by
    obtain ⟨_, _, _, _, _, _, _, _, _, _, zz⟩ := lead_row ok hty hp
    exact zz
  intro fu
  induction fu with
  | zero => intro a m _ _ _; exact p_none
  | succ fu ih =>
    intro a m ha jc cells
    show pw (bX0_breakNumber_36 (mX0_breakNumber_36 fu) 20 (k : Int) _ _ (a : Int) m) _
    unfold bX0_breakNumber_36
    refine p_if (fun c1 => ?_) (fun c1 => ?_)
    · rw [show a = lead ps by omega]
      refine q_break71 ok o hty hk FU 0 m (Nat.zero_le _) jc (fun p hp => ?_) (fun x hx => absurd hx (by omega))
      rw [cells p (by omega)]
      unfold dgp dj
      rw [Nat.zero_div, Nat.zero_mod]; rfl
    · have a1 : a < lead ps := by omega
      obtain ⟨r, l1, l2, l3, lr0, l5, l6, l7, l8, l9, l10⟩ := lead_row ok hty a1
      have rb := RW_b t4 zz (a + 1) (by omega)
      have rb0 := RW_b t4 zz a (by omega)
      refine p_gFc (ji := 3) rfl jc.1.1.2.2.2.1 (p_aS (fun m2 h2 => ?_))
      have j2 : JC S ps t 4 (fun _ p => φ p) m2 := jc.ch o (fun x i y => st_ne h2 (fun w => y w.1))
      refine p_gK (p_call (q_sizeAt j2.1 l1 l5) (fun v m3 y => ?_))
      obtain ⟨y1, y2⟩ := y
      replace y1 : m3 = m2 := y1
      replace y2 : v = S.sz r.c3 := y2
      subst y1
      rw [l9] at y2
      subst y2
      have em : ((RWn (zf S ps) a : Nat) : Int) * ((zf S ps a : Nat) : Int) = ((RWn (zf S ps) (a + 1) : Nat) : Int) := (Int.natCast_mul _ _).symm
      dsimp only
      rw [em, wI_id (x := ((RWn (zf S ps) (a + 1) : Nat) : Int)) (by omega) (by omega), wI_s (p := a) (by omega)]
      refine ih (a + 1) m3 (by omega) j2 (fun p hp => ?_)
      by_cases e : p = a
      · rw [e]; exact st_eq h2
      · rw [st_ne h2 (fun w => e (by have := w.2; omega))]
        exact cells p (by omega)
theorem q_breakNumber {g : Int → Int} {k : Int} (ok : S.ok) (hn : S.nf = (n : Int)) (n36 : n ≤ 36) (h169 : 169 < t) (k2 : K2 M) (sh : SHC S 4 M) (tt : TT ps t M) (hty : ty S.nr S.k1 S.k2 [(0, 255)] ps) : pw (mX0_breakNumber 20 4 t ((wn g n : Nat) : Int) k M) (fun q => BKk S (fun p => decide (g p = 1)) ps k q.1) := by
  have o : okST 4 t := ⟨Or.inl rfl, h169⟩
  obtain ⟨_, _, _, _, _, l4, _⟩ := lead_ty hty (lead ps) (Nat.le_refl _)
  unfold mX0_breakNumber
  refine p_gK (p_call (q_takeW (g := g) ok hn n36 h169 k2 sh tt) (fun _ m y => ?_))
  obtain ⟨jc, _⟩ := y
  replace jc : JC S ps t 4 (fun _ p => decide (g p = 1)) m := jc
  refine p_gFc (ji := 1) rfl jc.1.1.2.1 (p_gK (p_call (q_leadingAlls jc.1.2.2.1 l4) (fun v m2 y => ?_)))
  obtain ⟨y1, y2⟩ := y
  replace y1 : m2 = m := y1
  replace y2 : v = ((lead ps : Nat) : Int) := y2
  subst y1; subst y2
  refine p_if (fun c => p_ret (Or.inl ⟨by omega, rfl⟩)) (fun c => p_if (fun c2 => ?_) (fun c2 => p_ret (Or.inl ⟨fun w => c2 w.2, rfl⟩)))
  obtain ⟨kn, rfl⟩ := Int.eq_ofNat_of_zero_le (show 0 ≤ k by omega)
  replace c2 : (kn : Int) < ((lead ps : Nat) : Int) := c2
  refine p_mono (q_break36 ok o hty (k := kn) (by omega) FU 0 m2 (Nat.zero_le _) jc (fun p hp => absurd hp (by omega))) (fun q y => Or.inr ⟨kn, rfl, by omega, y⟩)
end
