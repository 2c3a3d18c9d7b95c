section
/-! ===== breaks: the class ===== -/
theorem lead_lt : ∀ (ps : List Row) (p : Nat) (r : Row), ps[p]? = some r → p ≤ lead ps → r.c0 = 0 → p < lead ps := by
  intro ps
  induction ps with
  | nil => intro p r h; cases h
  | cons r0 rs ih =>
    intro p r h hp hr
    by_cases c : r0.c0 = 0
    · rw [lead_t c] at hp ⊢
      cases p with
      | zero => omega
      | succ p =>
        have := ih p r h (by omega) hr
        omega
    · rw [lead_f c] at hp
      have e : p = 0 := by omega
      subst e
      have e2 : r0 = r := Option.some.inj h
      rw [e2] at c
      exact absurd hr c
/-- what is so behind the alls, in row c -/
def TBk (S : SH) (φ : Int → Bool) (ps : List Row) (c : Nat) : Bool := hd (sm S (S.fa φ) (ps.drop (lead ps))) (FWv ps (fun p => ((dgp (zf S ps) (lead ps) p c : Nat) : Int)) (lead ps))
def BKk (S : SH) (φ : Int → Bool) (ps : List Row) (k : Int) (v : Int) : Prop := (¬ (0 ≤ k ∧ k < (lead ps : Int)) ∧ v = -1) ∨ ∃ kn : Nat, k = (kn : Int) ∧ kn < lead ps ∧ BR (TBk S φ ps) (RWn (zf S ps) (lead ps)) (fun c => ((dgp (zf S ps) (lead ps) kn c : Nat) : Int)) v
theorem BKk.uniq {S : SH} {φ : Int → Bool} {ps : List Row} {k v v' : Int} (h : BKk S φ ps k v) (h' : BKk S φ ps k v') : v = v' := by
  rcases h with ⟨a, b⟩ | ⟨kn, a, b, c⟩
  · rcases h' with ⟨_, b'⟩ | ⟨kn', a', b', _⟩
    · rw [b, b']
    · exact absurd ⟨by omega, by omega⟩ a
  · rcases h' with ⟨a', _⟩ | ⟨kn', a', b', c'⟩
    · exact absurd ⟨by omega, by omega⟩ a'
    · have e : kn = kn' := by omega
      subst e
      exact c.uniq c'
section
variable {S : SH} {M : Mem} {n : Nat} {ps : List Row} {t : Int} {Φ : Nat → Int → Bool}
theorem q_leadingAlls (tt : TT ps t M) (l4 : lead ps ≤ 4) : pw (mX5_leadingAlls t M) (fun q => q.2 = M ∧ q.1 = ((lead ps : Nat) : Int)) := by
  have loop : ∀ (fu a : Nat), a ≤ lead ps → pw (mX5_leadingAlls_2 fu t (a : Int) M) (fun q => q.2 = M ∧ q.1 = ((lead ps : Nat) : Int)) := by
    intro fu
    induction fu with
    | zero => intro a _; exact p_none
    | succ fu ih =>
      intro a ha
      show pw (bX5_leadingAlls_2 (mX5_leadingAlls_2 fu) t (a : Int) M) _
      unfold bX5_leadingAlls_2
      have fin : ¬ a < lead ps → pw (mX5_leadingAlls_30 (a : Int) M) (fun q => q.2 = M ∧ q.1 = ((lead ps : Nat) : Int)) := fun c => by
        unfold mX5_leadingAlls_30
        refine p_ret ⟨rfl, ?_⟩
        show (a : Int) = _
        omega
      have get : a < lead ps → ∃ r, ps[a]? = some r ∧ r.c0 = 0 ∧ a < ps.length := fun c => by
        obtain ⟨r, h1, h2, h3⟩ := lead_at ps a c
        exact ⟨r, h2, h3, (drop_get h1).2.1⟩
      refine p_gFc (ji := 5) rfl tt.1.2.2.2.2.2.2 (p_if (fun c => fin (fun w => by
        obtain ⟨_, _, _, g⟩ := get w
        omega)) (fun c => p_if (fun c2 => fin (by omega)) (fun c2 => p_gFc (ji := 0) rfl tt.1.2.1 ?_)))
      have la : a < ps.length := by omega
      obtain ⟨r, hr⟩ : ∃ r, ps[a]? = some r := ⟨_, List.getElem?_eq_getElem la⟩
      refine p_aGc (tt.2.1 a r hr).1 (p_if (fun c3 => ?_) (fun c3 => fin (fun w => ?_)))
      · have := lead_lt ps a r hr ha c3
        rw [wI_s (p := a) (by omega)]
        exact ih (a + 1) (by omega)
      · obtain ⟨r', h1, h2, _⟩ := get w
        rw [hr] at h1
        rw [Option.some.inj h1] at c3
        exact c3 h2
  exact loop FU 0 (Nat.zero_le _)
/-- other values chosen -/
theorem JC.ch {M' : Mem} (h : JC S ps t 4 Φ M) (o : okST 4 t) (g : ∀ c j : Int, ¬ c = 22 → mG M' c j = mG M c j) : JC S ps t 4 Φ M' := by
  obtain ⟨jf, jp, h5⟩ := h
  refine ⟨jf.kp o (fun c j _ y _ => g c j y), fun r r0 r1 hk hz i j i0 i1 j0 j1 => ?_, by rw [g 20 5 (by decide)]; exact h5⟩
  rw [g 20 5 (by decide)] at hz
  rw [g 23 _ (by decide)]
  exact jp r r0 r1 hk hz i j i0 i1 j0 j1
theorem q_chooseNext (ok : S.ok) (o : okST 4 t) (hty : ty S.nr S.k1 S.k2 [(0, 255)] ps) {c : Nat} (jc : JC S ps t 4 Φ M) (cells : ∀ p : Nat, p < lead ps → mG M 22 (p : Int) = ((dgp (zf S ps) (lead ps) p c : Nat) : Int)) : pw (mX0_chooseNext 20 ((lead ps : Nat) : Int) M) (fun q => JC S ps t 4 Φ q.2 ∧ ∀ p : Nat, p < lead ps → mG q.2 22 (p : Int) = ((dgp (zf S ps) (lead ps) p (c + 1) : Nat) : Int)) := by
  obtain ⟨_, _, _, _, _, l4, _⟩ := lead_ty hty (lead ps) (Nat.le_refl _)
  obtain ⟨A, hA⟩ : ∃ A, A = lead ps := ⟨_, rfl⟩
  obtain ⟨z, hz'⟩ : ∃ z, z = zf S ps := ⟨_, rfl⟩
  have hz : ∀ p, p < A → 1 ≤ z p ∧ z p ≤ 3 := fun p hp => by
    obtain ⟨_, _, _, _, _, _, _, _, _, _, zz⟩ := lead_row ok hty (p := p) (by omega)
    rw [hz']
    exact zz
  rw [← hA] at l4
  rw [← hA, ← hz'] at cells ⊢
  have loop : ∀ (fu j : Nat) (m : Mem), j ≤ A → (∀ x i : Int, ¬ x = 22 → mG m x i = mG M x i) → (c + 1) % PR z A j = 0 → (∀ p : Nat, p < A → (A - 1 - p < j → mG m 22 (p : Int) = ((dj z A (A - 1 - p) (c + 1) : Nat) : Int)) ∧ (j ≤ A - 1 - p → mG m 22 (p : Int) = ((dj z A (A - 1 - p) c : Nat) : Int))) → pw (mX0_chooseNext_4 fu 20 ((A : Int) - 1 - (j : Int)) m) (fun q => JC S ps t 4 Φ q.2 ∧ ∀ p : Nat, p < A → mG q.2 22 (p : Int) = ((dgp z A p (c + 1) : Nat) : Int)) := by
    intro fu
    induction fu with
    | zero => intro j m _ _ _ _; exact p_none
    | succ fu ih =>
      intro j m hj g hm cc
      show pw (bX0_chooseNext_4 (mX0_chooseNext_4 fu) 20 ((A : Int) - 1 - (j : Int)) m) _
      unfold bX0_chooseNext_4
      have jm := jc.ch o g
      refine p_if (fun c1 => p_ret ⟨jm, fun p hp => (cc p hp).1 (by omega)⟩) (fun c1 => ?_)
      have j1 : j < A := by omega
      obtain ⟨p0, hp0⟩ : ∃ p0, p0 = A - 1 - j := ⟨_, rfl⟩
      have ep : (A : Int) - 1 - (j : Int) = (p0 : Int) := by omega
      have ej : A - 1 - p0 = j := by omega
      obtain ⟨r, l1, l2, l3, lr0, l5, l6, l7, l8, l9, l10⟩ := lead_row ok hty (p := p0) (by omega)
      have c0 := (cc p0 (by omega)).2 (by omega)
      rw [ej] at c0
      have nx := dj_next hz j1 hm
      rw [← hp0] at nx
      have db : dj z A j c < 3 := by
        have := Nat.mod_lt (c / PR z A j) (show 0 < z (A - 1 - j) by have := hz (A - 1 - j) (by omega); omega)
        have := hz (A - 1 - j) (by omega)
        unfold dj
        omega
      rw [ep]
      refine p_gFc (ji := 3) rfl jm.1.1.2.2.2.1 (p_aGc c0 (p_aS (fun m2 h2 => ?_)))
      rw [wI_s (p := dj z A j c) (by omega)] at h2
      have g2 : ∀ x i : Int, ¬ x = 22 → mG m2 x i = mG M x i := fun x i y => (st_ne h2 (fun w => y w.1)).trans (g x i y)
      have j2 := jc.ch o g2
      refine p_gFc (ji := 3) rfl j2.1.1.2.2.2.1 (p_aGc (st_eq h2) (p_gK (p_call (q_sizeAt j2.1 l1 l5) (fun v m3 y => ?_))))
      obtain ⟨y1, y2⟩ := y
      replace y1 : m3 = m2 := y1
      replace y2 : v = S.sz r.c3 := y2
      subst y1
      rw [l9, ← hz'] at y2
      subst y2
      refine p_if (fun c2 => ?_) (fun c2 => p_ret ⟨j2, fun p hp => ?_⟩)
      · replace c2 : (z p0 : Int) ≤ ((dj z A j c + 1 : Nat) : Int) := c2
        obtain ⟨n1, n2⟩ := nx.2 (by omega)
        refine p_gFc (ji := 3) rfl j2.1.1.2.2.2.1 (p_aS (fun m4 h4 => ?_))
        rw [wI_id (x := (p0 : Int) + -1) (by omega) (by omega), show (p0 : Int) + -1 = (A : Int) - 1 - ((j + 1 : Nat) : Int) by omega]
        refine ih (j + 1) m4 (by omega) (fun x i y => (st_ne h4 (fun w => y w.1)).trans (g2 x i y)) n2 (fun p hp => ?_)
        by_cases e : p = p0
        · subst e
          refine ⟨fun _ => ?_, fun w => by omega⟩
          rw [st_eq h4, ej, n1]; rfl
        · have e4 : mG m4 22 (p : Int) = mG m 22 (p : Int) := (st_ne h4 (fun w => e (by have := w.2; omega))).trans (st_ne h2 (fun w => e (by have := w.2; omega)))
          rw [e4]
          exact ⟨fun w => (cc p hp).1 (by omega), fun w => (cc p hp).2 (by omega)⟩
      · replace c2 : ¬ (z p0 : Int) ≤ ((dj z A j c + 1 : Nat) : Int) := c2
        obtain ⟨n1, n2⟩ := nx.1 (by omega)
        show mG m3 22 (p : Int) = ((dj z A (A - 1 - p) (c + 1) : Nat) : Int)
        by_cases e : p = p0
        · subst e
          rw [st_eq h2, ej, n1]
        · rw [st_ne h2 (fun w => e (by have := w.2; omega))]
          by_cases k : A - 1 - p < j
          · exact (cc p hp).1 k
          · rw [n2 (A - 1 - p) (by omega) (by omega)]
            exact (cc p hp).2 (by omega)
  unfold mX0_chooseNext
  rw [wI_id (x := (A : Int) - 1) (by omega) (by omega), show (A : Int) - 1 = (A : Int) - 1 - ((0 : Nat) : Int) by omega]
  exact loop FU 0 M (Nat.zero_le _) (fun _ _ _ => rfl) (Nat.mod_one _) (fun p hp => ⟨fun w => by omega, fun _ => cells p hp⟩)
theorem q_break71 {φ : Int → Bool} (ok : S.ok) (o : okST 4 t) (hty : ty S.nr S.k1 S.k2 [(0, 255)] ps) {k : Nat} (hk : k < lead ps) : ∀ (fu c : Nat) (m : Mem), c ≤ RWn (zf S ps) (lead ps) → JC S ps t 4 (fun _ p => φ p) m → (∀ p : Nat, p < lead ps → mG m 22 (p : Int) = ((dgp (zf S ps) (lead ps) p c : Nat) : Int)) → (∀ x, x < c → TBk S φ ps x = true) → pw (mX0_breakNumber_71 fu 20 (k : Int) ((lead ps : Nat) : Int) ((RWn (zf S ps) (lead ps) : Nat) : Int) (c : Int) m) (fun q => BR (TBk S φ ps) (RWn (zf S ps) (lead ps)) (fun c => ((dgp (zf S ps) (lead ps) k c : Nat) : Int)) q.1) := by
  obtain ⟨sc, bo, t1, t2, t3, t4, t5⟩ := lead_ty hty (lead ps) (Nat.le_refl _)
  have rb := RW_b (z := zf S ps) t4 (fun p hp => by
    obtain ⟨_, _, _, _, _, _, _, _, _, _, zz⟩ := lead_row ok hty hp
    exact zz) (lead ps) (Nat.le_refl _)
  intro fu
  induction fu with
  | zero => intro c m _ _ _ _; exact p_none
  | succ fu ih =>
    intro c m hc jc cells no
    show pw (bX0_breakNumber_71 (mX0_breakNumber_71 fu) 20 (k : Int) _ _ (c : Int) m) _
    unfold bX0_breakNumber_71
    refine p_if (fun c1 => p_ret (Or.inl ⟨rfl, fun x hx => no x (by omega)⟩)) (fun c1 => ?_)
    refine p_gK (p_call (q_judged ok o 45 (lead ps) ((lead ps : Nat) : Int) sc bo [] (FWv ps (fun p => ((dgp (zf S ps) (lead ps) p c : Nat) : Int)) (lead ps)) m jc t1 t2 (by omega) (Int.le_refl _) (fun v v0 v1 hb => t5 (mG m 22) (fun p => ((dgp (zf S ps) (lead ps) p c : Nat) : Int)) (fun q hq => cells q hq) v v0 v1 hb)) (fun r m' y => ?_))
    obtain ⟨⟨y1, y2⟩, jc', fj⟩ := y
    replace y1 : InLL r := y1
    have y3 : ∀ b : Nat, b < 64 → lb r b = TBk S φ ps c := fun b hb => y2 b hb
    replace jc' : JC S ps t 4 (fun _ p => φ p) m' := jc'
    replace fj : FJ (ishr sc 16) m m' := fj
    rw [t3] at fj
    have c' : ∀ p : Nat, p < lead ps → mG m' 22 (p : Int) = ((dgp (zf S ps) (lead ps) p c : Nat) : Int) := fun p hp => (fj 22 (p : Int) (by omega) (by omega) (by decide)).trans (cells p hp)
    have lc : (lcmp r 0 = 0) ↔ r = 0 := lcmp_0 r 0
    refine p_if (fun c2 => ?_) (fun c2 => ?_)
    · have z := (l_zero y1).mp (lc.mp c2) 0 (by decide)
      rw [y3 0 (by decide)] at z
      exact p_gFc (ji := 3) rfl jc'.1.1.2.2.2.1 (p_aGc (c' k hk) (p_ret (Or.inr ⟨c, by omega, z, no, rfl⟩)))
    · have tc : TBk S φ ps c = true := by
        cases e : TBk S φ ps c with
        | true => rfl
        | false => exact absurd (lc.mpr ((l_zero y1).mpr (fun b hb => (y3 b hb).trans e))) c2
      refine p_gK (p_call (q_chooseNext ok o hty jc' c') (fun _ m2 y => ?_))
      rw [wI_s (p := c) (by omega)]
      refine ih (c + 1) m2 (by omega) y.1 y.2 (fun x hx => ?_)
      by_cases e : x = c
      · rw [e]; exact tc
      · exact no x (by omega)
theorem q_break36 {φ : Int → Bool} (ok : S.ok) (o : okST 4 t) (hty : ty S.nr S.k1 S.k2 [(0, 255)] ps) {k : Nat} (hk : k < lead ps) : ∀ (fu a : Nat) (m : Mem), a ≤ lead ps → JC S ps t 4 (fun _ p => φ p) m → (∀ p : Nat, p < a → mG m 22 (p : Int) = 0) → pw (mX0_breakNumber_36 fu 20 (k : Int) ((lead ps : Nat) : Int) ((RWn (zf S ps) a : Nat) : Int) (a : Int) m) (fun q => BR (TBk S φ ps) (RWn (zf S ps) (lead ps)) (fun c => ((dgp (zf S ps) (lead ps) k c : Nat) : Int)) q.1) := by
  obtain ⟨sc, bo, t1, t2, t3, t4, t5⟩ := lead_ty hty (lead ps) (Nat.le_refl _)
  have zz : ∀ p, p < lead ps → 1 ≤ zf S ps p ∧ zf S ps p ≤ 3 := fun p hp => by
    obtain ⟨_, _, _, _, _, _, _, _, _, _, zz⟩ := lead_row ok hty hp
    exact zz
  intro fu
  induction fu with
  | zero => intro a m _ _ _; exact p_none
  | succ fu ih =>
    intro a m ha jc cells
    show pw (bX0_breakNumber_36 (mX0_breakNumber_36 fu) 20 (k : Int) _ _ (a : Int) m) _
    unfold bX0_breakNumber_36
    refine p_if (fun c1 => ?_) (fun c1 => ?_)
    · rw [show a = lead ps by omega]
      refine q_break71 ok o hty hk FU 0 m (Nat.zero_le _) jc (fun p hp => ?_) (fun x hx => absurd hx (by omega))
      rw [cells p (by omega)]
      unfold dgp dj
      rw [Nat.zero_div, Nat.zero_mod]; rfl
    · have a1 : a < lead ps := by omega
      obtain ⟨r, l1, l2, l3, lr0, l5, l6, l7, l8, l9, l10⟩ := lead_row ok hty a1
      have rb := RW_b t4 zz (a + 1) (by omega)
      have rb0 := RW_b t4 zz a (by omega)
      refine p_gFc (ji := 3) rfl jc.1.1.2.2.2.1 (p_aS (fun m2 h2 => ?_))
      have j2 : JC S ps t 4 (fun _ p => φ p) m2 := jc.ch o (fun x i y => st_ne h2 (fun w => y w.1))
      refine p_gK (p_call (q_sizeAt j2.1 l1 l5) (fun v m3 y => ?_))
      obtain ⟨y1, y2⟩ := y
      replace y1 : m3 = m2 := y1
      replace y2 : v = S.sz r.c3 := y2
      subst y1
      rw [l9] at y2
      subst y2
      have em : ((RWn (zf S ps) a : Nat) : Int) * ((zf S ps a : Nat) : Int) = ((RWn (zf S ps) (a + 1) : Nat) : Int) := (Int.natCast_mul _ _).symm
      dsimp only
      rw [em, wI_id (x := ((RWn (zf S ps) (a + 1) : Nat) : Int)) (by omega) (by omega), wI_s (p := a) (by omega)]
      refine ih (a + 1) m3 (by omega) j2 (fun p hp => ?_)
      by_cases e : p = a
      · rw [e]; exact st_eq h2
      · rw [st_ne h2 (fun w => e (by have := w.2; omega))]
        exact cells p (by omega)
theorem q_breakNumber {g : Int → Int} {k : Int} (ok : S.ok) (hn : S.nf = (n : Int)) (n36 : n ≤ 36) (h169 : 169 < t) (k2 : K2 M) (sh : SHC S 4 M) (tt : TT ps t M) (hty : ty S.nr S.k1 S.k2 [(0, 255)] ps) : pw (mX0_breakNumber 20 4 t ((wn g n : Nat) : Int) k M) (fun q => BKk S (fun p => decide (g p = 1)) ps k q.1) := by
  have o : okST 4 t := ⟨Or.inl rfl, h169⟩
  obtain ⟨_, _, _, _, _, l4, _⟩ := lead_ty hty (lead ps) (Nat.le_refl _)
  unfold mX0_breakNumber
  refine p_gK (p_call (q_takeW (g := g) ok hn n36 h169 k2 sh tt) (fun _ m y => ?_))
  obtain ⟨jc, _⟩ := y
  replace jc : JC S ps t 4 (fun _ p => decide (g p = 1)) m := jc
  refine p_gFc (ji := 1) rfl jc.1.1.2.1 (p_gK (p_call (q_leadingAlls jc.1.2.2.1 l4) (fun v m2 y => ?_)))
  obtain ⟨y1, y2⟩ := y
  replace y1 : m2 = m := y1
  replace y2 : v = ((lead ps : Nat) : Int) := y2
  subst y1; subst y2
  refine p_if (fun c => p_ret (Or.inl ⟨by omega, rfl⟩)) (fun c => p_if (fun c2 => ?_) (fun c2 => p_ret (Or.inl ⟨fun w => c2 w.2, rfl⟩)))
  obtain ⟨kn, rfl⟩ := Int.eq_ofNat_of_zero_le (show 0 ≤ k by omega)
  replace c2 : (kn : Int) < ((lead ps : Nat) : Int) := c2
  refine p_mono (q_break36 ok o hty (k := kn) (by omega) FU 0 m2 (Nat.zero_le _) jc (fun p hp => absurd hp (by omega))) (fun q y => Or.inr ⟨kn, rfl, by omega, y⟩)
end
end
section
/-! ===== breaks: the reference ===== -/
theorem remN : ∀ b : Nat, b < 4 → 0 < b → ∀ a : Nat, a < 100 → irem (a : Int) (b : Int) = ((a % b : Nat) : Int) := by decide +kernel
theorem ibs : ∀ l : Nat, l < 16 → ∀ y : Nat, y < 4 → (∀ x : Nat, x < 4 → (l ||| 2 ^ y).testBit x = (l.testBit x || decide (y = x))) ∧ l ||| 2 ^ y < 16 := by decide +kernel
/-- which variables the last j alls bind -/
def BD (ps : List Row) (A : Nat) : Nat → Int → Bool
  | 0, _ => false
  | j + 1, x => BD ps A j x || decide (vrf ps (A - 1 - j) = x)
theorem BD_f {ps : List Row} {A : Nat} {x : Int} : ∀ j : Nat, BD ps A j x = false → ∀ p, p < A → A - 1 - p < j → ¬ vrf ps p = x := by
  intro j
  induction j with
  | zero => intro _ p _ h; omega
  | succ j ih =>
    intro h p hp hj e
    have h' : (BD ps A j x || decide (vrf ps (A - 1 - j) = x)) = false := h
    obtain ⟨h1, h2⟩ := Bool.or_eq_false_iff.mp h'
    by_cases c : A - 1 - p = j
    · have := of_decide_eq_false h2
      rw [show A - 1 - j = p by omega] at this
      exact this e
    · exact ih h1 p hp (by omega) e
section
variable {S : SH} {M : Mem} {n : Nat} {ps : List Row} {φ : Int → Bool}
/-- the index of the variables' values, as far as it is found -/
def AX (ps : List Row) (A : Nat) (d : Nat → Int) (j all bits : Nat) : Prop := all < 81 ∧ bits < 16 ∧ (∀ x : Nat, x < 4 → bits.testBit x = BD ps A j (x : Int)) ∧ ∀ x : Int, 0 ≤ x → x ≤ 3 → (BD ps A j x = true → envOf all x = FWv ps d A x) ∧ (BD ps A j x = false → envOf all x = 0)
theorem AX.z {A : Nat} {d : Nat → Int} : AX ps A d 0 0 0 := ⟨by decide, by decide, fun x _ => Nat.zero_testBit x, fun x _ _ => ⟨fun h => absurd (show false = true from h) (by decide), fun _ => env0 x⟩⟩
theorem AX.fin {A all bits : Nat} {d : Nat → Int} (h : AX ps A d A all bits) (hv : ∀ p, p < A → 0 ≤ vrf ps p ∧ vrf ps p ≤ 3) : envOf all = FWv ps d A := by
  funext x
  by_cases c : 0 ≤ x ∧ x ≤ 3
  · obtain ⟨h1, h2⟩ := h.2.2.2 x c.1 c.2
    cases b : BD ps A A x with
    | true => exact h1 b
    | false =>
      rw [h2 b, FW_no A (fun q hq => BD_f A b q hq (by omega))]
  · have e0 : envOf all x = 0 := by unfold envOf; rw [if_neg c]
    rw [e0, FW_no A (fun q hq e => c (by rw [← e]; exact hv q hq))]
theorem AX.step {A j all bits : Nat} {d : Nat → Int} {y v : Nat} (h : AX ps A d j all bits) (hj : j < A) (hy : vrf ps (A - 1 - j) = (y : Int)) (y4 : y < 4) (hv : d (A - 1 - j) = (v : Int)) (v3 : v < 3) : (bits.testBit y = true → AX ps A d (j + 1) all (bits ||| 2 ^ y)) ∧ (bits.testBit y = false → all + v * 3 ^ y < 81 ∧ AX ps A d (j + 1) (all + v * 3 ^ y) (bits ||| 2 ^ y)) := by
  obtain ⟨h1, h2, h3, h4⟩ := h
  obtain ⟨b1, b2⟩ := ibs bits h2 y y4
  have bs : ∀ x : Nat, x < 4 → (bits ||| 2 ^ y).testBit x = BD ps A (j + 1) (x : Int) := fun x hx => by
    show _ = (BD ps A j (x : Int) || decide (vrf ps (A - 1 - j) = (x : Int)))
    rw [b1 x hx, h3 x hx, hy]
    by_cases e : y = x
    · rw [decide_eq_true e, decide_eq_true (show (y : Int) = (x : Int) by omega)]
    · rw [decide_eq_false e, decide_eq_false (show ¬ (y : Int) = (x : Int) by omega)]
  refine ⟨fun t => ⟨h1, b2, bs, fun x x0 x1 => ?_⟩, fun t => ?_⟩
  · have by' : BD ps A j (y : Int) = true := by rw [← h3 y y4]; exact t
    have e : BD ps A (j + 1) x = BD ps A j x := by
      show (BD ps A j x || decide (vrf ps (A - 1 - j) = x)) = _
      rw [hy]
      by_cases c : (y : Int) = x
      · rw [← c, by']; rfl
      · rw [decide_eq_false c, Bool.or_false]
    rw [e]
    exact h4 x x0 x1
  · have by' : BD ps A j (y : Int) = false := by rw [← h3 y y4]; exact t
    have z := (h4 (y : Int) (by omega) (by omega)).2 by'
    have dz : dg all y = 0 := by
      unfold envOf at z
      rw [if_pos ⟨by omega, by omega⟩, Int.toNat_natCast] at z
      omega
    have ea := env_add h1 y4 v3 dz
    refine ⟨ad_lt all h1 y y4 v v3 dz, ad_lt all h1 y y4 v v3 dz, b2, bs, fun x x0 x1 => ?_⟩
    rw [ea]
    show (BD ps A (j + 1) x = true → (if x = (y : Int) then (v : Int) else envOf all x) = _) ∧ (BD ps A (j + 1) x = false → (if x = (y : Int) then (v : Int) else envOf all x) = 0)
    by_cases c : x = (y : Int)
    · rw [if_pos c]
      refine ⟨fun _ => ?_, fun w => ?_⟩
      · rw [c, ← hy]
        rw [← hy] at by'
        rw [FW_last A (by omega) (fun q q0 q1 => BD_f j by' q q1 (by omega)), hv]
      · have w' : (BD ps A j x || decide (vrf ps (A - 1 - j) = x)) = false := w
        rw [hy, decide_eq_true c.symm, Bool.or_true] at w'
        cases w'
    · rw [if_neg c]
      have e : BD ps A (j + 1) x = BD ps A j x := by
        show (BD ps A j x || decide (vrf ps (A - 1 - j) = x)) = _
        rw [hy, decide_eq_false (fun w => c w.symm), Bool.or_false]
      rw [e]
      exact h4 x x0 x1
theorem eW_l {a x : Nat} (h : a + x < 81) : wI ((a : Int) + wI (x : Int)) = ((a + x : Nat) : Int) := by
  rw [wI_id (x := (x : Int)) (by omega) (by omega), ← Int.natCast_add, wI_id (by omega) (by omega)]
theorem eZ_l {a : Nat} (h : a < 81) : wI ((a : Int) + 0) = (a : Int) := by
  rw [Int.add_zero, wI_id (by omega) (by omega)]
theorem mk_l {A k j p : Nat} (hp : p = A - 1 - j) (hj : j < A) (hk : k < A) (e : ¬ p = k) (w : A - 1 - k < j + 1) : A - 1 - k < j := by omega
theorem eN_l {p A j : Nat} (hp : p = A - 1 - j) (hj : j < A) (h4 : A ≤ 4) : wI ((p : Int) + -1) = (A : Int) - 1 - ((j + 1 : Nat) : Int) :=
  (wI_id (x := (p : Int) + -1) (by omega) (by omega)).trans (by omega)
/-- what is so behind the alls, the values told -/
def hd_c (S : SH) (φ : Int → Bool) (ps : List Row) (A : Nat) (d : Nat → Int) : Bool := hd (sm S (S.fa φ) (ps.drop A)) (FWv ps d A)
theorem v_break103 {s k : Nat} (ok : S.ok) (hs : s < 8) (hty : ty S.nr S.k1 S.k2 [(0, 255)] ps) (hk : k < lead ps) (rm : RM S ps (s : Int) φ M) (rd : RDl (sm S (S.fa φ) (ps.drop (lead ps))) M) : ∀ (fu c : Nat), c ≤ RWn (zf S ps) (lead ps) → (∀ x, x < c → TBk S φ ps x = true) → pw (mX9_breaks_103 fu 126 (s : Int) (k : Int) ((lead ps : Nat) : Int) ((RWn (zf S ps) (lead ps) : Nat) : Int) (c : Int) M) (fun q => BR (TBk S φ ps) (RWn (zf S ps) (lead ps)) (fun c => ((dgp (zf S ps) (lead ps) k c : Nat) : Int)) q.1) := by
  obtain ⟨sc, bo, t1, _, _, l4, _⟩ := lead_ty hty (lead ps) (Nat.le_refl _)
  have sn := sm_len (S := S) (A := S.fa φ) (ps.drop (lead ps)) _ t1
  have rows := fun p (hp : p < lead ps) => lead_row (S := S) ok hty hp
  have zz : ∀ p, p < lead ps → 1 ≤ zf S ps p ∧ zf S ps p ≤ 3 := fun p hp => by
    obtain ⟨_, _, _, _, _, _, _, _, _, _, zz⟩ := rows p hp
    exact zz
  have rb := (RW_b l4 zz (lead ps) (Nat.le_refl _)).2
  -- what is ready
  have ready : ∀ a : Nat, a < 81 → mG M 160 (a : Int) = b2i (hd (sm S (S.fa φ) (ps.drop (lead ps))) (envOf a)) := fun a ha => by
    cases hs' : sm S (S.fa φ) (ps.drop (lead ps)) with
    | nil => rw [hs'] at sn; simp only [List.length_cons, List.length_nil] at sn; omega
    | cons f L =>
      rw [hs'] at rd sn
      have l0 : L.length = 0 := by simp only [List.length_cons, List.length_nil] at sn; omega
      have v0 := rd.1 a ha
      rw [l0] at v0
      have e : (81 * ((0 : Nat) : Int) + (a : Int)) = (a : Int) := by clear v0; omega
      rw [e] at v0
      exact v0
  -- the digits of a row, as they are found one behind the other
  have dig : ∀ c : Nat, c < 81 → ∃ Q V : Nat → Nat, (∀ j, Q j = c / PR (zf S ps) (lead ps) j) ∧ (∀ p, V p = dgp (zf S ps) (lead ps) p c) ∧ ∀ j, j < lead ps → (irem ((Q j : Nat) : Int) (zf S ps (lead ps - 1 - j) : Int) = ((V (lead ps - 1 - j) : Nat) : Int) ∧ idiv ((Q j : Nat) : Int) (zf S ps (lead ps - 1 - j) : Int) = ((Q (j + 1) : Nat) : Int)) ∧ V (lead ps - 1 - j) < 3 := fun c hc => by
    refine ⟨fun j => c / PR (zf S ps) (lead ps) j, fun p => dgp (zf S ps) (lead ps) p c, fun _ => rfl, fun _ => rfl, fun j hj => ?_⟩
    have z1 := zz (lead ps - 1 - j) (by omega)
    have db := dgp_b zz (p := lead ps - 1 - j) (c := c) (by omega)
    have ql : c / PR (zf S ps) (lead ps) j ≤ c := Nat.div_le_self _ _
    refine ⟨⟨?_, ?_⟩, Nat.lt_of_lt_of_le db z1.2⟩
    · refine (remN (zf S ps (lead ps - 1 - j)) (Nat.lt_of_le_of_lt z1.2 (by decide)) z1.1 _ (Nat.lt_of_le_of_lt ql (Nat.lt_trans hc (by decide)))).trans ?_
      have e2 : lead ps - 1 - (lead ps - 1 - j) = j := by clear db ql; omega
      show _ = ((dgp (zf S ps) (lead ps) (lead ps - 1 - j) c : Nat) : Int)
      unfold dgp dj
      rw [e2]
    · refine (quoN (Nat.lt_of_le_of_lt ql (Nat.lt_trans hc (by decide))) z1.1 (Nat.lt_of_le_of_lt z1.2 (by decide))).trans ?_
      rw [Nat.div_div_eq_div_mul]
      rfl
  have vars : ∀ p, p < lead ps → 0 ≤ vrf ps p ∧ vrf ps p ≤ 3 := fun p hp => by
    obtain ⟨r, _, _, _, _, _, _, e, vb, _⟩ := rows p hp
    rw [← e]; exact vb
  -- the cells of a row
  have cell : ∀ p, p < lead ps → ∃ (y : Nat) (kd : Int), y < 4 ∧ vrf ps p = (y : Int) ∧ (Unit → mG M 143 (40 * (s : Int) + (p : Int)) = (y : Int)) ∧ (Unit → mG M 144 (40 * (s : Int) + (p : Int)) = kd) ∧ (Unit → mG M 152 kd = (zf S ps p : Int)) := fun p hp => by
    obtain ⟨r, g1, g2, g3, g4, g5, g6, g7, g8, g9, g10⟩ := rows p hp
    obtain ⟨_, rsz, _, _, rt⟩ := id rm
    have rx := rt.2 p r g1
    obtain ⟨y, hy⟩ := Int.eq_ofNat_of_zero_le g8.1
    exact ⟨y, r.c3, by omega, by rw [← g7, hy], fun _ => by rw [rx.2.1 (Or.inl (by omega)), hy], fun _ => by rw [rx.2.2.1 (Or.inl (by omega)), g6], fun _ => (rsz r.c3 g5.1 (by omega)).trans g9⟩
  have len := (lead_behind (S := S) hty).1
  obtain ⟨A, hA⟩ : ∃ A, A = lead ps := ⟨_, rfl⟩
  obtain ⟨R, hR⟩ : ∃ R, R = RWn (zf S ps) (lead ps) := ⟨_, rfl⟩
  rw [← hR]
  rw [← hR] at rb
  rw [← hA] at hk l4 dig vars cell
  obtain ⟨⟨_, _, _, r16, r17, r18, _, r26, _, _, r45, _⟩, _⟩ := id rm
  replace r17 : Unit → mG M 126 17 = 143 := fun _ => r17
  replace r18 : Unit → mG M 126 18 = 144 := fun _ => r18
  replace r26 : Unit → mG M 126 26 = 152 := fun _ => r26
  replace r45 : Unit → mG M 126 45 = 160 := fun _ => r45
  clear r16 rows zz t1 sn rd len rm hR
  have fin : BR (TBk S φ ps) R (fun c => ((dgp (zf S ps) (lead ps) k c : Nat) : Int)) = BR (TBk S φ ps) R (fun c => ((dgp (zf S ps) A k c : Nat) : Int)) := by rw [hA]
  rw [fin, ← hA]
  replace hA : Unit → A = lead ps := fun _ => hA
  intro fu
  induction fu with
  | zero => intro c _ _; exact p_none
  | succ fu ih =>
    intro c hc no
    show pw (bX9_breaks_103 (mX9_breaks_103 fu) 126 (s : Int) (k : Int) _ _ (c : Int) M) _
    unfold bX9_breaks_103
    refine p_if (fun c1 => p_ret (Or.inl ⟨rfl, fun x hx => no x (by omega)⟩)) (fun c1 => ?_)
    have c81 : c < 81 := by omega
    obtain ⟨Q, V, hQ, hV, dq⟩ := dig c c81
    obtain ⟨d, hd⟩ : ∃ d : Nat → Int, d = fun p => ((V p : Nat) : Int) := ⟨_, rfl⟩
    have nx : TBk S φ ps c = true → pw (mX9_breaks_103 fu 126 (s : Int) (k : Int) (A : Int) (R : Int) (wI ((c : Int) + 1)) M) (fun q => BR (TBk S φ ps) R (fun c => ((dgp (zf S ps) A k c : Nat) : Int)) q.1) := fun t => by
      rw [wI_s (p := c) (by omega)]
      refine ih (c + 1) (by omega) (fun x hx => ?_)
      by_cases e : x = c
      · rw [e]; exact t
      · exact no x (by omega)
    have tbe : TBk S φ ps c = hd_c S φ ps A d := by
      unfold TBk hd_c
      rw [← hA (), hd]
      have : (fun p => ((dgp (zf S ps) A p c : Nat) : Int)) = fun p => ((V p : Nat) : Int) := funext (fun p => by rw [hV p, hA ()])
      rw [this]
    have rdy : ∀ a : Nat, a < 81 → envOf a = FWv ps d A → mG M 160 (a : Int) = b2i (TBk S φ ps c) := fun a ha e => by
      rw [ready a ha, e, tbe]
      unfold hd_c
      rw [hA ()]
    have hVk : Unit → ((dgp (zf S ps) A k c : Nat) : Int) = ((V k : Nat) : Int) := fun _ => by rw [hV k, hA ()]
    clear tbe hV ready dig
    have loop : ∀ (fu2 j all bits : Nat) (mine : Int), j ≤ A → AX ps A d j all bits → (A - 1 - k < j → mine = ((V k : Nat) : Int)) → pw (mX9_breaks_128 (mX9_breaks_103 fu) fu2 126 (s : Int) (k : Int) (A : Int) (R : Int) (c : Int) ((Q j : Nat) : Int) (all : Int) mine (bits : Int) ((A : Int) - 1 - (j : Int)) M) (fun q => BR (TBk S φ ps) R (fun c => ((dgp (zf S ps) A k c : Nat) : Int)) q.1) := by
      intro fu2
      induction fu2 with
      | zero => intro j all bits mine _ _ _; exact p_none
      | succ fu2 ih2 =>
        intro j all bits mine hj ax hm
        show pw (bX9_breaks_128 (mX9_breaks_103 fu) (mX9_breaks_128 (mX9_breaks_103 fu) fu2) 126 (s : Int) (k : Int) (A : Int) (R : Int) (c : Int) ((Q j : Nat) : Int) (all : Int) mine (bits : Int) ((A : Int) - 1 - (j : Int)) M) _
        unfold bX9_breaks_128
        have hb := ax.2.1
        have ha := ax.1
        refine p_if (fun c2 => ?_) (fun c2 => ?_)
        · have ej : j = A := by omega
          rw [ej] at ax
          have ef := ax.fin vars
          have mk := hm (by omega)
          refine p_gFc (ji := 45) rfl (r45 ()) (p_aGc (rdy all ha ef) (p_if (fun c3 => p_ret (Or.inr ⟨c, by omega, b2i_0.mp c3, no, mk.trans (hVk ()).symm⟩)) (fun c3 => nx ?_)))
          cases t : TBk S φ ps c with
          | true => rfl
          | false => rw [t] at c3; exact absurd rfl c3
        · have j1 : j < A := by omega
          obtain ⟨p, hp⟩ : ∃ p, p = A - 1 - j := ⟨_, rfl⟩
          have pA : p < A := by omega
          obtain ⟨y, kd, y4, hy, e143, e144, esz⟩ := cell p pA
          obtain ⟨⟨er, eq⟩, v3⟩ := dq j j1
          rw [← hp] at er eq v3
          replace er : Unit → irem ((Q j : Nat) : Int) (zf S ps p : Int) = ((V p : Nat) : Int) := fun _ => er
          replace eq : Unit → idiv ((Q j : Nat) : Int) (zf S ps p : Int) = ((Q (j + 1) : Nat) : Int) := fun _ => eq
          have st := ax.step (y := y) (v := V p) j1 (by rw [← hp]; exact hy) y4 (by rw [← hp, hd]) v3
          have eP : (A : Int) - 1 - (j : Int) = (p : Int) := by omega
          have eI : wI (wI (40 * (s : Int)) + (p : Int)) = 40 * (s : Int) + (p : Int) := by
            rw [wI_id (x := 40 * (s : Int)) (by omega) (by omega), wI_id (by omega) (by omega)]
          have eN : wI ((p : Int) + -1) = (A : Int) - 1 - ((j + 1 : Nat) : Int) := eN_l hp j1 (by omega)
          have mk1 : p = k → ((V p : Nat) : Int) = ((V k : Nat) : Int) := fun e => by rw [e]
          have mk2 : ¬ p = k → (A - 1 - k < j + 1 → mine = ((V k : Nat) : Int)) := fun e w => hm (mk_l hp j1 hk e w)
          rw [eP]
          -- the step goes on
          have go : ∀ (all2 : Nat) (x : Int), wI ((all : Int) + x) = (all2 : Int) → AX ps A d (j + 1) all2 (bits ||| 2 ^ y) → pw (mX9_breaks_204 (mX9_breaks_103 fu) (mX9_breaks_128 (mX9_breaks_103 fu) fu2) 126 (s : Int) (k : Int) (A : Int) (R : Int) (c : Int) ((Q (j + 1) : Nat) : Int) mine (bits : Int) (p : Int) (40 * (s : Int) + (p : Int)) ((V p : Nat) : Int) (all : Int) x M) (fun q => BR (TBk S φ ps) R (fun c => ((dgp (zf S ps) A k c : Nat) : Int)) q.1) := fun all2 x ex ax2 => by
            unfold mX9_breaks_204 mX9_breaks_234
            have py : (2 : Nat) ^ y < 1073741824 := Nat.lt_of_le_of_lt (Nat.pow_le_pow_right (n := 2) (j := 3) (by decide) (Nat.le_of_lt_succ y4)) (by decide)
            refine p_gFc (ji := 17) rfl (r17 ()) (p_aGc (e143 ()) ?_)
            rw [ex, ishl1 y (Nat.le_trans (Nat.le_of_lt y4) (by decide)), show (2 : Int) ^ y = ((2 ^ y : Nat) : Int) by simp, ior_nn (Nat.lt_trans hb (by decide)) py, eN]
            refine p_if (fun ck => ?_) (fun ck => ?_)
            · exact ih2 (j + 1) all2 _ _ j1 ax2 (fun _ => mk1 (Int.ofNat.inj ck))
            · exact ih2 (j + 1) all2 _ _ j1 ax2 (mk2 (fun e => ck (congrArg (fun x : Nat => (x : Int)) e)))
          have p3 := p3_b y y4
          have ib := ibit (x := bits) (k := y) (Nat.lt_trans hb (by decide)) (Nat.lt_trans y4 (by decide))
          refine p_some (fun b hb2 => ?_)
          rw [eI] at hb2
          subst hb2
          refine p_gFc (ji := 26) rfl (r26 ()) (p_gFc (ji := 18) rfl (r18 ()) (p_aGc (e144 ()) (p_aGc (esz ()) (p_dMc (er ()) (p_dQc (eq ()) (p_gFc (ji := 17) rfl (r17 ()) (p_aGc (e143 ()) ?_)))))))
          refine p_if (fun c3 => ?_) (fun c3 => ?_)
          · have tb := ib.mp c3
            obtain ⟨s1, s2⟩ := st.2 tb
            refine p_gFc (ji := 17) rfl (r17 ()) (p_aGc (e143 ()) (p_call (w_unit (n := y) y4) (fun u m2 yy => ?_)))
            obtain ⟨u1, u2⟩ := yy
            replace u1 : m2 = M := u1
            replace u2 : u = ((3 ^ y : Nat) : Int) := u2
            subst u1; subst u2
            have em : ((V p : Nat) : Int) * ((3 ^ y : Nat) : Int) = ((V p * 3 ^ y : Nat) : Int) := (Int.natCast_mul _ _).symm
            obtain ⟨X, hX⟩ : ∃ X, X = V p * 3 ^ y := ⟨_, rfl⟩
            rw [← hX] at s1 s2 em
            have eW : wI ((all : Int) + wI (((V p : Nat) : Int) * ((3 ^ y : Nat) : Int))) = ((all + X : Nat) : Int) := by
              rw [em]
              exact eW_l s1
            exact go (all + X) _ eW s2
          · have tb : bits.testBit y = true := by
              cases e : bits.testBit y with
              | true => rfl
              | false => exact absurd (ib.mpr e) c3
            exact go all 0 (eZ_l ha) (st.1 tb)
    have e0 : Q 0 = c := (hQ 0).trans (Nat.div_one c)
    have l0 := loop FU 0 0 0 0 (Nat.zero_le _) AX.z (fun w => by omega)
    rw [e0] at l0
    have eA : wI ((A : Int) - 1) = (A : Int) - 1 - ((0 : Nat) : Int) := by
      rw [wI_id (by omega) (by omega)]
      omega
    rw [eA]
    exact l0
theorem eI_l {s p : Nat} (hs : s < 8) (hp : p ≤ 40) : wI (wI (40 * (s : Int)) + (p : Int)) = 40 * (s : Int) + (p : Int) := by
  rw [wI_id (x := 40 * (s : Int)) (by omega) (by omega), wI_id (by omega) (by omega)]
theorem wN_l {x : Nat} (h : x ≤ 81) : wI (x : Int) = (x : Int) := wI_id (by omega) (by omega)
theorem wA_l {A : Nat} (h : A ≤ 4) : wI ((A : Int) - 1) = (A : Int) - 1 := wI_id (by omega) (by omega)
theorem s36_l {s : Nat} (h : s < 8) : 0 ≤ (s : Int) ∧ (s : Int) < 36 := by omega
theorem kn_l {k A : Nat} (h : (k : Int) ≤ (A : Int) - 1) : k < A := by omega
theorem v_break32 {s : Nat} {k : Int} (ok : S.ok) (hs : s < 8) (hl : ps.length ≤ 40) (hty : ty S.nr S.k1 S.k2 [(0, 255)] ps) (rm : RM S ps (s : Int) φ M) : ∀ (fu p : Nat), p ≤ lead ps → pw (mX9_breaks_32 fu 126 (s : Int) k (p : Int) ((RWn (zf S ps) p : Nat) : Int) M) (fun q => BKk S φ ps k q.1) := by
  obtain ⟨_, _, _, _, _, l4, _⟩ := lead_ty hty (lead ps) (Nat.le_refl _)
  obtain ⟨len, r0, q1, q2, q3⟩ := lead_behind (S := S) hty
  have zz : ∀ p, p < lead ps → 1 ≤ zf S ps p ∧ zf S ps p ≤ 3 := fun p hp => by
    obtain ⟨_, _, _, _, _, _, _, _, _, _, zz⟩ := lead_row ok hty hp
    exact zz
  intro fu
  induction fu with
  | zero => intro p _; exact p_none
  | succ fu ih =>
    intro p hp
    show pw (bX9_breaks_32 (mX9_breaks_32 fu) 126 (s : Int) k (p : Int) _ M) _
    unfold bX9_breaks_32
    rw [eI_l hs (Nat.le_trans hp (Nat.le_trans l4 (by decide)))]
    obtain ⟨⟨_, _, _, r16, r17, r18, _, r26, _, _, r45, _⟩, rsz, _, _, rt⟩ := id rm
    by_cases c : p < lead ps
    · obtain ⟨r, g1, g2, g3, g4, g5, g6, g7, g8, g9, g10⟩ := lead_row ok hty c
      have rx := rt.2 p r g1
      have rb := RW_b l4 zz (p + 1) c
      have r03 : r.r0 ≤ 3 := by rw [g4]; decide
      have e144 : mG M 144 (40 * (s : Int) + (p : Int)) = r.c3 := by rw [rx.2.2.1 (Or.inl r03), g6]
      have esz : mG M 152 r.c3 = (zf S ps p : Int) := (rsz r.c3 g5.1 (Int.lt_of_le_of_lt g5.2 (by decide))).trans g9
      refine p_gFc (ji := 16) rfl r16 (p_aGc rx.1 (p_it1 g4 (p_gFc (ji := 26) rfl r26 (p_gFc (ji := 18) rfl r18 (p_aGc e144 (p_aGc esz ?_))))))
      have em : ((RWn (zf S ps) p : Nat) : Int) * ((zf S ps p : Nat) : Int) = ((RWn (zf S ps) (p + 1) : Nat) : Int) := (Int.natCast_mul _ _).symm
      rw [em, wN_l rb.2, wI_s (p := p) (Nat.lt_of_lt_of_le c (Nat.le_trans l4 (by decide)))]
      exact ih (p + 1) c
    · have ep : p = lead ps := Nat.le_antisymm hp (Nat.le_of_not_lt c)
      rw [ep]
      have rx := rt.2 (lead ps) r0 q1
      refine p_gFc (ji := 16) rfl r16 (p_aGc rx.1 (p_it0 q3 ?_))
      rw [wA_l l4]
      refine p_call pr_in (fun b m2 y => ?_)
      obtain ⟨y1, y2⟩ := y
      replace y1 : m2 = M := y1
      subst y1
      rcases y2 with ⟨b1, b2, b3⟩ | ⟨b1, b2⟩
      · replace b1 : b = 1 := b1
        obtain ⟨kn, rfl⟩ := Int.eq_ofNat_of_zero_le b2
        have kl : kn < lead ps := kn_l b3
        refine p_it0 (show ¬ b = 0 by rw [b1]; decide) (p_gK (p_call (w_means ok rm (s36_l hs) hl hty) (fun v m3 y => ?_)))
        obtain ⟨⟨rm3, _⟩, y3⟩ := y
        replace rm3 : RM S ps (s : Int) φ m3 := rm3
        replace y3 : v = b2i (hd (sm S (S.fa φ) ps) (envOf 0)) := y3
        refine p_if (fun c2 => ?_) (fun c2 => p_ret (Or.inr ⟨kn, rfl, kl, Or.inl ⟨rfl, fun x hx => ?_⟩⟩))
        · refine p_gK (p_call (w_work (f := lead ps) ok rm3 (s36_l hs) hl hty (Nat.le_of_lt len)) (fun _ m4 y => ?_))
          obtain ⟨rm4, rd4, _, _⟩ := y
          exact p_mono (v_break103 ok hs hty kl rm4 rd4 FU 0 (Nat.zero_le _) (fun x hx => absurd hx (Nat.not_lt_zero x))) (fun q y => Or.inr ⟨kn, rfl, kl, y⟩)
        · have t : hd (sm S (S.fa φ) ps) (envOf 0) = true := by
            cases e : hd (sm S (S.fa φ) ps) (envOf 0) with
            | true => rfl
            | false => rw [e] at y3; exact absurd y3 c2
          refine lead_all ok hty t (d := fun p => ((dgp (zf S ps) (lead ps) p x : Nat) : Int)) (fun p hp => ?_) (lead ps) (Nat.le_refl _)
          have db := dgp_b zz (p := p) (c := x) hp
          exact ⟨Int.natCast_nonneg _, Int.ofNat_lt.mpr db⟩
      · exact p_it1 b1 (p_ret (Or.inl ⟨fun w => b2 ⟨w.1, Int.le_sub_one_of_lt w.2⟩, rfl⟩))
end
end
section
/-! ===== breaks: alike ===== -/
section
variable {M : Mem} {l k : Int}
theorem st_val (h : J4 M) : pw (mX6_storyText 3 l M) (fun q => q.2 = M ∧ ((¬ (0 ≤ l ∧ l < mG M 138 0) ∧ q.1 = 0) ∨ ((0 ≤ l ∧ l < mG M 138 0) ∧ q.1 = mG M 14 l))) := by
  have k2 := K2.of h.1.1.1.1.1
  obtain ⟨_, sb, _, _, _⟩ := h.1.1.1.2 0 (by decide) (by decide) (Or.inl rfl)
  have sb1 := sb.1
  rw [sOf_0] at sb1
  replace sb1 : mG M 3 11 = mG M 138 0 := sb1
  unfold mX6_storyText
  refine p_gK (p_call (hs_val (l := l)) (fun v m y => ?_))
  obtain ⟨y1, y2⟩ := y
  replace y1 : m = M := y1
  subst y1
  rcases y2 with ⟨a, b, c⟩ | ⟨a, c⟩
  · replace c : v = 1 := c
    exact p_it0 (show ¬ v = 0 by omega) (p_gFc (ji := 8) rfl k2.c3_8 (p_aGc rfl (p_ret ⟨rfl, Or.inr ⟨⟨a, by omega⟩, rfl⟩⟩)))
  · exact p_it1 c (p_ret ⟨rfl, Or.inl ⟨by omega, rfl⟩⟩)
theorem eq_breaks (r1 : (-2147483648) ≤ l ∧ l ≤ 2147483647) (r2 : (-2147483648) ≤ k ∧ k ≤ 2147483647) (h : J4 M) : pw (mX8_breaks 1 l k M) (fun q1 => pw (mX9_breaks 126 l k q1.2) (fun q2 => EQ q1 q2)) := by
  obtain ⟨P, n, ok, hn, k2, sh, tp, rf, ve, vlt, h1, hl⟩ := look h.1.1
  obtain ⟨en, n36, w0⟩ := h.n hn sh
  have iM := h.1.1.1.1.1
  have hn169 : (169 : Int) ≤ ((mN M : Nat) : Int) := by have := iM.2.2.2.2.1; omega
  have s138 := rd_Mstories iM (a := 138) (i := 0) rfl
  obtain ⟨_, sb, _, _, _⟩ := h.1.1.1.2 0 (by decide) (by decide) (Or.inl rfl)
  have sb1 := sb.1
  rw [sOf_0] at sb1
  replace sb1 : mG M 3 11 = mG M 138 0 := sb1
  by_cases d : 0 ≤ l ∧ l < mG M 138 0
  · obtain ⟨s, hs⟩ := Int.eq_ofNat_of_zero_le d.1
    subst hs
    obtain ⟨t169, tt, hty⟩ := tp s (by rw [sb1]; exact d.2)
    obtain ⟨rt, rl, _⟩ := rf.2.2.2.2 s d.2
    have c8 : pw (mX8_breaks 1 (s : Int) k M) (fun q => BKk (shp M) (fun p => decide (mG M 137 p = 1)) (P s) k q.1) := by
      unfold mX8_breaks
      refine p_gFc (ji := 1) rfl h1.2 (p_gK (p_call (st_val (l := (s : Int)) h) (fun v m y => ?_)))
      obtain ⟨y1, y2⟩ := y
      replace y1 : m = M := y1
      subst y1
      have y3 : v = mG m 14 (s : Int) := by
        rcases y2 with ⟨a, _⟩ | ⟨_, a⟩
        · exact absurd d a
        · exact a
      subst y3
      exact p_it0 (show ¬ mG m 14 (s : Int) = 0 by omega) (p_gFc (ji := 0) rfl h1.1 (p_gFc (ji := 1) rfl k2.c2_1 (p_gFc (ji := 1) rfl h1.2 (p_gFc (ji := 0) rfl k2.c3_0 (p_gFc (ji := 1) rfl h1.2 (p_gFc (ji := 1) rfl w0.1.1 (p_gK (p_call (q_breakNumber ok hn n36 t169 k2 sh tt hty) (fun v m y => p_ret y)))))))))
    refine p_mono (p_and c8 (p_wp (s_X8_breaks r1 r2 iM))) (fun q1 y => ?_)
    obtain ⟨y1, i1, kp, _⟩ := y
    have g9 : F9 M q1.2 := kp.f9 (by omega) (fun b j z => by unfold W_X8_breaks at z; omega)
    obtain ⟨rf1, _⟩ := rf.f9 (M' := q1.2) g9
    have c9 : pw (mX9_breaks 126 (s : Int) k q1.2) (fun q => BKk (shp M) (fun p => decide (mG M 137 p = 1)) (P s) k q.1) := by
      unfold mX9_breaks
      refine p_pF (ji := 0) rfl (fun m1 h1 => ?_)
      have g1 : ∀ c j : Int, ¬ c = 126 → mG m1 c j = mG q1.2 c j := fun c j x => st_ne h1 (fun w => x w.1)
      have k1 : K9 m1 := rf1.1.kp (fun j hj => st_ne h1 (fun w => by omega))
      have e138 : mG m1 138 0 = mG M 138 0 := (g1 138 0 (by decide)).trans (g9 138 0 (by decide) (by decide))
      have e137 : mG m1 137 = mG M 137 := funext (fun f => (g1 137 f (by decide)).trans (g9 137 f (by decide) (by decide)))
      refine p_gFc (ji := 12) rfl k1.c12 (p_aGc e138 ?_)
      rw [wI_id (x := mG M 138 0 - 1) (by omega) (by omega)]
      refine p_call pr_in (fun b m2 y => ?_)
      obtain ⟨z1, z2⟩ := y
      replace z1 : m2 = m1 := z1
      subst z1
      rcases z2 with ⟨b1, b2, b3⟩ | ⟨b1, b2⟩
      · replace b1 : b = 1 := b1
        refine p_it0 (show ¬ b = 0 by omega) (p_gK (p_call (v_bringWorld ok k1 (rf1.2.1.kp (fun c j hc => g1 c j (by omega))) (fun f => by rw [e137]; exact rd_Mworld iM (a := 137) (i := f) rfl)) (fun _ m3 y => ?_)))
        obtain ⟨⟨k3, rs⟩, lw, g⟩ := y
        replace k3 : K9 m3 := k3
        replace rs : RSH (shp M) m3 := rs
        replace lw : LW (shp M) (fun p => decide (mG m2 137 p = 1)) m3 := lw
        replace g : ∀ c j : Int, ¬ c = 152 → ¬ c = 153 → ¬ c = 154 → mG m3 c j = mG m2 c j := g
        rw [e137] at lw
        have rt3 : RT (P s) (s : Int) m3 := ⟨(g 141 _ (by decide) (by decide) (by decide)).trans ((g1 141 _ (by decide)).trans ((g9 141 _ (by decide) (by decide)).trans rt.1)), fun i r hr => (rt.2 i r hr).kp (fun c c0 c1 => (g c _ (by omega) (by omega) (by omega)).trans ((g1 c _ (by omega)).trans (g9 c _ (by omega) (by omega))))⟩
        exact v_break32 ok (by omega) rl hty (RM.mk ok k3 rs lw rt3) FU 0 (Nat.zero_le _)
      · exact absurd ⟨by omega, by omega⟩ b2
    exact p_mono c9 (fun q2 z => y1.uniq z)
  · have c8 : pw (mX8_breaks 1 l k M) (fun q => q.1 = -1 ∧ q.2 = M) := by
      unfold mX8_breaks
      refine p_gFc (ji := 1) rfl h1.2 (p_gK (p_call (st_val (l := l) h) (fun v m y => ?_)))
      obtain ⟨y1, y2⟩ := y
      replace y1 : m = M := y1
      subst y1
      rcases y2 with ⟨_, a⟩ | ⟨a, _⟩
      · exact p_it1 a (p_ret ⟨rfl, rfl⟩)
      · exact absurd a d
    refine p_mono c8 (fun q1 y => ?_)
    rw [y.2]
    have c9 : pw (mX9_breaks 126 l k M) (fun q => q.1 = -1) := by
      unfold mX9_breaks
      refine p_pF (ji := 0) rfl (fun m1 h1 => ?_)
      have k1 : K9 m1 := rf.1.kp (fun j hj => st_ne h1 (fun w => by omega))
      refine p_gFc (ji := 12) rfl k1.c12 (p_aGc (r := mG M 138 0) (st_ne h1 (fun w => absurd w.1 (by decide))) ?_)
      rw [wI_id (x := mG M 138 0 - 1) (by omega) (by omega)]
      refine p_call pr_in (fun b m2 y => ?_)
      obtain ⟨z1, z2⟩ := y
      rcases z2 with ⟨b1, b2, b3⟩ | ⟨b1, b2⟩
      · exact absurd ⟨by omega, by omega⟩ d
      · exact p_it1 b1 (p_ret rfl)
    exact p_mono c9 (fun q2 z => y.1.trans z.symm)
theorem j4_breaksE (r1 : (-2147483648) ≤ l ∧ l ≤ 2147483647) (r2 : (-2147483648) ≤ k ∧ k ≤ 2147483647) (h : J4 M) : wp (mX8_breaks 1 l k M) (fun q1 => wp (mX9_breaks 126 l k q1.2) (fun q2 => J4 q2.2 ∧ EQ q1 q2)) := w_and3 (M := M) (j4_breaks r1 r2 h) (eq_breaks r1 r2 h)
end
end
