/-! ===== breaks: the alls that a text begins with, rows of numbers ===== -/
def lead : List Row → Nat
  | [] => 0
  | r :: rs => if r.c0 = 0 then lead rs + 1 else 0
theorem lead_t {r : Row} {rs : List Row} (h : r.c0 = 0) : lead (r :: rs) = lead rs + 1 := if_pos h
theorem lead_f {r : Row} {rs : List Row} (h : ¬ r.c0 = 0) : lead (r :: rs) = 0 := if_neg h
theorem lead_at : ∀ (ps : List Row) (p : Nat), p < lead ps → ∃ r, ps.drop p = r :: ps.drop (p + 1) ∧ ps[p]? = some r ∧ r.c0 = 0 := by
  intro ps
  induction ps with
  | nil => intro p h; exact absurd h (Nat.not_lt_zero _)
  | cons r rs ih =>
    intro p h
    by_cases c : r.c0 = 0
    · cases p with
      | zero => exact ⟨r, rfl, rfl, c⟩
      | succ p =>
        rw [lead_t c] at h
        obtain ⟨r', h1, h2, h3⟩ := ih p (by omega)
        exact ⟨r', h1, h2, h3⟩
    · rw [lead_f c] at h
      omega
theorem lead_end : ∀ (ps : List Row) (r : Row) (rs : List Row), ps.drop (lead ps) = r :: rs → ¬ r.c0 = 0 := by
  intro ps
  induction ps with
  | nil => intro r rs h; cases h
  | cons r0 rs0 ih =>
    intro r rs h
    by_cases c : r0.c0 = 0
    · rw [lead_t c] at h
      exact ih r rs h
    · rw [lead_f c] at h
      have h' : r0 :: rs0 = r :: rs := h
      rw [← (List.cons.inj h').1]
      exact c
def rwf (ps : List Row) (p : Nat) : Row := (ps[p]?).getD (0, 0, 0, 0, 0, 0, 0, 0)
def vrf (ps : List Row) (p : Nat) : Int := (rwf ps p).r1
def zf (S : SH) (ps : List Row) (p : Nat) : Nat := (S.sz (rwf ps p).c3).toNat
theorem rwf_e {ps : List Row} {p : Nat} {r : Row} (h : ps[p]? = some r) : rwf ps p = r := by
  unfold rwf
  rw [h]; rfl
/-- the variables' values behind p alls -/
def FWv (ps : List Row) (d : Nat → Int) : Nat → Int → Int
  | 0 => envOf 0
  | p + 1 => evu (FWv ps d p) (vrf ps p) (d p)
theorem env0 (x : Int) : envOf 0 x = 0 := by
  unfold envOf dg
  by_cases h : 0 ≤ x ∧ x ≤ 3
  · rw [if_pos h, Nat.zero_div]; rfl
  · rw [if_neg h]
theorem FW_s (ps : List Row) (d : Nat → Int) (p : Nat) (x : Int) : FWv ps d (p + 1) x = if x = vrf ps p then d p else FWv ps d p x := rfl
theorem FW_no {ps : List Row} {d : Nat → Int} {x : Int} : ∀ p : Nat, (∀ q, q < p → ¬ vrf ps q = x) → FWv ps d p x = 0 := by
  intro p
  induction p with
  | zero => intro _; exact env0 x
  | succ p ih =>
    intro h
    rw [FW_s, if_neg (fun e => h p (by omega) e.symm)]
    exact ih (fun q hq => h q (by omega))
theorem FW_last {ps : List Row} {d : Nat → Int} {p : Nat} : ∀ A : Nat, p < A → (∀ q, p < q → q < A → ¬ vrf ps q = vrf ps p) → FWv ps d A (vrf ps p) = d p := by
  intro A
  induction A with
  | zero => intro h; omega
  | succ A ih =>
    intro h k
    rw [FW_s]
    by_cases e : p = A
    · rw [e, if_pos rfl]
    · rw [if_neg (fun w => k A (by omega) (by omega) w.symm)]
      exact ih (by omega) (fun q q0 q1 => k q q0 (by omega))
/-- what binds and stands where, behind p alls -/
theorem lead_ty {nr : Int} {k1 k2 : Int → Int} {ps : List Row} (hty : ty nr k1 k2 [(0, 255)] ps) : ∀ p : Nat, p ≤ lead ps → ∃ sc bo : Int, ty nr k1 k2 [(sc, bo)] (ps.drop p) ∧ ScS sc bo ∧ ishr sc 16 = (p : Int) ∧ p ≤ 4 ∧ ∀ (ch : Int → Int) (d : Nat → Int), (∀ q : Nat, q < p → ch (q : Int) = d q) → ∀ v : Int, 0 ≤ v → v ≤ 3 → ¬ bnd bo v = -1 → ch (slt sc v) = FWv ps d p v := by
  intro p
  induction p with
  | zero =>
    intro _
    have i0 : ishr 0 16 = ((0 : Nat) : Int) := by decide +kernel
    refine ⟨0, 255, hty, ScS.start, i0, by decide, fun ch d _ v v0 v1 hb => ?_⟩
    have := ScS.start.2 v v0 v1 hb
    rw [i0] at this
    omega
  | succ p ih =>
    intro hp
    obtain ⟨sc, bo, h1, h2, h3, h4, h5⟩ := ih (by omega)
    obtain ⟨r, l1, l2, l3⟩ := lead_at ps p (by omega)
    rw [l1] at h1
    obtain ⟨ro, h1⟩ := h1
    have r0 : (0 ≤ r.c0 ∧ r.c0 ≤ 3 ∧ r.r0 = r.c0 ∧ r.r3 = r.c1 ∧ (0 ≤ r.c1 ∧ r.c1 < 10000) ∧ r.c2 = ishr sc 16 ∧ r.r2 = r.c3 ∧ (0 ≤ r.c3 ∧ r.c3 ≤ 2) ∧ (0 ≤ r.r1 ∧ r.r1 ≤ 3) ∧ ishr sc 16 < 4) := by
      rcases ro with z | z | z | z | z | z | z
      · exact z
      · have := z.1; omega
      · have := z.1; omega
      · have := z.1; omega
      · have := z.1; omega
      · have := z.1; omega
      · have := z.1; omega
    obtain ⟨_, _, _, _, _, _, _, q3, q1, q4⟩ := r0
    unfold kids at h1
    rw [if_pos (show r.c0 ≤ 3 by omega)] at h1
    obtain ⟨b1, b2, b3, b4⟩ := bind_new h2.1 q4 q1 q3
    have st := h2.step q4 q1 q3
    refine ⟨bindC sc (cv r.r1) r.c3 (ishr sc 16), bindR bo r.r1 r.c3, h1, st, by rw [b4, h3]; omega, by omega, fun ch d hq v v0 v1 hb => ?_⟩
    rw [FW_s]
    have ev : vrf ps p = r.r1 := by unfold vrf; rw [rwf_e l2]
    by_cases e : v = r.r1
    · rw [if_pos (by rw [ev]; exact e), e, b1, h3]
      exact hq p (by omega)
    · rw [if_neg (by rw [ev]; exact e), (b3 v v0 v1 e).1]
      refine h5 ch d (fun q q0 => hq q (by omega)) v v0 v1 ?_
      rw [← (b3 v v0 v1 e).2]
      exact hb
/-- a row that is one of the leading alls -/
theorem lead_row {S : SH} {ps : List Row} (ok : S.ok) (hty : ty S.nr S.k1 S.k2 [(0, 255)] ps) {p : Nat} (hp : p < lead ps) : ∃ r, ps[p]? = some r ∧ ps.drop p = r :: ps.drop (p + 1) ∧ r.c0 = 0 ∧ r.r0 = 0 ∧ (0 ≤ r.c3 ∧ r.c3 ≤ 2) ∧ r.r2 = r.c3 ∧ r.r1 = vrf ps p ∧ (0 ≤ r.r1 ∧ r.r1 ≤ 3) ∧ S.sz r.c3 = (zf S ps p : Int) ∧ (1 ≤ zf S ps p ∧ zf S ps p ≤ 3) := by
  obtain ⟨sc, bo, h1, _⟩ := lead_ty hty p (by omega)
  obtain ⟨r, l1, l2, l3⟩ := lead_at ps p hp
  rw [l1] at h1
  have ro := h1.1
  have r0 : (r.r0 = r.c0 ∧ r.r2 = r.c3 ∧ (0 ≤ r.c3 ∧ r.c3 ≤ 2) ∧ (0 ≤ r.r1 ∧ r.r1 ≤ 3)) := by
    rcases ro with z | z | z | z | z | z | z
    · exact ⟨z.2.2.1, z.2.2.2.2.2.2.1, z.2.2.2.2.2.2.2.1, z.2.2.2.2.2.2.2.2.1⟩
    · have := z.1; omega
    · have := z.1; omega
    · have := z.1; omega
    · have := z.1; omega
    · have := z.1; omega
    · have := z.1; omega
  have sz := ok.1 r.c3 r0.2.2.1.1 (by have := r0.2.2.1.2; omega)
  have ez : zf S ps p = (S.sz r.c3).toNat := by unfold zf; rw [rwf_e l2]
  exact ⟨r, l2, l1, l3, by omega, r0.2.2.1, r0.2.1, by unfold vrf; rw [rwf_e l2], r0.2.2.2, by omega, by omega⟩
/-- the row behind them -/
theorem lead_behind {S : SH} {ps : List Row} (hty : ty S.nr S.k1 S.k2 [(0, 255)] ps) : lead ps < ps.length ∧ ∃ r, ps[lead ps]? = some r ∧ ¬ r.c0 = 0 ∧ ¬ r.r0 = 0 := by
  obtain ⟨sc, bo, h1, _⟩ := lead_ty hty (lead ps) (Nat.le_refl _)
  have ne := ty_ne _ h1
  rw [List.length_drop] at ne
  have lt : lead ps < ps.length := by omega
  cases hd : ps.drop (lead ps) with
  | nil =>
    have := congrArg List.length hd
    rw [List.length_drop] at this
    exact absurd this ne
  | cons r rs =>
    have c := lead_end ps r rs hd
    obtain ⟨g1, _, _⟩ := drop_get hd
    rw [hd] at h1
    refine ⟨lt, r, g1, c, ?_⟩
    rcases h1.1 with z | z | z | z | z | z | z
    · rw [z.2.2.1]; exact c
    · have := z.1; have := z.2.2; omega
    · have := z.2.1; omega
    · have := z.2.1; omega
    · have := z.2.1; omega
    · have := z.2.1; omega
    · have := z.2.1; omega
/-- where a text is so, what comes behind its alls is so -/
theorem lead_all {S : SH} {A : Int → Int → Int → Bool} {ps : List Row} (ok : S.ok) (hty : ty S.nr S.k1 S.k2 [(0, 255)] ps) (h : hd (sm S A ps) (envOf 0) = true) {d : Nat → Int} (hd' : ∀ p, p < lead ps → 0 ≤ d p ∧ d p < (zf S ps p : Int)) : ∀ p : Nat, p ≤ lead ps → hd (sm S A (ps.drop p)) (FWv ps d p) = true := by
  intro p
  induction p with
  | zero => intro _; exact h
  | succ p ih =>
    intro hp
    have i := ih (by omega)
    obtain ⟨r, l1, l2, l3, l4, l5, l6, l7, l8, l9, l10⟩ := lead_row ok hty (p := p) (by omega)
    obtain ⟨sc, bo, t1, _⟩ := lead_ty hty (p + 1) hp
    have sn := sm_len (S := S) (A := A) (ps.drop (p + 1)) _ t1
    rw [l2, hd_bind (by omega) (by rw [sn]; exact Nat.le_refl _)] at i
    have i' : (if r.r0 = 0 then decide (cnt (fun k => hd (sm S A (ps.drop (p + 1))) (evu (FWv ps d p) r.r1 k)) (S.sz r.r2).toNat = S.sz r.r2) else _) = true := i
    rw [if_pos l4, l6] at i'
    have i2 := of_decide_eq_true i'
    have full : ∀ (g : Int → Bool) (n : Nat), cnt g n = (n : Int) → ∀ k : Nat, k < n → g (k : Int) = true := fun g n => by
      induction n with
      | zero => intro _ k hk; omega
      | succ n ihn =>
        intro e k hk
        have b := cnt_b g n
        have e' : cnt g n + (if g (n : Int) = true then 1 else 0) = ((n + 1 : Nat) : Int) := e
        by_cases c : g (n : Int) = true
        · rw [if_pos c] at e'
          by_cases e2 : k = n
          · rw [e2]; exact c
          · exact ihn (by omega) k (by omega)
        · rw [if_neg c] at e'
          omega
    have dp := hd' p (by omega)
    obtain ⟨k, hk⟩ := Int.eq_ofNat_of_zero_le dp.1
    have f := full (fun k => hd (sm S A (ps.drop (p + 1))) (evu (FWv ps d p) r.r1 k)) (S.sz r.c3).toNat (i2.trans (by omega)) k (by omega)
    rw [← hk] at f
    rw [show FWv ps d (p + 1) = evu (FWv ps d p) (vrf ps p) (d p) from rfl, ← l7]
    exact f
/-! rows of numbers -/
def PR (z : Nat → Nat) (A : Nat) : Nat → Nat
  | 0 => 1
  | j + 1 => PR z A j * z (A - 1 - j)
/-- the j-th number of row c, from the last one on -/
def dj (z : Nat → Nat) (A j c : Nat) : Nat := (c / PR z A j) % z (A - 1 - j)
def dgp (z : Nat → Nat) (A p c : Nat) : Nat := dj z A (A - 1 - p) c
def RWn (z : Nat → Nat) : Nat → Nat
  | 0 => 1
  | p + 1 => RWn z p * z p
theorem succ_div {N : Nat} (h : 0 < N) (c : Nat) : ((c + 1) % N = 0 ∧ (c + 1) / N = c / N + 1) ∨ (¬ (c + 1) % N = 0 ∧ (c + 1) / N = c / N) := by
  have e := Nat.div_add_mod c N
  have lt := Nat.mod_lt c h
  obtain ⟨t, ht⟩ : ∃ t, t = c / N := ⟨_, rfl⟩
  obtain ⟨r, hr⟩ : ∃ r, r = c % N := ⟨_, rfl⟩
  rw [← ht, ← hr] at e
  rw [← hr] at lt
  rw [← ht]
  have e1 : c + 1 = (r + 1) + N * t := by omega
  rw [e1, Nat.add_mul_mod_self_left, Nat.add_mul_div_left _ _ h]
  by_cases k : r + 1 = N
  · refine Or.inl ⟨by rw [k]; exact Nat.mod_self N, ?_⟩
    rw [k, Nat.div_self h]
    omega
  · refine Or.inr ⟨by rw [Nat.mod_eq_of_lt (by omega)]; omega, ?_⟩
    rw [Nat.div_eq_of_lt (by omega)]
    omega
section
variable {z : Nat → Nat} {A : Nat}
theorem PR_pos (hz : ∀ p, p < A → 1 ≤ z p ∧ z p ≤ 3) : ∀ j, j ≤ A → 0 < PR z A j := by
  intro j
  induction j with
  | zero => intro _; exact Nat.one_pos
  | succ j ih =>
    intro h
    exact Nat.mul_pos (ih (by omega)) (hz _ (by omega)).1
theorem PR_up {x j : Nat} (h : ¬ x % PR z A j = 0) : ∀ i, j ≤ i → ¬ x % PR z A i = 0 := by
  intro i
  induction i with
  | zero =>
    intro hi
    rw [show j = 0 by omega] at h
    exact h
  | succ i ih =>
    intro hi
    by_cases e : j = i + 1
    · rw [← e]; exact h
    · intro w
      have w' : x % (PR z A i * z (A - 1 - i)) = 0 := w
      rw [Nat.mod_mul] at w'
      exact ih (by omega) (by omega)
theorem m_next {t z : Nat} (hz : z = 1 ∨ z = 2 ∨ z = 3) : (t % z + 1 < z → (t + 1) % z = t % z + 1) ∧ (¬ t % z + 1 < z → (t + 1) % z = 0) := by
  rcases hz with e | e | e <;> subst e <;> omega
/-- the last numbers are full -/
theorem dj_next (hz : ∀ p, p < A → 1 ≤ z p ∧ z p ≤ 3) {j c : Nat} (hj : j < A) (h : (c + 1) % PR z A j = 0) : (dj z A j c + 1 < z (A - 1 - j) → dj z A j (c + 1) = dj z A j c + 1 ∧ ∀ i, j < i → i < A → dj z A i (c + 1) = dj z A i c) ∧ (¬ dj z A j c + 1 < z (A - 1 - j) → dj z A j (c + 1) = 0 ∧ (c + 1) % PR z A (j + 1) = 0) := by
  have pos := PR_pos hz j (by omega)
  have zz := hz (A - 1 - j) (by omega)
  have mn := m_next (t := c / PR z A j) (z := z (A - 1 - j)) (by omega)
  have sd : (c + 1) / PR z A j = c / PR z A j + 1 := by
    rcases succ_div pos c with a | a
    · exact a.2
    · exact absurd h a.1
  have ed : dj z A j (c + 1) = (c / PR z A j + 1) % z (A - 1 - j) := by
    unfold dj
    rw [sd]
  have pm : (c + 1) % PR z A (j + 1) = PR z A j * dj z A j (c + 1) := by
    show (c + 1) % (PR z A j * z (A - 1 - j)) = _
    rw [Nat.mod_mul, h, Nat.zero_add]; rfl
  refine ⟨fun k => ?_, fun k => ?_⟩
  · have e1 : dj z A j (c + 1) = dj z A j c + 1 := ed.trans (mn.1 k)
    refine ⟨e1, fun i hi hA => ?_⟩
    have nz : ¬ (c + 1) % PR z A (j + 1) = 0 := by
      rw [pm, e1]
      exact Nat.ne_of_gt (Nat.mul_pos pos (Nat.succ_pos _))
    have ni := PR_up nz i (by omega)
    unfold dj
    rcases succ_div (PR_pos hz i (by omega)) c with a | a
    · exact absurd a.1 ni
    · rw [a.2]
  · have e0 : dj z A j (c + 1) = 0 := ed.trans (mn.2 k)
    exact ⟨e0, by rw [pm, e0]; exact Nat.mul_zero _⟩
theorem RW_p (hz : ∀ p, p < A → 1 ≤ z p ∧ z p ≤ 3) : ∀ p, p ≤ A → 1 ≤ RWn z p ∧ RWn z p ≤ 3 ^ p := by
  intro p
  induction p with
  | zero => intro _; exact ⟨Nat.le_refl 1, Nat.le_refl 1⟩
  | succ p ih =>
    intro h
    have i := ih (by omega)
    have zz := hz p (by omega)
    exact ⟨Nat.mul_pos i.1 zz.1, Nat.mul_le_mul i.2 zz.2⟩
theorem RW_b (hA : A ≤ 4) (hz : ∀ p, p < A → 1 ≤ z p ∧ z p ≤ 3) (p : Nat) (hp : p ≤ A) : 1 ≤ RWn z p ∧ RWn z p ≤ 81 := by
  have i := RW_p hz p hp
  have : 3 ^ p ≤ 3 ^ 4 := Nat.pow_le_pow_right (n := 3) (by decide) (by omega)
  exact ⟨i.1, Nat.le_trans i.2 this⟩
theorem dgp_b (hz : ∀ p, p < A → 1 ≤ z p ∧ z p ≤ 3) {p c : Nat} (hp : p < A) : dgp z A p c < z p := by
  unfold dgp dj
  rw [show A - 1 - (A - 1 - p) = p by omega]
  exact Nat.mod_lt _ (by have := hz p hp; omega)
end
/-- the first row at which T isn't so -/
def BR (T : Nat → Bool) (R : Nat) (f : Nat → Int) (v : Int) : Prop := (v = -1 ∧ ∀ c, c < R → T c = true) ∨ ∃ c, c < R ∧ T c = false ∧ (∀ x, x < c → T x = true) ∧ v = f c
theorem BR.uniq {T : Nat → Bool} {R : Nat} {f : Nat → Int} {v v' : Int} (h : BR T R f v) (h' : BR T R f v') : v = v' := by
  rcases h with ⟨a, b⟩ | ⟨c, a1, a2, a3, a4⟩
  · rcases h' with ⟨a', _⟩ | ⟨c', b1, b2, _⟩
    · rw [a, a']
    · rw [b c' b1] at b2; cases b2
  · rcases h' with ⟨_, b⟩ | ⟨c', b1, b2, b3, b4⟩
    · rw [b c a1] at a2; cases a2
    · have : c = c' := by
        apply Classical.byContradiction
        intro ne
        by_cases l : c < c'
        · rw [b3 c l] at a2; cases a2
        · rw [a3 c' (by omega)] at b2; cases b2
      rw [a4, b4, this]
