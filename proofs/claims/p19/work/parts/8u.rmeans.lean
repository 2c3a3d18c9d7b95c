section
/-! variables' values -/
def dg (a n : Nat) : Nat := a / 3 ^ n % 3
def zz (a n : Nat) : Nat := a - dg a n * 3 ^ n
def envOf (a : Nat) (x : Int) : Int := if 0 ≤ x ∧ x ≤ 3 then ((dg a x.toNat : Nat) : Int) else 0
theorem zz_0 : ∀ a : Nat, a < 81 → ∀ n : Nat, n < 4 → dg (zz a n) n = 0 := by decide +kernel
theorem zz_s : ∀ a : Nat, a < 81 → ∀ n : Nat, n < 4 → a = zz a n + dg a n * 3 ^ n := by decide +kernel
theorem ad_lt : ∀ a : Nat, a < 81 → ∀ n : Nat, n < 4 → ∀ k : Nat, k < 3 → dg a n = 0 → a + k * 3 ^ n < 81 := by decide +kernel
theorem ad_zz : ∀ a : Nat, a < 81 → ∀ n : Nat, n < 4 → ∀ k : Nat, k < 3 → dg a n = 0 → zz (a + k * 3 ^ n) n = a := by decide +kernel
theorem ad_dg : ∀ a : Nat, a < 81 → ∀ n : Nat, n < 4 → ∀ k : Nat, k < 3 → dg a n = 0 → ∀ m : Nat, m < 4 → dg (a + k * 3 ^ n) m = if m = n then k else dg a m := by decide +kernel
theorem p3_b : ∀ n : Nat, n < 4 → 0 < 3 ^ n ∧ 3 ^ n ≤ 27 := by decide +kernel
theorem dg_b (a n : Nat) : dg a n < 3 := Nat.mod_lt _ (by decide)
theorem env_add {a n k : Nat} (ha : a < 81) (hn : n < 4) (hk : k < 3) (h : dg a n = 0) : envOf (a + k * 3 ^ n) = evu (envOf a) (n : Int) (k : Int) := by
  funext x
  unfold envOf evu
  by_cases hx : 0 ≤ x ∧ x ≤ 3
  · rw [if_pos hx, ad_dg a ha n hn k hk h x.toNat (by omega)]
    by_cases e : x = (n : Int)
    · rw [if_pos (by omega), if_pos e]
    · rw [if_neg (by omega), if_neg e]; show _ = (if 0 ≤ x ∧ x ≤ 3 then ((dg a x.toNat : Nat) : Int) else 0); rw [if_pos hx]
  · rw [if_neg hx, if_neg (by omega)]; show _ = (if 0 ≤ x ∧ x ≤ 3 then ((dg a x.toNat : Nat) : Int) else 0); rw [if_neg hx]
theorem evu_evu (e : Int → Int) (v a b : Int) : evu (evu e v a) v b = evu e v b := by
  funext x
  unfold evu
  by_cases h : x = v
  · rw [if_pos h, if_pos h]
  · rw [if_neg h, if_neg h, if_neg h]
theorem env_zz {y n : Nat} (hy : y < 81) (hn : n < 4) (k : Int) : evu (envOf y) (n : Int) k = evu (envOf (zz y n)) (n : Int) k := by
  have hz : zz y n ≤ y := Nat.sub_le _ _
  have := env_add (a := zz y n) (k := dg y n) (by omega) hn (dg_b y n) (zz_0 y hy n hn)
  rw [← zz_s y hy n hn] at this
  rw [this, evu_evu]
section
variable {M : Mem}
theorem w_unit {n : Nat} (hn : n < 4) : pw (mX9_unit (n : Int) M) (fun q => q.2 = M ∧ q.1 = ((3 ^ n : Nat) : Int)) := by
  have : n = 0 ∨ n = 1 ∨ n = 2 ∨ n = 3 := by omega
  unfold mX9_unit
  rcases this with e | e | e | e <;> subst e
  · exact p_it1 rfl (p_ret ⟨rfl, rfl⟩)
  · exact p_it0 (by decide) (p_it1 rfl (p_ret ⟨rfl, rfl⟩))
  · exact p_it0 (by decide) (p_it0 (by decide) (p_it1 rfl (p_ret ⟨rfl, rfl⟩)))
  · exact p_it0 (by decide) (p_it0 (by decide) (p_it0 (by decide) (p_ret ⟨rfl, rfl⟩)))
theorem quoN {a b : Nat} (ha : a < 100000) (hb : 0 < b) (hb2 : b < 100000) : idiv (a : Int) (b : Int) = ((a / b : Nat) : Int) := by
  rw [idiv_e (by omega) (by omega) (by omega) (by omega)]; rfl
theorem w_valueIn {a : Nat} {v : Int} (ha : a < 81) (hv : 0 ≤ v ∧ v ≤ 3) : pw (mX9_valueIn (a : Int) v M) (fun q => q.2 = M ∧ q.1 = envOf a v) := by
  obtain ⟨n, rfl⟩ := Int.eq_ofNat_of_zero_le hv.1
  have p3 := p3_b n (by omega)
  have dl : a / 3 ^ n ≤ a := Nat.div_le_self _ _
  unfold mX9_valueIn
  refine p_call (w_unit (by omega)) (fun u m y => ?_)
  obtain ⟨e, y⟩ := y
  replace e : m = M := e
  replace y : u = ((3 ^ n : Nat) : Int) := y
  subst e; subst y
  refine p_dQc (quoN (by omega) p3.1 (by omega)) (p_dMc (rem3 (by omega)) (p_ret ⟨rfl, ?_⟩))
  show ((a / 3 ^ n % 3 : Nat) : Int) = envOf a (n : Int)
  unfold envOf
  rw [if_pos hv]; rfl
end
/-- what is ready -/
def RDl : List ((Int → Int) → Bool) → Mem → Prop
  | [], _ => True
  | f :: L, M => (∀ a : Nat, a < 81 → mG M 160 (81 * (L.length : Int) + (a : Int)) = b2i (f (envOf a))) ∧ RDl L M
theorem RDl.kp : ∀ {L : List ((Int → Int) → Bool)} {M M' : Mem}, RDl L M → (∀ j : Int, j < 81 * (L.length : Int) → mG M' 160 j = mG M 160 j) → RDl L M' := by
  intro L
  induction L with
  | nil => intro M M' _ _; exact True.intro
  | cons f L ih =>
    intro M M' h g
    have e : (((f :: L).length : Nat) : Int) = (L.length : Int) + 1 := by rw [List.length_cons]; omega
    rw [e] at g
    exact ⟨fun a ha => (g _ (by omega)).trans (h.1 a ha), ih h.2 (fun j hj => g j (by omega))⟩
/-- what judging leaves -/
def QR (S : SH) (ps : List Row) (t : Int) (φ : Int → Bool) (L : List ((Int → Int) → Bool)) (M M' : Mem) : Prop := RM S ps t φ M' ∧ RDl L M' ∧ mG M' 126 46 = (L.length : Int) ∧ FM M M'
/-- a row that is no part of parts -/
def LRw (nr : Int) (r : Row) : Prop :=
  (r.r0 = 8 ∧ (0 ≤ r.r1 ∧ r.r1 ≤ 3) ∧ (0 ≤ r.r2 ∧ r.r2 ≤ 3)) ∨ (r.r0 = 9 ∧ (0 ≤ r.r1 ∧ r.r1 < nr) ∧ (0 ≤ r.r2 ∧ r.r2 ≤ 3) ∧ (0 ≤ r.r3 ∧ r.r3 ≤ 3)) ∨ (r.r0 = 10 ∧ (0 ≤ r.r1 ∧ r.r1 < nr)) ∨ (r.r0 = 11 ∧ (0 ≤ r.r1 ∧ r.r1 < nr) ∧ (0 ≤ r.r2 ∧ r.r2 ≤ 3)) ∨ (r.r0 = 12 ∧ (0 ≤ r.r1 ∧ r.r1 < nr) ∧ (0 ≤ r.r2 ∧ r.r2 ≤ 3) ∧ (0 ≤ r.r3 ∧ r.r3 ≤ 3))
theorem rowOK.lr {nr sc bo : Int} {k1 k2 : Int → Int} {r : Row} (h : rowOK nr k1 k2 sc bo r) (h8 : 8 ≤ r.c0) : LRw nr r := by
  unfold rowOK at h
  unfold LRw
  rcases h with w | w | w | w | w | w | w
  · exfalso; omega
  · exfalso; omega
  · exact Or.inl ⟨w.2.1, w.2.2.1.1, w.2.2.2.1.1⟩
  · exact Or.inr (Or.inl ⟨w.2.1, w.2.2.2.1, w.2.2.2.2.2.1.1, w.2.2.2.2.2.2.1.1⟩)
  · exact Or.inr (Or.inr (Or.inl ⟨w.2.1, w.2.2.2.1⟩))
  · exact Or.inr (Or.inr (Or.inr (Or.inl ⟨w.2.1, w.2.2.2.1, w.2.2.2.2.2.1.1⟩)))
  · exact Or.inr (Or.inr (Or.inr (Or.inr ⟨w.2.1, w.2.2.2.1, w.2.2.2.2.2.1.1, w.2.2.2.2.2.2.1.1⟩)))
section
variable {S : SH} {ps : List Row} {t : Int} {φ : Int → Bool} {M : Mem} {L : List ((Int → Int) → Bool)} {r : Row} {k : Int}
def FP9 (n : Nat) (M M' : Mem) : Prop := ∀ c j : Int, ¬ (c = 160 ∧ 81 * (n : Int) ≤ j) → mG M' c j = mG M c j
theorem FP9.fm {n : Nat} {M M' : Mem} (h : FP9 n M M') : FM M M' := fun c j _ y _ => h c j (fun w => y w.1)
theorem w_leaf51 {l3 : Int} (ok : S.ok) (h : RM S ps t φ M) (hl : L.length ≤ 40) (rx : RX r k M) (lr : LRw S.nr r) (h9 : r.r0 = 9 → PJ (clo (S.fa φ r.r1)) 9 M) (h10 : r.r0 = 10 → l3 = b2i (treeA (S.fa φ r.r1))) (ht : mG M 126 46 = (L.length : Int)) : ∀ (fu a : Nat) (M' : Mem), a ≤ 81 → FP9 L.length M M' → (∀ x : Nat, x < a → mG M' 160 (81 * (L.length : Int) + (x : Int)) = b2i (leafT (S.fa φ) r (envOf x))) → pw (mX9_leaf_51 fu 126 k r.r0 l3 (a : Int) M') (fun q => (∀ c j : Int, ¬ (c = 126 ∧ j = 46) → ¬ (c = 160 ∧ 81 * (L.length : Int) ≤ j) → mG q.2 c j = mG M c j) ∧ mG q.2 126 46 = (L.length : Int) + 1 ∧ ∀ x : Nat, x < 81 → mG q.2 160 (81 * (L.length : Int) + (x : Int)) = b2i (leafT (S.fa φ) r (envOf x))) := by
  intro fu
  induction fu with
  | zero => intro a M' _ _ _; exact p_none
  | succ fu ih =>
    intro a M' ha fr hx
    show pw (bX9_leaf_51 (mX9_leaf_51 fu) 126 k r.r0 l3 (a : Int) M') _
    have hm : RM S ps t φ M' := h.kp fr.fm
    have rx' : RX r k M' := rx.kp (fun c c0 c1 => fr c k (fun w => by omega))
    have ht' : mG M' 126 46 = (L.length : Int) := (fr 126 46 (fun w => absurd w.1 (by decide))).trans ht
    have g15 := hm.1
    unfold bX9_leaf_51
    refine p_if (fun c => ?_) (fun c => ?_)
    · refine p_gFc (ji := 46) rfl ht' (p_pF (ji := 46) rfl (fun M3 h3 => p_ret ?_))
      rw [wI_id (x := (L.length : Int) + 1) (by omega) (by omega)] at h3
      refine ⟨fun c j x y => (st_ne h3 (fun w => x w)).trans (fr c j y), st_eq h3, fun x h81 => ?_⟩
      show mG M3 160 _ = _
      rw [st_ne h3 (fun w => absurd w.1 (by decide))]
      exact hx x (by omega)
    have wr : ∀ v : Int, v = b2i (leafT (S.fa φ) r (envOf a)) → pw (mX9_leaf_216 (mX9_leaf_51 fu) 126 k r.r0 l3 (a : Int) v M') (fun q => (∀ c j : Int, ¬ (c = 126 ∧ j = 46) → ¬ (c = 160 ∧ 81 * (L.length : Int) ≤ j) → mG q.2 c j = mG M c j) ∧ mG q.2 126 46 = (L.length : Int) + 1 ∧ ∀ x : Nat, x < 81 → mG q.2 160 (81 * (L.length : Int) + (x : Int)) = b2i (leafT (S.fa φ) r (envOf x))) := fun v hv => by
      unfold mX9_leaf_216
      refine p_gFc (ji := 45) rfl g15.2.2.2.2.2.2.2.2.2.2.1 (p_gFc (ji := 46) rfl ht' (p_aSZ (fun M3 h3 => ?_)))
      rw [wI_id (x := 81 * (L.length : Int)) (by omega) (by omega), wI_id (x := 81 * (L.length : Int) + (a : Int)) (by omega) (by omega)] at h3
      rw [wI_s (p := a) (by omega)]
      refine ih (a + 1) M3 (by omega) (fun c j x => (st_ne h3 (fun w => x ⟨w.1, by omega⟩)).trans (fr c j x)) (fun x hx2 => ?_)
      by_cases e : x = a
      · rw [e, st_eq h3, hv]
      · rw [st_ne h3 (fun w => e (by have := w.2; omega))]
        exact hx x (by omega)
    have a81 : a < 81 := by omega
    refine p_if (fun c8 => ?_) (fun c8 => p_if (fun c9 => ?_) (fun c9 => p_if (fun c11 => ?_) (fun c11 => p_if (fun c12 => ?_) (fun c12 => ?_))))
    · have w : (0 ≤ r.r1 ∧ r.r1 ≤ 3) ∧ (0 ≤ r.r2 ∧ r.r2 ≤ 3) := by
        unfold LRw at lr
        rcases lr with w | w | w | w | w
        · exact w.2
        all_goals (exfalso; omega)
      refine p_gFc (ji := 17) rfl g15.2.2.2.2.1 (p_aGc (rx'.2.1 (Or.inr (by omega))) (p_call (w_valueIn a81 w.1) (fun v m y => ?_)))
      obtain ⟨e, y⟩ := y
      replace e : m = M' := e
      replace y : v = envOf a r.r1 := y
      subst e; subst y
      refine p_gFc (ji := 18) rfl g15.2.2.2.2.2.1 (p_aGc (rx'.2.2.1 (Or.inr (Or.inl c8))) (p_call (w_valueIn a81 w.2) (fun v m2 y => ?_)))
      obtain ⟨e, y⟩ := y
      replace e : m2 = m := e
      replace y : v = envOf a r.r2 := y
      subst e; subst y
      have lt : leafT (S.fa φ) r (envOf a) = decide (envOf a r.r1 = envOf a r.r2) := if_pos c8
      refine p_if (fun z => wr 1 ?_) (fun z => wr 0 ?_)
      · rw [lt, decide_eq_true z]; rfl
      · rw [lt, decide_eq_false z]; rfl
    · have w : (0 ≤ r.r1 ∧ r.r1 < S.nr) ∧ (0 ≤ r.r2 ∧ r.r2 ≤ 3) ∧ (0 ≤ r.r3 ∧ r.r3 ≤ 3) := by
        unfold LRw at lr
        rcases lr with w | w | w | w | w
        · exfalso; omega
        · exact w.2
        all_goals (exfalso; omega)
      refine p_gFc (ji := 47) rfl g15.2.2.2.2.2.2.2.2.2.2.2 (p_gFc (ji := 18) rfl g15.2.2.2.2.2.1 (p_aGc (rx'.2.2.1 (Or.inr (Or.inr (Or.inl c9)))) (p_call (w_valueIn a81 w.2.1) (fun v m y => ?_))))
      obtain ⟨e, y⟩ := y
      replace e : m = M' := e
      replace y : v = envOf a r.r2 := y
      subst e; subst y
      refine p_gFc (ji := 19) rfl g15.2.2.2.2.2.2.1 (p_aGc (rx'.2.2.2 (Or.inr (Or.inl c9))) (p_call (w_valueIn a81 w.2.2) (fun v m2 y => ?_)))
      obtain ⟨e, y⟩ := y
      replace e : m2 = m := e
      replace y : v = envOf a r.r3 := y
      subst e; subst y
      have e2 : envOf a r.r2 = ((dg a r.r2.toNat : Nat) : Int) := if_pos w.2.1
      have e3 : envOf a r.r3 = ((dg a r.r3.toNat : Nat) : Int) := if_pos w.2.2
      have b2 := dg_b a r.r2.toNat
      have b3 := dg_b a r.r3.toNat
      have pj := h9 c9 (3 * dg a r.r2.toNat + dg a r.r3.toNat) (by omega)
      rw [show (3 * dg a r.r2.toNat + dg a r.r3.toNat) / 3 = dg a r.r2.toNat by omega, show (3 * dg a r.r2.toNat + dg a r.r3.toNat) % 3 = dg a r.r3.toNat by omega, ← e2, ← e3] at pj
      have ix : wI (wI (3 * envOf a r.r2) + envOf a r.r3) = ((3 * dg a r.r2.toNat + dg a r.r3.toNat : Nat) : Int) := by
        rw [e2, e3, wI_id (x := 3 * ((dg a r.r2.toNat : Nat) : Int)) (by omega) (by omega), wI_id (x := 3 * ((dg a r.r2.toNat : Nat) : Int) + ((dg a r.r3.toNat : Nat) : Int)) (by omega) (by omega)]
        omega
      rw [ix]
      refine p_aGc ((fr 161 _ (fun w => absurd w.1 (by decide))).trans pj) (wr _ ?_)
      have lt : leafT (S.fa φ) r (envOf a) = clo (S.fa φ r.r1) (envOf a r.r2) (envOf a r.r3) := by
        unfold leafT
        rw [if_neg c8, if_pos c9]
      rw [lt]
    · have w : (0 ≤ r.r1 ∧ r.r1 < S.nr) ∧ (0 ≤ r.r2 ∧ r.r2 ≤ 3) := by
        unfold LRw at lr
        rcases lr with w | w | w | w | w
        · exfalso; omega
        · exfalso; omega
        · exfalso; omega
        · exact w.2
        · exfalso; omega
      refine p_gFc (ji := 17) rfl g15.2.2.2.2.1 (p_aGc (rx'.2.1 (Or.inr (by omega))) (p_gFc (ji := 18) rfl g15.2.2.2.2.2.1 (p_aGc (rx'.2.2.1 (Or.inr (Or.inr (Or.inr (by omega))))) (p_call (w_valueIn a81 w.2) (fun v m y => ?_)))))
      obtain ⟨e, y⟩ := y
      replace e : m = M' := e
      replace y : v = envOf a r.r2 := y
      subst e; subst y
      refine p_gK (p_call (w_isSo ok hm w.1.1 w.1.2) (fun v m2 y => ?_))
      obtain ⟨e, y⟩ := y
      replace e : m2 = m := e
      replace y : v = b2i (S.fa φ r.r1 (envOf a r.r2) 0) := y
      subst e; subst y
      refine wr _ ?_
      have lt : leafT (S.fa φ) r (envOf a) = S.fa φ r.r1 (envOf a r.r2) 0 := by
        unfold leafT
        rw [if_neg c8, if_neg c9, if_neg (by omega), if_pos c11]
      rw [lt]
    · have w : (0 ≤ r.r1 ∧ r.r1 < S.nr) ∧ (0 ≤ r.r2 ∧ r.r2 ≤ 3) ∧ (0 ≤ r.r3 ∧ r.r3 ≤ 3) := by
        unfold LRw at lr
        rcases lr with w | w | w | w | w
        · exfalso; omega
        · exfalso; omega
        · exfalso; omega
        · exfalso; omega
        · exact w.2
      refine p_gFc (ji := 17) rfl g15.2.2.2.2.1 (p_aGc (rx'.2.1 (Or.inr (by omega))) (p_gFc (ji := 18) rfl g15.2.2.2.2.2.1 (p_aGc (rx'.2.2.1 (Or.inr (Or.inr (Or.inr (by omega))))) (p_call (w_valueIn a81 w.2.1) (fun v m y => ?_)))))
      obtain ⟨e, y⟩ := y
      replace e : m = M' := e
      replace y : v = envOf a r.r2 := y
      subst e; subst y
      refine p_gFc (ji := 19) rfl g15.2.2.2.2.2.2.1 (p_aGc (rx'.2.2.2 (Or.inr (Or.inr c12))) (p_call (w_valueIn a81 w.2.2) (fun v m2 y => ?_)))
      obtain ⟨e, y⟩ := y
      replace e : m2 = m := e
      replace y : v = envOf a r.r3 := y
      subst e; subst y
      refine p_gK (p_call (w_isSo ok hm w.1.1 w.1.2) (fun v m y => ?_))
      obtain ⟨e, y⟩ := y
      replace e : m = m2 := e
      replace y : v = b2i (S.fa φ r.r1 (envOf a r.r2) (envOf a r.r3)) := y
      subst e; subst y
      refine wr _ ?_
      have lt : leafT (S.fa φ) r (envOf a) = S.fa φ r.r1 (envOf a r.r2) (envOf a r.r3) := by
        unfold leafT
        rw [if_neg c8, if_neg c9, if_neg (by omega), if_neg c11]
      rw [lt]
    · have w : r.r0 = 10 := by
        unfold LRw at lr
        omega
      refine wr _ ?_
      have lt : leafT (S.fa φ) r (envOf a) = treeA (S.fa φ r.r1) := by
        unfold leafT
        rw [if_neg c8, if_neg c9, if_pos w]
      rw [lt]
      exact h10 w
theorem w_leaf (ok : S.ok) (h : RM S ps t φ M) (hd : RDl L M) (hl : L.length ≤ 40) (rx : RX r k M) (lr : LRw S.nr r) (ht : mG M 126 46 = (L.length : Int)) : pw (mX9_leaf 126 k M) (fun q => QR S ps t φ (leafT (S.fa φ) r :: L) M q.2) := by
  have lc : ((leafT (S.fa φ) r :: L).length : Int) = (L.length : Int) + 1 := by rw [List.length_cons]; omega
  have rr : r.r0 = 9 ∨ r.r0 = 10 → 0 ≤ r.r1 ∧ r.r1 < S.nr := fun y => by
    unfold LRw at lr
    rcases lr with w | w | w | w | w
    · exfalso; omega
    · exact w.2.1
    · exact w.2
    · exact w.2.1
    · exact w.2.1
  have fin : ∀ (M1 : Mem) (l3 : Int), (∀ c j : Int, ¬ c = 161 → mG M1 c j = mG M c j) → (r.r0 = 9 → PJ (clo (S.fa φ r.r1)) 9 M1) → (r.r0 = 10 → l3 = b2i (treeA (S.fa φ r.r1))) → pw (mX9_leaf_48 126 k r.r0 l3 M1) (fun q => QR S ps t φ (leafT (S.fa φ) r :: L) M q.2) := fun M1 l3 fr h9 h10 => by
    unfold mX9_leaf_48
    have fm : FM M M1 := fun c j _ _ z => fr c j z
    refine p_mono (w_leaf51 (L := L) ok (h.kp fm) hl (rx.kp (fun c c0 c1 => fr c k (by omega))) lr h9 h10 ((fr 126 46 (by decide)).trans ht) FU 0 M1 (by omega) (fun _ _ _ => rfl) (fun x hx => absurd hx (by omega))) (fun q y => ?_)
    obtain ⟨y1, y2, y3⟩ := y
    have fq : FM M q.2 := fm.tr (fun c j x y z => y1 c j x (fun w => y w.1))
    refine ⟨h.kp fq, ⟨y3, hd.kp (fun j hj => (y1 160 j (by omega) (by omega)).trans (fr 160 j (by decide)))⟩, y2.trans lc.symm, fq⟩
  have two : ∀ (M1 : Mem) (l3 : Int), (∀ c j : Int, ¬ c = 161 → mG M1 c j = mG M c j) → (r.r0 = 10 → l3 = b2i (treeA (S.fa φ r.r1))) → pw (mX9_leaf_31 126 k r.r0 l3 M1) (fun q => QR S ps t φ (leafT (S.fa φ) r :: L) M q.2) := fun M1 l3 fr h10 => by
    have h1 : RM S ps t φ M1 := h.kp (fun c j _ _ z => fr c j z)
    unfold mX9_leaf_31
    refine p_if (fun c => ?_) (fun c => fin M1 l3 fr (fun w => absurd w c) h10)
    have rr := rr (Or.inl c)
    refine p_gFc (ji := 17) rfl h1.1.2.2.2.2.1 (p_aGc ((fr 143 k (by decide)).trans (rx.2.1 (Or.inr (by omega)))) (p_gK (p_call (w_fj ok h1 rr.1 rr.2) (fun v m y => ?_))))
    obtain ⟨y1, y2⟩ := y
    exact fin m l3 (fun c j z => (y1 c j z).trans (fr c j z)) (fun _ => y2) h10
  unfold mX9_leaf
  refine p_gFc (ji := 16) rfl h.1.2.2.2.1 (p_aGc rx.1 (p_if (fun c => ?_) (fun c => ?_)))
  · have rr := rr (Or.inr c)
    refine p_gFc (ji := 17) rfl h.1.2.2.2.2.1 (p_aGc (rx.2.1 (Or.inr (by omega))) (p_gK (p_call (w_isTree ok h rr.1 rr.2) (fun v m y => ?_))))
    obtain ⟨y1, y2⟩ := y
    replace y1 : ∀ c j : Int, ¬ c = 161 → mG m c j = mG M c j := y1
    replace y2 : v = b2i (treeA (S.fa φ r.r1)) := y2
    subst y2
    refine p_if (fun z => ?_) (fun z => ?_)
    · exact two m 0 y1 (fun _ => z.symm)
    · refine two m 1 y1 (fun _ => ?_)
      cases hb : treeA (S.fa φ r.r1) with
      | true => rfl
      | false => exact absurd (b2i_0.mpr hb) z
  · exact two M 0 (fun _ _ _ => rfl) (fun w => absurd w c)
/-! a binder -/
theorem bindT_zz {f : (Int → Int) → Bool} {y n : Nat} (hy : y < 81) (hn : n < 4) (h1 : r.r1 = (n : Int)) : bindT S r f (envOf y) = bindT S r f (envOf (zz y n)) := by
  have e : (fun k => f (evu (envOf y) r.r1 k)) = fun k => f (evu (envOf (zz y n)) r.r1 k) := by
    funext k
    rw [h1, env_zz hy hn]
  unfold bindT
  rw [e]
def BI (S : SH) (r : Row) (f : (Int → Int) → Bool) (len n a : Nat) (M : Mem) : Prop := ∀ y : Nat, y < 81 → mG M 160 (81 * (len : Int) + (y : Int)) = b2i (if zz y n < a then bindT S r f (envOf y) else f (envOf y))
theorem w_binder {f : (Int → Int) → Bool} (ok : S.ok) (h : RM S ps t φ M) (hd : RDl (f :: L) M) (hl : L.length ≤ 40) (rx : RX r k M) (h0 : 0 ≤ r.r0 ∧ r.r0 ≤ 3) (h1 : 0 ≤ r.r1 ∧ r.r1 ≤ 3) (h2 : 0 ≤ r.r2 ∧ r.r2 ≤ 2) (ht : mG M 126 46 = (L.length : Int) + 1) : pw (mX9_bind 126 k M) (fun q => QR S ps t φ (bindT S r f :: L) M q.2) := by
  obtain ⟨n, hn⟩ := Int.eq_ofNat_of_zero_le h1.1
  have n4 : n < 4 := by omega
  have p3 := p3_b n n4
  have lc : ((bindT S r f :: L).length : Int) = (L.length : Int) + 1 := by rw [List.length_cons]; omega
  have sz := ok.1 r.r2 h2.1 (by omega)
  obtain ⟨z, hz⟩ := Int.eq_ofNat_of_zero_le (show 0 ≤ S.sz r.r2 by omega)
  have t1 := rx.2.1 (Or.inl h0.2)
  have t2 := rx.2.2.1 (Or.inl h0.2)
  have t3 := rx.2.2.2 (Or.inl h0.2)
  have rows : ∀ (fu a : Nat) (M' : Mem), a ≤ 81 → FP9 L.length M M' → BI S r f L.length n a M' → pw (mX9_bind_36 fu 126 k ((3 ^ n : Nat) : Int) (z : Int) (81 * (L.length : Int)) (a : Int) M') (fun q => QR S ps t φ (bindT S r f :: L) M q.2) := by
    intro fu
    induction fu with
    | zero => intro a M' _ _ _; exact p_none
    | succ fu ih =>
      intro a M' ha fr bi
      show pw (bX9_bind_36 (mX9_bind_36 fu) 126 k ((3 ^ n : Nat) : Int) (z : Int) (81 * (L.length : Int)) (a : Int) M') _
      have hm : RM S ps t φ M' := h.kp fr.fm
      have e160 : mG M' 126 45 = 160 := hm.1.2.2.2.2.2.2.2.2.2.2.1
      unfold bX9_bind_36
      refine p_if (fun c => p_ret ?_) (fun c => ?_)
      · refine ⟨hm, ⟨fun y hy => ?_, hd.2.kp (fun j hj => fr 160 j (by omega))⟩, ((fr 126 46 (fun w => absurd w.1 (by decide))).trans ht).trans lc.symm, fr.fm⟩
        show mG M' 160 _ = _
        have := Nat.sub_le y (dg y n * 3 ^ n)
        rw [bi y hy, if_pos (by unfold zz; omega)]
      have a81 : a < 81 := by omega
      have dl : a / 3 ^ n ≤ a := Nat.div_le_self _ _
      refine p_dQc (quoN (by omega) p3.1 (by omega)) (p_dMc (rem3 (by omega)) (p_if (fun c2 => ?_) (fun c2 => ?_)))
      · have d0 : dg a n = 0 := by
          unfold dg
          omega
        have wr : ∀ v : Int, v = b2i (bindT S r f (envOf a)) → pw (mX9_bind_192 (mX9_bind_36 fu) 126 k ((3 ^ n : Nat) : Int) (z : Int) (81 * (L.length : Int)) (a : Int) v M') (fun q => QR S ps t φ (bindT S r f :: L) M q.2) := fun v hv => by
          have loop : ∀ (fu2 x : Nat) (M2 : Mem), x ≤ 3 → FP9 L.length M M2 → (∀ y : Nat, y < 81 → mG M2 160 (81 * (L.length : Int) + (y : Int)) = b2i (if zz y n < a ∨ (zz y n = a ∧ dg y n < x) then bindT S r f (envOf y) else f (envOf y))) → pw (mX9_bind_197 (mX9_bind_36 fu) fu2 126 k ((3 ^ n : Nat) : Int) (z : Int) (81 * (L.length : Int)) (a : Int) v (x : Int) M2) (fun q => QR S ps t φ (bindT S r f :: L) M q.2) := by
            intro fu2
            induction fu2 with
            | zero => intro x M2 _ _ _; exact p_none
            | succ fu2 ih2 =>
              intro x M2 hx fr2 bi2
              show pw (bX9_bind_197 (mX9_bind_36 fu) (mX9_bind_197 (mX9_bind_36 fu) fu2) 126 k ((3 ^ n : Nat) : Int) (z : Int) (81 * (L.length : Int)) (a : Int) v (x : Int) M2) _
              unfold bX9_bind_197
              refine p_if (fun c3 => ?_) (fun c3 => ?_)
              · unfold mX9_bind_226
                rw [wI_s (p := a) (by omega)]
                refine ih (a + 1) M2 (by omega) fr2 (fun y hy => ?_)
                have := dg_b y n
                rw [bi2 y hy]
                by_cases g : zz y n < a + 1
                · rw [if_pos g, if_pos (by omega)]
                · rw [if_neg g, if_neg (by omega)]
              · have x3 : x < 3 := by omega
                have al := ad_lt a a81 n n4 x x3 d0
                have az := ad_zz a a81 n n4 x x3 d0
                have ad := ad_dg a a81 n n4 x x3 d0 n n4
                rw [if_pos rfl] at ad
                have xw : (x : Int) * ((3 ^ n : Nat) : Int) = ((x * 3 ^ n : Nat) : Int) := by rw [Int.natCast_mul]
                refine p_gFc (ji := 45) rfl ((fr2 126 45 (fun w => absurd w.1 (by decide))).trans h.1.2.2.2.2.2.2.2.2.2.2.1) (p_aSZ (fun M3 h3 => ?_))
                rw [xw, wI_id (x := 81 * (L.length : Int) + (a : Int)) (by omega) (by omega), wI_id (x := ((x * 3 ^ n : Nat) : Int)) (by omega) (by omega), wI_id (x := 81 * (L.length : Int) + (a : Int) + ((x * 3 ^ n : Nat) : Int)) (by omega) (by omega)] at h3
                rw [wI_s (p := x) (by omega)]
                refine ih2 (x + 1) M3 (by omega) (fun c j w => (st_ne h3 (fun u => w ⟨u.1, by omega⟩)).trans (fr2 c j w)) (fun y hy => ?_)
                by_cases e : y = a + x * 3 ^ n
                · have e2 : 81 * (L.length : Int) + (y : Int) = 81 * (L.length : Int) + (a : Int) + ((x * 3 ^ n : Nat) : Int) := by omega
                  rw [e2, st_eq h3, hv, e, az, ad, if_pos (Or.inr ⟨rfl, by omega⟩), bindT_zz (y := a + x * 3 ^ n) al n4 hn, az]
                · rw [st_ne h3 (fun u => e (by have := u.2; omega)), bi2 y hy]
                  have ys := zz_s y hy n n4
                  have ne : ¬ (zz y n = a ∧ dg y n = x) := fun u => e (by rw [u.1, u.2] at ys; exact ys)
                  by_cases g : zz y n < a ∨ (zz y n = a ∧ dg y n < x)
                  · rw [if_pos g, if_pos (by omega)]
                  · rw [if_neg g, if_neg (by omega)]
          refine loop FU 0 M' (by omega) fr (fun y hy => ?_)
          rw [bi y hy]
          by_cases g : zz y n < a
          · rw [if_pos g, if_pos (Or.inl g)]
          · rw [if_neg g, if_neg (by omega)]
        have cs : ∀ j : Nat, cnt (fun x => f (evu (envOf a) r.r1 x)) (j + 1) = cnt (fun x => f (evu (envOf a) r.r1 x)) j + (if f (evu (envOf a) r.r1 (j : Int)) = true then 1 else 0) := fun j => rfl
        have cb : ∀ j : Nat, 0 ≤ cnt (fun x => f (evu (envOf a) r.r1 x)) j ∧ cnt (fun x => f (evu (envOf a) r.r1 x)) j ≤ (j : Int) := fun j => cnt_b _ j
        have count : ∀ (fu2 j : Nat), j ≤ z → pw (mX9_bind_61 (mX9_bind_36 fu) fu2 126 k ((3 ^ n : Nat) : Int) (z : Int) (81 * (L.length : Int)) (a : Int) (cnt (fun x => f (evu (envOf a) r.r1 x)) j) (j : Int) M') (fun q => QR S ps t φ (bindT S r f :: L) M q.2) := by
          intro fu2
          induction fu2 with
          | zero => intro j _; exact p_none
          | succ fu2 ih2 =>
            intro j hj
            have cb := cb j
            have cs := cs j
            show pw (bX9_bind_61 (mX9_bind_36 fu) (mX9_bind_61 (mX9_bind_36 fu) fu2) 126 k ((3 ^ n : Nat) : Int) (z : Int) (81 * (L.length : Int)) (a : Int) (cnt (fun x => f (evu (envOf a) r.r1 x)) j) (j : Int) M') _
            unfold bX9_bind_61
            refine p_if (fun c3 => ?_) (fun c3 => ?_)
            · have jz : j = z := by omega
              subst jz
              have bt : bindT S r f (envOf a) = if r.r0 = 0 then decide (cnt (fun x => f (evu (envOf a) r.r1 x)) j = (j : Int)) else if r.r0 = 1 then decide (0 < cnt (fun x => f (evu (envOf a) r.r1 x)) j) else if r.r0 = 2 then decide (r.r3 ≤ cnt (fun x => f (evu (envOf a) r.r1 x)) j) else decide (cnt (fun x => f (evu (envOf a) r.r1 x)) j ≤ r.r3) := by
                unfold bindT
                dsimp only
                rw [hz, Int.toNat_natCast]
              have x0 : mG M' 142 k = r.r0 := (fr 142 k (fun w => absurd w.1 (by decide))).trans rx.1
              have x3 : mG M' 145 k = r.r3 := (fr 145 k (fun w => absurd w.1 (by decide))).trans t3
              refine p_gFc (ji := 16) rfl hm.1.2.2.2.1 (p_aGc x0 (p_if (fun b0 => ?_) (fun b0 => ?_)))
              · rw [if_pos b0] at bt
                exact p_if (fun g => wr 1 (by rw [bt, decide_eq_true g]; rfl)) (fun g => wr 0 (by rw [bt, decide_eq_false g]; rfl))
              rw [if_neg b0] at bt
              refine p_gFc (ji := 16) rfl hm.1.2.2.2.1 (p_aGc x0 (p_if (fun b1 => ?_) (fun b1 => ?_)))
              · rw [if_pos b1] at bt
                exact p_if (fun g => wr 0 (by rw [bt, decide_eq_false (by omega)]; rfl)) (fun g => wr 1 (by rw [bt, decide_eq_true (by omega)]; rfl))
              rw [if_neg b1] at bt
              refine p_gFc (ji := 16) rfl hm.1.2.2.2.1 (p_aGc x0 (p_if (fun b2 => ?_) (fun b2 => ?_)))
              · rw [if_pos b2] at bt
                exact p_gFc (ji := 19) rfl hm.1.2.2.2.2.2.2.1 (p_aGc x3 (p_if (fun g => wr 0 (by rw [bt, decide_eq_false (by omega)]; rfl)) (fun g => wr 1 (by rw [bt, decide_eq_true (by omega)]; rfl))))
              · rw [if_neg b2] at bt
                exact p_gFc (ji := 19) rfl hm.1.2.2.2.2.2.2.1 (p_aGc x3 (p_if (fun g => wr 0 (by rw [bt, decide_eq_false (by omega)]; rfl)) (fun g => wr 1 (by rw [bt, decide_eq_true (by omega)]; rfl))))
            · have j3 : j < 3 := by omega
              have al := ad_lt a a81 n n4 j j3 d0
              have az := ad_zz a a81 n n4 j j3 d0
              have xw : (j : Int) * ((3 ^ n : Nat) : Int) = ((j * 3 ^ n : Nat) : Int) := by rw [Int.natCast_mul]
              have v := bi (a + j * 3 ^ n) al
              rw [az, if_neg (Nat.lt_irrefl a), env_add a81 n4 j3 d0, ← hn] at v
              refine p_gFc (ji := 45) rfl e160 ?_
              rw [xw, wI_id (x := 81 * (L.length : Int) + (a : Int)) (by omega) (by omega), wI_id (x := ((j * 3 ^ n : Nat) : Int)) (by omega) (by omega), wI_id (x := 81 * (L.length : Int) + (a : Int) + ((j * 3 ^ n : Nat) : Int)) (by omega) (by omega), show 81 * (L.length : Int) + (a : Int) + ((j * 3 ^ n : Nat) : Int) = 81 * (L.length : Int) + ((a + j * 3 ^ n : Nat) : Int) by omega]
              refine p_aGc v (p_if (fun g => ?_) (fun g => ?_))
              · rw [b2i_0.mp g, if_neg (by decide)] at cs
                unfold mX9_bind_92
                rw [wI_s (p := j) (by omega), wI_id (x := cnt (fun x => f (evu (envOf a) r.r1 x)) j + 0) (by omega) (by omega), ← cs]
                exact ih2 (j + 1) (by omega)
              · have ft : f (evu (envOf a) r.r1 (j : Int)) = true := by
                  cases hb : f (evu (envOf a) r.r1 (j : Int)) with
                  | true => rfl
                  | false => exact absurd (b2i_0.mpr hb) g
                rw [ft, if_pos rfl] at cs
                unfold mX9_bind_92
                rw [wI_s (p := j) (by omega), wI_id (x := cnt (fun x => f (evu (envOf a) r.r1 x)) j + 1) (by omega) (by omega), ← cs]
                exact ih2 (j + 1) (by omega)
        exact count FU 0 (by omega)
      · unfold mX9_bind_226
        rw [wI_s (p := a) (by omega)]
        refine ih (a + 1) M' (by omega) fr (fun y hy => ?_)
        have ne : ¬ zz y n = a := fun w => by
          have := zz_0 y hy n n4
          rw [w] at this
          unfold dg at this
          omega
        rw [bi y hy]
        by_cases g : zz y n < a
        · rw [if_pos g, if_pos (by omega)]
        · rw [if_neg g, if_neg (by omega)]
  unfold mX9_bind
  refine p_gFc (ji := 17) rfl h.1.2.2.2.2.1 (p_aGc (t1.trans hn) (p_call (w_unit n4) (fun u m y => ?_)))
  obtain ⟨e, y⟩ := y
  replace e : m = M := e
  replace y : u = ((3 ^ n : Nat) : Int) := y
  subst e; subst y
  refine p_gFc (ji := 26) rfl h.1.2.2.2.2.2.2.2.1 (p_gFc (ji := 18) rfl h.1.2.2.2.2.2.1 (p_aGc t2 (p_aGc ((h.2.1 r.r2 h2.1 (by omega)).trans hz) (p_gFc (ji := 46) rfl ht ?_))))
  rw [wI_id (x := (L.length : Int) + 1 - 1) (by omega) (by omega), wI_id (x := 81 * ((L.length : Int) + 1 - 1)) (by omega) (by omega), show 81 * ((L.length : Int) + 1 - 1) = 81 * (L.length : Int) by omega]
  refine rows FU 0 m (by omega) (fun _ _ _ => rfl) (fun y hy => ?_)
  rw [if_neg (by omega)]
  exact hd.1 y hy
end
end
section
/-! ===== the reference's judge: joints, a whole text ===== -/
section
variable {S : SH} {ps : List Row} {t : Int} {φ : Int → Bool} {M : Mem} {L : List ((Int → Int) → Bool)} {r : Row} {k : Int}
def NI (f : (Int → Int) → Bool) (g : (Int → Int) → Bool) (len a : Nat) (M : Mem) : Prop := ∀ y : Nat, y < 81 → mG M 160 (81 * (len : Int) + (y : Int)) = b2i (if y < a then g (envOf y) else f (envOf y))
theorem NI.st {f g : (Int → Int) → Bool} {len a : Nat} {M M' : Mem} {v : Int} (h : NI f g len a M) (hv : v = b2i (g (envOf a))) (hM : M' = mS M 160 (81 * (len : Int) + (a : Int)) v) : NI f g len (a + 1) M' := fun y hy => by
  by_cases e : y = a
  · rw [e, st_eq hM, hv, if_pos (by omega)]
  · rw [st_ne hM (fun u => e (by have := u.2; omega)), h y hy]
    by_cases c : y < a
    · rw [if_pos c, if_pos (by omega)]
    · rw [if_neg c, if_neg (by omega)]
theorem w_not {f : (Int → Int) → Bool} (h : RM S ps t φ M) (hd : RDl (f :: L) M) (hl : L.length ≤ 40) (rx : RX r k M) (h0 : r.r0 = 4) (ht : mG M 126 46 = (L.length : Int) + 1) : pw (mX9_join 126 k M) (fun q => QR S ps t φ ((fun e => !f e) :: L) M q.2) := by
  have lc : (((fun e => !f e) :: L).length : Int) = (L.length : Int) + 1 := by rw [List.length_cons]; omega
  have loop : ∀ (fu a : Nat) (M' : Mem), a ≤ 81 → FP9 L.length M M' → NI f (fun e => !f e) L.length a M' → pw (mX9_join_25 fu 126 (81 * (L.length : Int)) (a : Int) M') (fun q => QR S ps t φ ((fun e => !f e) :: L) M q.2) := by
    intro fu
    induction fu with
    | zero => intro a M' _ _ _; exact p_none
    | succ fu ih =>
      intro a M' ha fr ni
      show pw (bX9_join_25 (mX9_join_25 fu) 126 (81 * (L.length : Int)) (a : Int) M') _
      have hm : RM S ps t φ M' := h.kp fr.fm
      have e160 : mG M' 126 45 = 160 := hm.1.2.2.2.2.2.2.2.2.2.2.1
      unfold bX9_join_25
      refine p_if (fun c => p_ret ?_) (fun c => ?_)
      · refine ⟨hm, ⟨fun y hy => ?_, hd.2.kp (fun j hj => fr 160 j (by omega))⟩, ((fr 126 46 (fun w => absurd w.1 (by decide))).trans ht).trans lc.symm, fr.fm⟩
        show mG M' 160 _ = _
        rw [ni y hy, if_pos (by omega)]
      have v := ni a (by omega)
      rw [if_neg (Nat.lt_irrefl a)] at v
      have wa := wI_id (x := 81 * (L.length : Int) + (a : Int)) (by omega) (by omega)
      have wr : ∀ x : Int, x = b2i (!f (envOf a)) → pw (mX9_join_57 (mX9_join_25 fu) 126 (81 * (L.length : Int)) (a : Int) 160 (81 * (L.length : Int) + (a : Int)) x M') (fun q => QR S ps t φ ((fun e => !f e) :: L) M q.2) := fun x hx => by
        unfold mX9_join_57
        refine p_aSZ (fun M3 h3 => ?_)
        rw [wI_s (p := a) (by omega)]
        exact ih (a + 1) M3 (by omega) (fun c j w => (st_ne h3 (fun u => w ⟨u.1, by omega⟩)).trans (fr c j w)) (ni.st hx h3)
      refine p_gFc (ji := 45) rfl e160 (p_gFc (ji := 45) rfl e160 ?_)
      rw [wa]
      refine p_aGc v (p_if (fun z => wr 1 ?_) (fun z => wr 0 ?_))
      · rw [b2i_0.mp z]; rfl
      · cases hb : f (envOf a) with
        | true => rfl
        | false => exact absurd (b2i_0.mpr hb) z
  unfold mX9_join
  refine p_gFc (ji := 16) rfl h.1.2.2.2.1 (p_aGc (rx.1.trans h0) (p_gFc (ji := 46) rfl ht (p_some (fun b hb => p_it1 rfl ?_))))
  rw [wI_id (x := (L.length : Int) + 1 - 1) (by omega) (by omega), wI_id (x := 81 * ((L.length : Int) + 1 - 1)) (by omega) (by omega), show 81 * ((L.length : Int) + 1 - 1) = 81 * (L.length : Int) by omega] at hb
  subst hb
  refine loop FU 0 M (by omega) (fun _ _ _ => rfl) (fun y hy => ?_)
  rw [if_neg (by omega)]
  exact hd.1 y hy
theorem w_join {f g : (Int → Int) → Bool} (h : RM S ps t φ M) (hd : RDl (f :: g :: L) M) (hl : L.length ≤ 40) (rx : RX r k M) (h0 : 5 ≤ r.r0 ∧ r.r0 ≤ 7) (ht : mG M 126 46 = (L.length : Int) + 2) : pw (mX9_join 126 k M) (fun q => QR S ps t φ ((fun e => joinT r.r0 (f e) (g e)) :: L) M q.2) := by
  have lc : (((fun e => joinT r.r0 (f e) (g e)) :: L).length : Int) = (L.length : Int) + 1 := by rw [List.length_cons]; omega
  have lg : ((g :: L).length : Int) = (L.length : Int) + 1 := by rw [List.length_cons]; omega
  have hf := hd.1
  rw [lg] at hf
  have loop : ∀ (fu a : Nat) (M' : Mem), a ≤ 81 → (∀ c j : Int, ¬ (c = 126 ∧ j = 46) → ¬ (c = 160 ∧ 81 * (L.length : Int) ≤ j ∧ j < 81 * (L.length : Int) + 81) → mG M' c j = mG M c j) → mG M' 126 46 = (L.length : Int) + 1 → NI g (fun e => joinT r.r0 (f e) (g e)) L.length a M' → pw (mX9_join_78 fu 126 r.r0 (81 * ((L.length : Int) + 1)) (a : Int) M') (fun q => QR S ps t φ ((fun e => joinT r.r0 (f e) (g e)) :: L) M q.2) := by
    intro fu
    induction fu with
    | zero => intro a M' _ _ _ _; exact p_none
    | succ fu ih =>
      intro a M' ha fr t46 ni
      show pw (bX9_join_78 (mX9_join_78 fu) 126 r.r0 (81 * ((L.length : Int) + 1)) (a : Int) M') _
      have fm : FM M M' := fun c j x y _ => fr c j x (fun w => y w.1)
      have hm : RM S ps t φ M' := h.kp fm
      have e160 : mG M' 126 45 = 160 := hm.1.2.2.2.2.2.2.2.2.2.2.1
      unfold bX9_join_78
      refine p_if (fun c => p_ret ?_) (fun c => ?_)
      · refine ⟨hm, ⟨fun y hy => ?_, hd.2.2.kp (fun j hj => fr 160 j (fun w => absurd w.1 (by decide)) (by omega))⟩, t46.trans lc.symm, fm⟩
        show mG M' 160 _ = _
        rw [ni y hy, if_pos (by omega)]
      have a81 : a < 81 := by omega
      have w1 := wI_id (x := 81 * ((L.length : Int) + 1) + (a : Int)) (by omega) (by omega)
      have w2 := wI_id (x := 81 * ((L.length : Int) + 1) - 81) (by omega) (by omega)
      have w3 := wI_id (x := 81 * ((L.length : Int) + 1) - 81 + (a : Int)) (by omega) (by omega)
      have w4 : ¬ ((160 : Int) = 126 ∧ 81 * ((L.length : Int) + 1) + (a : Int) = 46) := fun w => absurd w.1 (by decide)
      have w5 : ¬ ((160 : Int) = 160 ∧ 81 * (L.length : Int) ≤ 81 * ((L.length : Int) + 1) + (a : Int) ∧ 81 * ((L.length : Int) + 1) + (a : Int) < 81 * (L.length : Int) + 81) := by omega
      have v : ∀ _ : Unit, mG M' 160 (81 * (L.length : Int) + (a : Int)) = b2i (g (envOf a)) := fun _ => (ni a a81).trans (by rw [if_neg (Nat.lt_irrefl a)])
      have u : ∀ _ : Unit, mG M' 160 (81 * ((L.length : Int) + 1) + (a : Int)) = b2i (f (envOf a)) := fun _ => (fr 160 _ w4 w5).trans (hf a a81)
      rw [w1, w2, w3, show 81 * ((L.length : Int) + 1) - 81 + (a : Int) = 81 * (L.length : Int) + (a : Int) by omega]
      have wr : ∀ x : Int, x = b2i (joinT r.r0 (f (envOf a)) (g (envOf a))) → pw (mX9_join_183 (mX9_join_78 fu) 126 r.r0 (81 * ((L.length : Int) + 1)) (a : Int) 160 (81 * (L.length : Int) + (a : Int)) x M') (fun q => QR S ps t φ ((fun e => joinT r.r0 (f e) (g e)) :: L) M q.2) := fun x hx => by
        unfold mX9_join_183
        refine p_aSZ (fun M3 h3 => ?_)
        rw [wI_s (p := a) (by omega)]
        exact ih (a + 1) M3 (by omega) (fun c j x y => (st_ne h3 (fun u => y ⟨u.1, by omega, by omega⟩)).trans (fr c j x y)) ((st_ne h3 (fun w => absurd w.1 (by decide))).trans t46) (ni.st hx h3)
      have ff : ∀ {b : Bool}, ¬ b2i b = 0 → b = true := fun {b} z => by
        cases b with
        | true => rfl
        | false => exact absurd rfl z
      refine p_gFc (ji := 45) rfl e160 (p_aGc (u ()) (p_gFc (ji := 45) rfl e160 (p_aGc (v ()) (p_gFc (ji := 45) rfl e160 ?_))))
      refine p_if (fun c5 => ?_) (fun c5 => p_if (fun c6 => ?_) (fun c6 => ?_))
      · have jt : ∀ p q : Bool, joinT r.r0 p q = (p && q) := fun p q => if_pos c5
        rw [jt] at wr
        refine p_if (fun z1 => ?_) (fun z1 => p_if (fun z2 => ?_) (fun z2 => ?_))
        · exact wr 0 (by rw [b2i_0.mp z1]; rfl)
        · exact wr 0 (by rw [b2i_0.mp z2, Bool.and_false]; rfl)
        · exact wr 1 (by rw [ff z1, ff z2]; rfl)
      · have jt : ∀ p q : Bool, joinT r.r0 p q = (p || q) := fun p q => by unfold joinT; rw [if_neg c5, if_pos c6]
        rw [jt] at wr
        refine p_if (fun z1 => p_if (fun z2 => ?_) (fun z2 => ?_)) (fun z1 => ?_)
        · exact wr 0 (by rw [b2i_0.mp z1, b2i_0.mp z2]; rfl)
        · exact wr 1 (by rw [ff z2, Bool.or_true]; rfl)
        · exact wr 1 (by rw [ff z1]; rfl)
      · have jt : ∀ p q : Bool, joinT r.r0 p q = (!p || q) := fun p q => by unfold joinT; rw [if_neg c5, if_neg c6]
        rw [jt] at wr
        refine p_if (fun z1 => ?_) (fun z1 => p_if (fun z2 => ?_) (fun z2 => ?_))
        · exact wr 1 (by rw [b2i_0.mp z1]; rfl)
        · exact wr 0 (by rw [ff z1, b2i_0.mp z2]; rfl)
        · exact wr 1 (by rw [ff z2, Bool.or_true]; rfl)
  unfold mX9_join
  refine p_gFc (ji := 16) rfl h.1.2.2.2.1 (p_aGc rx.1 (p_gFc (ji := 46) rfl ht (p_some (fun b hb => p_it0 (by omega) ?_))))
  rw [wI_id (x := (L.length : Int) + 2 - 1) (by omega) (by omega), wI_id (x := 81 * ((L.length : Int) + 2 - 1)) (by omega) (by omega), show 81 * ((L.length : Int) + 2 - 1) = 81 * ((L.length : Int) + 1) by omega] at hb
  subst hb
  refine p_gFc (ji := 46) rfl ht (p_pF (ji := 46) rfl (fun M1 h1 => ?_))
  rw [wI_id (x := (L.length : Int) + 2 - 1) (by omega) (by omega), show (L.length : Int) + 2 - 1 = (L.length : Int) + 1 by omega] at h1
  refine loop FU 0 M1 (by omega) (fun c j x _ => st_ne h1 x) (st_eq h1) (fun y hy => ?_)
  rw [if_neg (by omega), st_ne h1 (fun w => absurd w.1 (by decide))]
  exact hd.2.1 y hy
/-! a whole text -/
theorem ty_at {nr : Int} {k1 k2 : Int → Int} : ∀ (p : Nat) (ps : List Row) (ws : List (Int × Int)), ty nr k1 k2 ws ps → ∃ ws2, ty nr k1 k2 ws2 (ps.drop p) := by
  intro p
  induction p with
  | zero => intro ps ws h; exact ⟨ws, h⟩
  | succ p ih =>
    intro ps ws h
    cases ps with
    | nil => exact ⟨ws, h⟩
    | cons r rs =>
      cases ws with
      | nil => exact absurd h id
      | cons x ws => exact ih rs _ h.2
theorem sm_le {A : Int → Int → Int → Bool} : ∀ rs : List Row, (sm S A rs).length ≤ rs.length := by
  intro rs
  induction rs with
  | nil => exact Nat.le_refl 0
  | cons r rs ih =>
    show (stp S A r (sm S A rs)).length ≤ rs.length + 1
    unfold stp
    split
    · split
      · rename_i e; rw [e] at ih; exact Nat.le_succ_of_le ih
      · exact Nat.zero_le _
    · split
      · split
        · rename_i e; rw [e] at ih; exact Nat.le_succ_of_le ih
        · exact Nat.zero_le _
      · split
        · split
          · rename_i e; rw [e] at ih; simp only [List.length_cons] at ih ⊢; omega
          · exact Nat.zero_le _
        · simp only [List.length_cons]; omega
theorem w_step {x : Int × Int} {rs : List Row} {ws : List (Int × Int)} (ok : S.ok) (h : RM S ps t φ M) (rx : RX r k M) (hrow : rowOK S.nr S.k1 S.k2 x.1 x.2 r) (hl : rs.length < 40) (hty : ty S.nr S.k1 S.k2 (kids r x ++ ws) rs) (hd : RDl (sm S (S.fa φ) rs) M) (ht : mG M 126 46 = ((sm S (S.fa φ) rs).length : Int)) {Q : Int × Mem → Prop} {K : Mem → Option (Int × Mem)} (fin : ∀ m, QR S ps t φ (sm S (S.fa φ) (r :: rs)) M m → pw (K m) Q) : pw (if r.r0 < 8 then (gF 9 16 M 126).bind fun a49 => (aG 10 M a49 k).bind fun a54 => if 3 < a54 then (gK 9 M 126).bind fun _ => (mX9_join 126 k M).bind fun q71 => K q71.2 else (gK 9 M 126).bind fun _ => (mX9_bind 126 k M).bind fun q62 => K q62.2 else (gK 9 M 126).bind fun _ => (mX9_leaf 126 k M).bind fun q42 => K q42.2) Q := by
  have sl := sm_le (S := S) (A := S.fa φ) rs
  have sn := sm_len (S := S) (A := S.fa φ) rs _ hty
  rw [List.length_append, kids_len] at sn
  have fin' : ∀ L, stp S (S.fa φ) r (sm S (S.fa φ) rs) = L → ∀ m, QR S ps t φ L M m → pw (K m) Q := fun L e m q => fin m (by show QR S ps t φ (stp S (S.fa φ) r (sm S (S.fa φ) rs)) M m; rw [e]; exact q)
  have er : r.c0 ≤ 7 → r.r0 = r.c0 ∧ 0 ≤ r.c0 := fun y => by
    unfold rowOK at hrow
    omega
  have er8 : 8 ≤ r.c0 → 8 ≤ r.r0 := fun y => by
    unfold rowOK at hrow
    omega
  refine p_if (fun c => ?_) (fun c => ?_)
  · have c7 : r.c0 ≤ 7 := by
      by_cases z : r.c0 ≤ 7
      · exact z
      · have := er8 (by omega); omega
    obtain ⟨e0, p0⟩ := er c7
    refine p_gFc (ji := 16) rfl h.1.2.2.2.1 (p_aGc rx.1 (p_if (fun c3 => p_gK ?_) (fun c3 => p_gK ?_)))
    · by_cases c4 : r.r0 = 4
      · have ar : ari r.c0 = 1 := by unfold ari; rw [if_pos (by omega)]
        cases hs : sm S (S.fa φ) rs with
        | nil => rw [hs] at sn; simp only [List.length_nil] at sn; omega
        | cons f L =>
          rw [hs] at hd ht sl
          have hln : ((f :: L).length : Int) = (L.length : Int) + 1 := by rw [List.length_cons]; omega
          rw [List.length_cons] at sl
          refine p_call (w_not (L := L) h hd (by omega) rx c4 (ht.trans hln)) (fun v m y => fin' _ ?_ m y)
          rw [hs]; unfold stp; rw [if_neg (by omega), if_pos (by omega)]
      · have ar : ari r.c0 = 2 := by unfold ari; rw [if_neg (by omega), if_pos (by omega)]
        cases hs : sm S (S.fa φ) rs with
        | nil => rw [hs] at sn; simp only [List.length_nil] at sn; omega
        | cons f L =>
          cases L with
          | nil => rw [hs] at sn; simp only [List.length_cons, List.length_nil] at sn; omega
          | cons g L =>
            rw [hs] at hd ht sl
            have hln : ((f :: g :: L).length : Int) = (L.length : Int) + 2 := by rw [List.length_cons, List.length_cons]; omega
            rw [List.length_cons, List.length_cons] at sl
            refine p_call (w_join (L := L) h hd (by omega) rx (by omega) (ht.trans hln)) (fun v m y => fin' _ ?_ m y)
            rw [hs]; unfold stp; rw [if_neg (by omega), if_neg (by omega), if_pos (by omega), e0]
    · have ar : ari r.c0 = 1 := by unfold ari; rw [if_pos (by omega)]
      have hb : (0 ≤ r.r1 ∧ r.r1 ≤ 3) ∧ (0 ≤ r.r2 ∧ r.r2 ≤ 2) := by
        unfold rowOK at hrow
        omega
      cases hs : sm S (S.fa φ) rs with
      | nil => rw [hs] at sn; simp only [List.length_nil] at sn; omega
      | cons f L =>
        rw [hs] at hd ht sl
        have hln : ((f :: L).length : Int) = (L.length : Int) + 1 := by rw [List.length_cons]; omega
        rw [List.length_cons] at sl
        refine p_call (w_binder (L := L) ok h hd (by omega) rx (by omega) hb.1 hb.2 (ht.trans hln)) (fun v m y => fin' _ ?_ m y)
        rw [hs]; unfold stp; rw [if_pos (by omega)]
  · have c8 : 8 ≤ r.c0 := by
      by_cases z : r.c0 ≤ 7
      · have := er z; omega
      · omega
    refine p_gK (p_call (w_leaf ok h hd (by omega) rx (hrow.lr c8) ht) (fun v m y => fin' _ ?_ m y))
    unfold stp
    rw [if_neg (by omega), if_neg (by omega), if_neg (by omega)]
theorem w_work14 (ok : S.ok) (ht : 0 ≤ t ∧ t < 36) (hl : ps.length ≤ 40) {ws : List (Int × Int)} (hty : ty S.nr S.k1 S.k2 ws ps) {f : Nat} : ∀ (fu p : Nat) (M' : Mem), f ≤ p → p ≤ ps.length → QR S ps t φ (sm S (S.fa φ) (ps.drop p)) M M' → pw (mX9_work_14 fu 126 t (f : Int) ((p : Int) - 1) M') (fun q => QR S ps t φ (sm S (S.fa φ) (ps.drop f)) M q.2) := by
  intro fu
  induction fu with
  | zero => intro p M' _ _ _; exact p_none
  | succ fu ih =>
    intro p M' hp hp2 qr
    show pw (bX9_work_14 (mX9_work_14 fu) 126 t (f : Int) ((p : Int) - 1) M') _
    unfold bX9_work_14
    obtain ⟨q1, q2, q3, q4⟩ := qr
    refine p_if (fun c => p_ret ?_) (fun c => p_some (fun b hb => ?_))
    · have : p = f := by omega
      subst this
      exact ⟨q1, q2, q3, q4⟩
    · rw [wI_id (x := 40 * t) (by omega) (by omega), wI_id (x := 40 * t + ((p : Int) - 1)) (by omega) (by omega)] at hb
      subst hb
      obtain ⟨r, hr, hdr⟩ := getE (ps := ps) (k := p - 1) (by omega)
      rw [show p - 1 + 1 = p by omega] at hdr
      have rx := q1.2.2.2.2.2 (p - 1) r hr
      rw [show 40 * t + ((p - 1 : Nat) : Int) = 40 * t + ((p : Int) - 1) by omega] at rx
      obtain ⟨ws2, ht2⟩ := ty_at (p - 1) ps ws hty
      rw [hdr] at ht2
      cases ws2 with
      | nil => exact absurd ht2 id
      | cons x ws2 =>
        have ln : (ps.drop p).length < 40 := by rw [List.length_drop]; omega
        refine p_gFc (ji := 16) rfl q1.1.2.2.2.1 (p_aGc rx.1 ?_)
        refine w_step (K := mX9_work_74 (mX9_work_14 fu) 126 t (f : Int) ((p : Int) - 1)) ok q1 rx ht2.1 ln ht2.2 q2 q3 (fun m y => ?_)
        unfold mX9_work_74
        rw [wI_id (x := (p : Int) - 1 + (-1)) (by omega) (by omega), show (p : Int) - 1 + (-1) = ((p - 1 : Nat) : Int) - 1 by omega]
        refine ih (p - 1) m (by omega) (by omega) ?_
        rw [hdr]
        exact ⟨y.1, y.2.1, y.2.2.1, q4.tr y.2.2.2⟩
theorem w_work (ok : S.ok) (h : RM S ps t φ M) (ht : 0 ≤ t ∧ t < 36) (hl : ps.length ≤ 40) {ws : List (Int × Int)} (hty : ty S.nr S.k1 S.k2 ws ps) {f : Nat} (hf : f ≤ ps.length) : pw (mX9_work 126 t (f : Int) M) (fun q => QR S ps t φ (sm S (S.fa φ) (ps.drop f)) M q.2) := by
  unfold mX9_work
  refine p_pF (ji := 46) rfl (fun M1 h1 => ?_)
  have fm : FM M M1 := fun c j x _ _ => st_ne h1 x
  have hm := h.kp fm
  refine p_gFc (ji := 15) rfl hm.1.2.2.1 (p_aGc hm.2.2.2.2.1 ?_)
  rw [wI_id (x := (ps.length : Int) - 1) (by omega) (by omega)]
  refine w_work14 ok ht hl hty FU ps.length M1 hf (Nat.le_refl _) ?_
  rw [List.drop_length]
  exact ⟨hm, True.intro, st_eq h1, fm⟩
/-- what the text means, all variables' values first ones -/
theorem w_means (ok : S.ok) (h : RM S ps t φ M) (ht : 0 ≤ t ∧ t < 36) (hl : ps.length ≤ 40) {x : Int × Int} (hty : ty S.nr S.k1 S.k2 [x] ps) : pw (mX9_means 126 t M) (fun q => (RM S ps t φ q.2 ∧ FM M q.2) ∧ q.1 = b2i (hd (sm S (S.fa φ) ps) (envOf 0))) := by
  have sn := sm_len (S := S) (A := S.fa φ) ps _ hty
  unfold mX9_means
  refine p_gK (p_call (w_work (f := 0) ok h ht hl hty (Nat.zero_le _)) (fun v m y => ?_))
  obtain ⟨y1, y2, y3, y4⟩ := y
  rw [List.drop_zero] at y2
  cases hs : sm S (S.fa φ) ps with
  | nil => rw [hs] at sn; simp only [List.length_cons, List.length_nil] at sn; omega
  | cons f L =>
    rw [hs] at y2 sn
    have l0 : L.length = 0 := by simp only [List.length_cons, List.length_nil] at sn; omega
    have v0 := y2.1 0 (by decide)
    rw [l0] at v0
    refine p_gFc (ji := 45) rfl y1.1.2.2.2.2.2.2.2.2.2.2.1 (p_aGc v0 (p_zR (fun _ => p_ret ⟨⟨y1, y4⟩, rfl⟩)))
end
end
section
/-! ===== how many bits are set ===== -/
/-- the bits of a long, as a number -/
def U (x : Int) : Nat := (Int64.ofInt x).toBitVec.toNat
theorem U_lt (x : Int) : U x < 18446744073709551616 := (Int64.ofInt x).toBitVec.isLt
theorem lb_U (x : Int) (b : Nat) : lb x b = (U x).testBit b := rfl
theorem U_and (x y : Int) : U (land x y) = U x &&& U y := by
  unfold U land
  rw [Int64.ofInt_toInt, Int64.toBitVec_and, BitVec.toNat_and]
theorem U_add (x y : Int) : U (wL (x + y)) = (U x + U y) % 18446744073709551616 := by
  unfold U
  rw [ofInt_wL, Int64.ofInt_add, Int64.toBitVec_add, BitVec.toNat_add]
theorem U_sub (x y : Int) : U (wL (x - y)) = (18446744073709551616 - U y + U x) % 18446744073709551616 := by
  unfold U
  rw [ofInt_wL, Int64.ofInt_sub, Int64.toBitVec_sub, BitVec.toNat_sub]
theorem U_lus (x : Int) (n : Nat) (v : UInt64) (hv : ((Int32.ofInt (n : Int)).toInt64.toUInt64 &&& Int64.toUInt64 63) = v) (hn : v.toNat % 64 = n) : U (lus x (n : Int)) = U x >>> n := by
  unfold U lus
  rw [Int64.ofInt_toInt, hv]
  show ((Int64.ofInt x).toUInt64 >>> v).toNat = _
  rw [UInt64.toNat_shiftRight, hn]; rfl
theorem U_l2i (x : Int) : iand (l2i x) 127 = ((U x % 128 : Nat) : Int) := by
  unfold iand l2i
  rw [Int32.ofInt_toInt]
  have e : ((Int64.ofInt x).toInt32 &&& Int32.ofInt 127).toBitVec.toNat = U x % 128 := by
    rw [Int32.toBitVec_and, BitVec.toNat_and, Int64.toBitVec_toInt32, BitVec.signExtend_eq_setWidth_of_le _ (by decide), BitVec.toNat_setWidth]
    show (U x % 2 ^ 32) &&& (2 ^ 7 - 1) = _
    rw [Nat.and_two_pow_sub_one_eq_mod]
    omega
  rw [toInt_small _ (by rw [e]; omega), e]
def S8 (f : Nat → Nat) : Nat := f 0 + 256 * f 1 + 65536 * f 2 + 16777216 * f 3 + 4294967296 * f 4 + 1099511627776 * f 5 + 281474976710656 * f 6 + 72057594037927936 * f 7
def by8 (x k : Nat) : Nat := x / 2 ^ (8 * k) % 2 ^ 8
theorem le8 {P : Nat → Prop} (h : P 0 ∧ P 1 ∧ P 2 ∧ P 3 ∧ P 4 ∧ P 5 ∧ P 6 ∧ P 7) : ∀ k, k < 8 → P k := by
  intro k hk
  obtain ⟨h0, h1, h2, h3, h4, h5, h6, h7⟩ := h
  have : k = 0 ∨ k = 1 ∨ k = 2 ∨ k = 3 ∨ k = 4 ∨ k = 5 ∨ k = 6 ∨ k = 7 := by omega
  rcases this with e | e | e | e | e | e | e | e <;> subst e <;> assumption
theorem S8_by {x : Nat} (h : x < 18446744073709551616) : S8 (by8 x) = x := by
  unfold S8 by8
  simp only [Nat.mul_zero, Nat.reduceMul, Nat.reducePow, Nat.div_one]
  omega
theorem by_S8 {f : Nat → Nat} (h : ∀ k, k < 8 → f k < 256) : ∀ k, k < 8 → by8 (S8 f) k = f k := by
  have h0 := h 0 (by decide)
  have h1 := h 1 (by decide)
  have h2 := h 2 (by decide)
  have h3 := h 3 (by decide)
  have h4 := h 4 (by decide)
  have h5 := h 5 (by decide)
  have h6 := h 6 (by decide)
  have h7 := h 7 (by decide)
  unfold S8 by8
  refine le8 ?_
  simp only [Nat.mul_zero, Nat.reduceMul, Nat.reducePow, Nat.div_one]
  refine ⟨by omega, by omega, by omega, by omega, by omega, by omega, by omega, by omega⟩
theorem by_and (x m k : Nat) : by8 (x &&& m) k = by8 x k &&& by8 m k := by
  unfold by8; rw [Nat.and_div_two_pow, Nat.and_mod_two_pow]
theorem by_lt (x k : Nat) : by8 x k < 256 := Nat.mod_lt _ (by decide)
theorem S8_congr {f g : Nat → Nat} (h : ∀ k, k < 8 → f k = g k) : S8 f = S8 g := by
  unfold S8
  rw [h 0 (by decide), h 1 (by decide), h 2 (by decide), h 3 (by decide), h 4 (by decide), h 5 (by decide), h 6 (by decide), h 7 (by decide)]
theorem by_shr {x m k n : Nat} (hm : m < 2 ^ (8 - n)) : by8 (x >>> n) k &&& m = (by8 x k >>> n) &&& m := by
  refine Nat.eq_of_testBit_eq (fun i => ?_)
  unfold by8
  rw [Nat.testBit_and, Nat.testBit_and, Nat.testBit_shiftRight, Nat.testBit_mod_two_pow, Nat.testBit_mod_two_pow, Nat.testBit_div_two_pow, Nat.testBit_div_two_pow, Nat.testBit_shiftRight]
  by_cases h : i < 8 - n
  · rw [decide_eq_true (show i < 8 by omega), decide_eq_true (show n + i < 8 by omega), show n + (i + 8 * k) = n + i + 8 * k by omega]
  · rw [Nat.testBit_lt_two_pow (Nat.lt_of_lt_of_le hm (Nat.pow_le_pow_right (by decide) (show 8 - n ≤ i by omega)))]
    simp
def pcA (b : Nat) : Nat := b - ((b >>> 1) &&& 85)
def pcB (d : Nat) : Nat := (d &&& 51) + ((d >>> 2) &&& 51)
def pcC (e : Nat) : Nat := (e + e / 16) % 16
theorem pcA_b : ∀ b : Nat, b < 256 → (b >>> 1) &&& 85 ≤ b ∧ pcA b < 256 ∧ pcB (pcA b) / 16 ≤ 4 ∧ pcB (pcA b) % 16 ≤ 4 ∧ pcC (pcB (pcA b)) = (b.testBit 0).toNat + (b.testBit 1).toNat + (b.testBit 2).toNat + (b.testBit 3).toNat + (b.testBit 4).toNat + (b.testBit 5).toNat + (b.testBit 6).toNat + (b.testBit 7).toNat := by decide +kernel
theorem by_m1 : ∀ k, k < 8 → by8 6148914691236517205 k = 85 := by decide +kernel
theorem by_m2 : ∀ k, k < 8 → by8 3689348814741910323 k = 51 := by decide +kernel
theorem by_m4 : ∀ k, k < 8 → by8 1085102592571150095 k = 15 := by decide +kernel
theorem st_1 {x : Nat} (h : x < 18446744073709551616) : x - ((x >>> 1) &&& 6148914691236517205) = S8 (fun k => pcA (by8 x k)) ∧ (x >>> 1) &&& 6148914691236517205 ≤ x := by
  have hc : (x >>> 1) &&& 6148914691236517205 < 18446744073709551616 := Nat.lt_of_le_of_lt Nat.and_le_right (by decide)
  have e1 := S8_by hc
  have e2 : S8 (by8 ((x >>> 1) &&& 6148914691236517205)) = S8 (fun k => (by8 x k >>> 1) &&& 85) := S8_congr (fun k hk => by rw [by_and, by_m1 k hk, by_shr (by decide)])
  have e3 := S8_by h
  rw [e2] at e1
  have b : ∀ k, (by8 x k >>> 1) &&& 85 ≤ by8 x k := fun k => (pcA_b _ (by_lt x k)).1
  have b0 := b 0
  have b1 := b 1
  have b2 := b 2
  have b3 := b 3
  have b4 := b 4
  have b5 := b 5
  have b6 := b 6
  have b7 := b 7
  unfold S8 at e1 e3 ⊢
  unfold pcA
  dsimp only at e1 ⊢
  generalize (by8 x 0 >>> 1) &&& 85 = c0 at b0 e1 ⊢
  generalize (by8 x 1 >>> 1) &&& 85 = c1 at b1 e1 ⊢
  generalize (by8 x 2 >>> 1) &&& 85 = c2 at b2 e1 ⊢
  generalize (by8 x 3 >>> 1) &&& 85 = c3 at b3 e1 ⊢
  generalize (by8 x 4 >>> 1) &&& 85 = c4 at b4 e1 ⊢
  generalize (by8 x 5 >>> 1) &&& 85 = c5 at b5 e1 ⊢
  generalize (by8 x 6 >>> 1) &&& 85 = c6 at b6 e1 ⊢
  generalize (by8 x 7 >>> 1) &&& 85 = c7 at b7 e1 ⊢
  generalize (x >>> 1) &&& 6148914691236517205 = c at e1 ⊢
  obtain ⟨d0, h0⟩ := Nat.exists_eq_add_of_le b0
  obtain ⟨d1, h1⟩ := Nat.exists_eq_add_of_le b1
  obtain ⟨d2, h2⟩ := Nat.exists_eq_add_of_le b2
  obtain ⟨d3, h3⟩ := Nat.exists_eq_add_of_le b3
  obtain ⟨d4, h4⟩ := Nat.exists_eq_add_of_le b4
  obtain ⟨d5, h5⟩ := Nat.exists_eq_add_of_le b5
  obtain ⟨d6, h6⟩ := Nat.exists_eq_add_of_le b6
  obtain ⟨d7, h7⟩ := Nat.exists_eq_add_of_le b7
  rw [h0, h1, h2, h3, h4, h5, h6, h7] at e3 ⊢
  simp only [Nat.add_sub_cancel_left]
  clear b b0 b1 b2 b3 b4 b5 b6 b7 h0 h1 h2 h3 h4 h5 h6 h7 e2 hc
  have e : x = c + (d0 + 256 * d1 + 65536 * d2 + 16777216 * d3 + 4294967296 * d4 + 1099511627776 * d5 + 281474976710656 * d6 + 72057594037927936 * d7) := by omega
  rw [e]
  exact ⟨Nat.add_sub_cancel_left _ _, Nat.le_add_right _ _⟩
theorem st_2 {g : Nat → Nat} (h : ∀ k, k < 8 → g k < 256) : (S8 g &&& 3689348814741910323) + ((S8 g >>> 2) &&& 3689348814741910323) = S8 (fun k => pcB (g k)) := by
  have e1 := S8_by (x := S8 g &&& 3689348814741910323) (Nat.lt_of_le_of_lt Nat.and_le_right (by decide))
  have e2 := S8_by (x := (S8 g >>> 2) &&& 3689348814741910323) (Nat.lt_of_le_of_lt Nat.and_le_right (by decide))
  have e3 : S8 (by8 (S8 g &&& 3689348814741910323)) = S8 (fun k => g k &&& 51) := S8_congr (fun k hk => by rw [by_and, by_m2 k hk, by_S8 h k hk])
  have e4 : S8 (by8 ((S8 g >>> 2) &&& 3689348814741910323)) = S8 (fun k => (g k >>> 2) &&& 51) := S8_congr (fun k hk => by rw [by_and, by_m2 k hk, by_shr (by decide), by_S8 h k hk])
  rw [← e1, ← e2, e3, e4]
  unfold S8 pcB
  dsimp only
  omega
theorem st_3 {e : Nat → Nat} (h : ∀ k, k < 8 → e k / 16 ≤ 4 ∧ e k % 16 ≤ 4) : (S8 e + (S8 e >>> 4)) &&& 1085102592571150095 = S8 (fun k => pcC (e k)) ∧ S8 e + (S8 e >>> 4) < 18446744073709551616 := by
  have e1 := S8_by (x := (S8 e + (S8 e >>> 4)) &&& 1085102592571150095) (Nat.lt_of_le_of_lt Nat.and_le_right (by decide))
  have hs : S8 e + (S8 e >>> 4) = S8 (fun k => if k = 7 then e 7 + e 7 / 16 else e k + e k / 16 + 16 * (e (k + 1) % 16)) := by
    rw [Nat.shiftRight_eq_div_pow]
    unfold S8
    simp only [Nat.reducePow, Nat.reduceEqDiff, if_false, if_true, Nat.reduceAdd]
    omega
  have g : ∀ k, k < 8 → (if k = 7 then e 7 + e 7 / 16 else e k + e k / 16 + 16 * (e (k + 1) % 16)) < 256 ∧ (if k = 7 then e 7 + e 7 / 16 else e k + e k / 16 + 16 * (e (k + 1) % 16)) % 16 = pcC (e k) := fun k hk => by
    unfold pcC
    have := h k hk
    split
    · rename_i e7; subst e7; omega
    · have := h (k + 1) (by omega); omega
  have e3 : S8 (by8 ((S8 e + (S8 e >>> 4)) &&& 1085102592571150095)) = S8 (fun k => pcC (e k)) := S8_congr (fun k hk => by
    rw [by_and, by_m4 k hk, hs, by_S8 (fun k hk => (g k hk).1) k hk]
    show _ &&& (2 ^ 4 - 1) = _
    rw [Nat.and_two_pow_sub_one_eq_mod]
    exact (g k hk).2)
  refine ⟨by rw [← e1, e3], ?_⟩
  rw [Nat.shiftRight_eq_div_pow]
  have b0 := h 0 (by decide)
  have b1 := h 1 (by decide)
  have b2 := h 2 (by decide)
  have b3 := h 3 (by decide)
  have b4 := h 4 (by decide)
  have b5 := h 5 (by decide)
  have b6 := h 6 (by decide)
  have b7 := h 7 (by decide)
  unfold S8
  simp only [Nat.reducePow]
  omega
theorem st_4 {p : Nat → Nat} (h : ∀ k, k < 8 → p k ≤ 8) : (S8 p + S8 p / 256 + (S8 p + S8 p / 256) / 65536 + (S8 p + S8 p / 256 + (S8 p + S8 p / 256) / 65536) / 4294967296) % 128 = p 0 + p 1 + p 2 + p 3 + p 4 + p 5 + p 6 + p 7 ∧ S8 p + S8 p / 256 + (S8 p + S8 p / 256) / 65536 + (S8 p + S8 p / 256 + (S8 p + S8 p / 256) / 65536) / 4294967296 < 18446744073709551616 := by
  have b0 := h 0 (by decide)
  have b1 := h 1 (by decide)
  have b2 := h 2 (by decide)
  have b3 := h 3 (by decide)
  have b4 := h 4 (by decide)
  have b5 := h 5 (by decide)
  have b6 := h 6 (by decide)
  have b7 := h 7 (by decide)
  have e1 : S8 p / 256 = p 1 + 256 * p 2 + 65536 * p 3 + 16777216 * p 4 + 4294967296 * p 5 + 1099511627776 * p 6 + 281474976710656 * p 7 := by unfold S8; omega
  have e2 : (S8 p + S8 p / 256) / 65536 = (p 2 + p 3) + 256 * (p 3 + p 4) + 65536 * (p 4 + p 5) + 16777216 * (p 5 + p 6) + 4294967296 * (p 6 + p 7) + 1099511627776 * p 7 := by rw [e1]; unfold S8; omega
  have e3 : (S8 p + S8 p / 256 + (S8 p + S8 p / 256) / 65536) / 4294967296 = (p 4 + p 5 + p 6 + p 7) + 256 * (p 5 + p 6 + p 7) + 65536 * (p 6 + p 7) + 16777216 * p 7 := by rw [e2, e1]; unfold S8; omega
  rw [e3, e2, e1]
  unfold S8
  omega
end
