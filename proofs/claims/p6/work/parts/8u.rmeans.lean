/-! variables' values -/
def dg (a n : Nat) : Nat := a / 3 ^ n % 3
def zz (a n : Nat) : Nat := a - dg a n * 3 ^ n
def envOf (a : Nat) (x : Int) : Int := if 0 ≤ x ∧ x ≤ 3 then ((dg a x.toNat : Nat) : Int) else 0
theorem zz_0 : ∀ a : Nat, a < 81 → ∀ n : Nat, n < 4 → dg (zz a n) n = 0 := by decide +kernel
theorem zz_s : ∀ a : Nat, a < 81 → ∀ n : Nat, n < 4 → a = zz a n + dg a n * 3 ^ n := by decide +kernel
theorem ad_lt : ∀ a : Nat, a < 81 → ∀ n : Nat, n < 4 → ∀ k : Nat, k < 3 → dg a n = 0 → a + k * 3 ^ n < 81 := by decide +kernel
theorem ad_zz : ∀ a : Nat, a < 81 → ∀ n : Nat, n < 4 → ∀ k : Nat, k < 3 → dg a n = 0 → zz (a + k * 3 ^ n) n = a := by decide +kernel
theorem ad_dg : ∀ a : Nat, a < 81 → ∀ n : Nat, n < 4 → ∀ k : Nat, k < 3 → dg a n = 0 → ∀ m : Nat, m < 4 → dg (a + k * 3 ^ n) m = if m = n then k else dg a m := by decide +kernel
theorem p3_b : ∀ n : Nat, n < 4 → 0 < 3 ^ n ∧ 3 ^ n ≤ 27 := by decide +kernel
theorem dg_b (a n : Nat) : dg a n < 3 := Nat.mod_lt _ (by decide)
theorem env_add {a n k : Nat} (ha : a < 81) (hn : n < 4) (hk : k < 3) (h : dg a n = 0) : envOf (a + k * 3 ^ n) = evu (envOf a) (n : Int) (k : Int) := by
  funext x
  unfold envOf evu
  by_cases hx : 0 ≤ x ∧ x ≤ 3
  · rw [if_pos hx, ad_dg a ha n hn k hk h x.toNat (by omega)]
    by_cases e : x = (n : Int)
    · rw [if_pos (by omega), if_pos e]
    · rw [if_neg (by omega), if_neg e]; show _ = (if 0 ≤ x ∧ x ≤ 3 then ((dg a x.toNat : Nat) : Int) else 0); rw [if_pos hx]
  · rw [if_neg hx, if_neg (by omega)]; show _ = (if 0 ≤ x ∧ x ≤ 3 then ((dg a x.toNat : Nat) : Int) else 0); rw [if_neg hx]
theorem evu_evu (e : Int → Int) (v a b : Int) : evu (evu e v a) v b = evu e v b := by
  funext x
  unfold evu
  by_cases h : x = v
  · rw [if_pos h, if_pos h]
  · rw [if_neg h, if_neg h, if_neg h]
theorem env_zz {y n : Nat} (hy : y < 81) (hn : n < 4) (k : Int) : evu (envOf y) (n : Int) k = evu (envOf (zz y n)) (n : Int) k := by
  have hz : zz y n ≤ y := Nat.sub_le _ _
  have := env_add (a := zz y n) (k := dg y n) (by omega) hn (dg_b y n) (zz_0 y hy n hn)
  rw [← zz_s y hy n hn] at this
  rw [this, evu_evu]
section
variable {M : Mem}
theorem w_unit {n : Nat} (hn : n < 4) : pw (mX9_unit (n : Int) M) (fun q => q.2 = M ∧ q.1 = ((3 ^ n : Nat) : Int)) := by
  have : n = 0 ∨ n = 1 ∨ n = 2 ∨ n = 3 := by omega
  unfold mX9_unit
  rcases this with e | e | e | e <;> subst e
  · exact p_it1 rfl (p_ret ⟨rfl, rfl⟩)
  · exact p_it0 (by decide) (p_it1 rfl (p_ret ⟨rfl, rfl⟩))
  · exact p_it0 (by decide) (p_it0 (by decide) (p_it1 rfl (p_ret ⟨rfl, rfl⟩)))
  · exact p_it0 (by decide) (p_it0 (by decide) (p_it0 (by decide) (p_ret ⟨rfl, rfl⟩)))
theorem quoN {a b : Nat} (ha : a < 100000) (hb : 0 < b) (hb2 : b < 100000) : idiv (a : Int) (b : Int) = ((a / b : Nat) : Int) := by
  rw [idiv_e (by omega) (by omega) (by omega) (by omega)]; rfl
theorem w_valueIn {a : Nat} {v : Int} (ha : a < 81) (hv : 0 ≤ v ∧ v ≤ 3) : pw (mX9_valueIn (a : Int) v M) (fun q => q.2 = M ∧ q.1 = envOf a v) := by
  obtain ⟨n, rfl⟩ := Int.eq_ofNat_of_zero_le hv.1
  have p3 := p3_b n (by omega)
  have dl : a / 3 ^ n ≤ a := Nat.div_le_self _ _
  unfold mX9_valueIn
  refine p_call (w_unit (by omega)) (fun u m y => ?_)
  obtain ⟨e, y⟩ := y
  replace e : m = M := e
  replace y : u = ((3 ^ n : Nat) : Int) := y
  subst e; subst y
  refine p_dQc (quoN (by omega) p3.1 (by omega)) (p_dMc (rem3 (by omega)) (p_ret ⟨rfl, ?_⟩))
  show ((a / 3 ^ n % 3 : Nat) : Int) = envOf a (n : Int)
  unfold envOf
  rw [if_pos hv]; rfl
end
/-- what is ready -/
def RDl : List ((Int → Int) → Bool) → Mem → Prop
  | [], _ => True
  | f :: L, M => (∀ a : Nat, a < 81 → mG M 160 (81 * (L.length : Int) + (a : Int)) = b2i (f (envOf a))) ∧ RDl L M
theorem RDl.kp : ∀ {L : List ((Int → Int) → Bool)} {M M' : Mem}, RDl L M → (∀ j : Int, j < 81 * (L.length : Int) → mG M' 160 j = mG M 160 j) → RDl L M' := by
  intro L
  induction L with
  | nil => intro M M' _ _; exact True.intro
  | cons f L ih =>
    intro M M' h g
    have e : (((f :: L).length : Nat) : Int) = (L.length : Int) + 1 := by rw [List.length_cons]; omega
    rw [e] at g
    exact ⟨fun a ha => (g _ (by omega)).trans (h.1 a ha), ih h.2 (fun j hj => g j (by omega))⟩
/-- what judging leaves -/
def QR (S : SH) (ps : List Row) (t : Int) (φ : Int → Bool) (L : List ((Int → Int) → Bool)) (M M' : Mem) : Prop := RM S ps t φ M' ∧ RDl L M' ∧ mG M' 126 46 = (L.length : Int) ∧ FM M M'
/-- a row that is no part of parts -/
def LRw (nr : Int) (r : Row) : Prop :=
  (r.r0 = 8 ∧ (0 ≤ r.r1 ∧ r.r1 ≤ 3) ∧ (0 ≤ r.r2 ∧ r.r2 ≤ 3)) ∨ (r.r0 = 9 ∧ (0 ≤ r.r1 ∧ r.r1 < nr) ∧ (0 ≤ r.r2 ∧ r.r2 ≤ 3) ∧ (0 ≤ r.r3 ∧ r.r3 ≤ 3)) ∨ (r.r0 = 10 ∧ (0 ≤ r.r1 ∧ r.r1 < nr)) ∨ (r.r0 = 11 ∧ (0 ≤ r.r1 ∧ r.r1 < nr) ∧ (0 ≤ r.r2 ∧ r.r2 ≤ 3)) ∨ (r.r0 = 12 ∧ (0 ≤ r.r1 ∧ r.r1 < nr) ∧ (0 ≤ r.r2 ∧ r.r2 ≤ 3) ∧ (0 ≤ r.r3 ∧ r.r3 ≤ 3))
theorem rowOK.lr {nr sc bo : Int} {k1 k2 : Int → Int} {r : Row} (h : rowOK nr k1 k2 sc bo r) (h8 : 8 ≤ r.c0) : LRw nr r := by
  unfold rowOK at h
  unfold LRw
  rcases h with w | w | w | w | w | w | w
  · exfalso; omega
  · exfalso; omega
  · exact Or.inl ⟨w.2.1, w.2.2.1.1, w.2.2.2.1.1⟩
  · exact Or.inr (Or.inl ⟨w.2.1, w.2.2.2.1, w.2.2.2.2.2.1.1, w.2.2.2.2.2.2.1.1⟩)
  · exact Or.inr (Or.inr (Or.inl ⟨w.2.1, w.2.2.2.1⟩))
  · exact Or.inr (Or.inr (Or.inr (Or.inl ⟨w.2.1, w.2.2.2.1, w.2.2.2.2.2.1.1⟩)))
  · exact Or.inr (Or.inr (Or.inr (Or.inr ⟨w.2.1, w.2.2.2.1, w.2.2.2.2.2.1.1, w.2.2.2.2.2.2.1.1⟩)))
section
variable {S : SH} {ps : List Row} {t : Int} {φ : Int → Bool} {M : Mem} {L : List ((Int → Int) → Bool)} {r : Row} {k : Int}
def FP9 (n : Nat) (M M' : Mem) : Prop := ∀ c j : Int, ¬ (c = 160 ∧ 81 * (n : Int) ≤ j) → mG M' c j = mG M c j
theorem FP9.fm {n : Nat} {M M' : Mem} (h : FP9 n M M') : FM M M' := fun c j _ y _ => h c j (fun w => y w.1)
theorem w_leaf51 {l3 : Int} (ok : S.ok) (h : RM S ps t φ M) (hl : L.length ≤ 40) (rx : RX r k M) (lr : LRw S.nr r) (h9 : r.r0 = 9 → PJ (clo (S.fa φ r.r1)) 9 M) (h10 : r.r0 = 10 → l3 = b2i (treeA (S.fa φ r.r1))) (ht : mG M 126 46 = (L.length : Int)) : ∀ (fu a : Nat) (M' : Mem), a ≤ 81 → FP9 L.length M M' → (∀ x : Nat, x < a → mG M' 160 (81 * (L.length : Int) + (x : Int)) = b2i (leafT (S.fa φ) r (envOf x))) → pw (mX9_leaf_51 fu 126 k r.r0 l3 (a : Int) M') (fun q => (∀ c j : Int, ¬ (c = 126 ∧ j = 46) → ¬ (c = 160 ∧ 81 * (L.length : Int) ≤ j) → mG q.2 c j = mG M c j) ∧ mG q.2 126 46 = (L.length : Int) + 1 ∧ ∀ x : Nat, x < 81 → mG q.2 160 (81 * (L.length : Int) + (x : Int)) = b2i (leafT (S.fa φ) r (envOf x))) := by
  intro fu
  induction fu with
  | zero => intro a M' _ _ _; exact p_none
  | succ fu ih =>
    intro a M' ha fr hx
    show pw (bX9_leaf_51 (mX9_leaf_51 fu) 126 k r.r0 l3 (a : Int) M') _
    have hm : RM S ps t φ M' := h.kp fr.fm
    have rx' : RX r k M' := rx.kp (fun c c0 c1 => fr c k (fun w => by omega))
    have ht' : mG M' 126 46 = (L.length : Int) := (fr 126 46 (fun w => absurd w.1 (by decide))).trans ht
    have g15 := hm.1
    unfold bX9_leaf_51
    refine p_if (fun c => ?_) (fun c => ?_)
    · refine p_gFc (ji := 46) rfl ht' (p_pF (ji := 46) rfl (fun M3 h3 => p_ret ?_))
      rw [wI_id (x := (L.length : Int) + 1) (by omega) (by omega)] at h3
      refine ⟨fun c j x y => (st_ne h3 (fun w => x w)).trans (fr c j y), st_eq h3, fun x h81 => ?_⟩
      show mG M3 160 _ = _
      rw [st_ne h3 (fun w => absurd w.1 (by decide))]
      exact hx x (by omega)
    have wr : ∀ v : Int, v = b2i (leafT (S.fa φ) r (envOf a)) → pw (mX9_leaf_216 (mX9_leaf_51 fu) 126 k r.r0 l3 (a : Int) v M') (fun q => (∀ c j : Int, ¬ (c = 126 ∧ j = 46) → ¬ (c = 160 ∧ 81 * (L.length : Int) ≤ j) → mG q.2 c j = mG M c j) ∧ mG q.2 126 46 = (L.length : Int) + 1 ∧ ∀ x : Nat, x < 81 → mG q.2 160 (81 * (L.length : Int) + (x : Int)) = b2i (leafT (S.fa φ) r (envOf x))) := fun v hv => by
      unfold mX9_leaf_216
      refine p_gFc (ji := 45) rfl g15.2.2.2.2.2.2.2.2.2.2.1 (p_gFc (ji := 46) rfl ht' (p_aSZ (fun M3 h3 => ?_)))
      rw [wI_id (x := 81 * (L.length : Int)) (by omega) (by omega), wI_id (x := 81 * (L.length : Int) + (a : Int)) (by omega) (by omega)] at h3
      rw [wI_s (p := a) (by omega)]
      refine ih (a + 1) M3 (by omega) (fun c j x => (st_ne h3 (fun w => x ⟨w.1, by omega⟩)).trans (fr c j x)) (fun x hx2 => ?_)
      by_cases e : x = a
      · rw [e, st_eq h3, hv]
      · rw [st_ne h3 (fun w => e (by have := w.2; omega))]
        exact hx x (by omega)
    have a81 : a < 81 := by omega
    refine p_if (fun c8 => ?_) (fun c8 => p_if (fun c9 => ?_) (fun c9 => p_if (fun c11 => ?_) (fun c11 => p_if (fun c12 => ?_) (fun c12 => ?_))))
    · have w : (0 ≤ r.r1 ∧ r.r1 ≤ 3) ∧ (0 ≤ r.r2 ∧ r.r2 ≤ 3) := by
        unfold LRw at lr
        rcases lr with w | w | w | w | w
        · exact w.2
        all_goals (exfalso; omega)
      refine p_gFc (ji := 17) rfl g15.2.2.2.2.1 (p_aGc (rx'.2.1 (Or.inr (by omega))) (p_call (w_valueIn a81 w.1) (fun v m y => ?_)))
      obtain ⟨e, y⟩ := y
      replace e : m = M' := e
      replace y : v = envOf a r.r1 := y
      subst e; subst y
      refine p_gFc (ji := 18) rfl g15.2.2.2.2.2.1 (p_aGc (rx'.2.2.1 (Or.inr (Or.inl c8))) (p_call (w_valueIn a81 w.2) (fun v m2 y => ?_)))
      obtain ⟨e, y⟩ := y
      replace e : m2 = m := e
      replace y : v = envOf a r.r2 := y
      subst e; subst y
      have lt : leafT (S.fa φ) r (envOf a) = decide (envOf a r.r1 = envOf a r.r2) := if_pos c8
      refine p_if (fun z => wr 1 ?_) (fun z => wr 0 ?_)
      · rw [lt, decide_eq_true z]; rfl
      · rw [lt, decide_eq_false z]; rfl
    · have w : (0 ≤ r.r1 ∧ r.r1 < S.nr) ∧ (0 ≤ r.r2 ∧ r.r2 ≤ 3) ∧ (0 ≤ r.r3 ∧ r.r3 ≤ 3) := by
        unfold LRw at lr
        rcases lr with w | w | w | w | w
        · exfalso; omega
        · exact w.2
        all_goals (exfalso; omega)
      refine p_gFc (ji := 47) rfl g15.2.2.2.2.2.2.2.2.2.2.2 (p_gFc (ji := 18) rfl g15.2.2.2.2.2.1 (p_aGc (rx'.2.2.1 (Or.inr (Or.inr (Or.inl c9)))) (p_call (w_valueIn a81 w.2.1) (fun v m y => ?_))))
      obtain ⟨e, y⟩ := y
      replace e : m = M' := e
      replace y : v = envOf a r.r2 := y
      subst e; subst y
      refine p_gFc (ji := 19) rfl g15.2.2.2.2.2.2.1 (p_aGc (rx'.2.2.2 (Or.inr (Or.inl c9))) (p_call (w_valueIn a81 w.2.2) (fun v m2 y => ?_)))
      obtain ⟨e, y⟩ := y
      replace e : m2 = m := e
      replace y : v = envOf a r.r3 := y
      subst e; subst y
      have e2 : envOf a r.r2 = ((dg a r.r2.toNat : Nat) : Int) := if_pos w.2.1
      have e3 : envOf a r.r3 = ((dg a r.r3.toNat : Nat) : Int) := if_pos w.2.2
      have b2 := dg_b a r.r2.toNat
      have b3 := dg_b a r.r3.toNat
      have pj := h9 c9 (3 * dg a r.r2.toNat + dg a r.r3.toNat) (by omega)
      rw [show (3 * dg a r.r2.toNat + dg a r.r3.toNat) / 3 = dg a r.r2.toNat by omega, show (3 * dg a r.r2.toNat + dg a r.r3.toNat) % 3 = dg a r.r3.toNat by omega, ← e2, ← e3] at pj
      have ix : wI (wI (3 * envOf a r.r2) + envOf a r.r3) = ((3 * dg a r.r2.toNat + dg a r.r3.toNat : Nat) : Int) := by
        rw [e2, e3, wI_id (x := 3 * ((dg a r.r2.toNat : Nat) : Int)) (by omega) (by omega), wI_id (x := 3 * ((dg a r.r2.toNat : Nat) : Int) + ((dg a r.r3.toNat : Nat) : Int)) (by omega) (by omega)]
        omega
      rw [ix]
      refine p_aGc ((fr 161 _ (fun w => absurd w.1 (by decide))).trans pj) (wr _ ?_)
      have lt : leafT (S.fa φ) r (envOf a) = clo (S.fa φ r.r1) (envOf a r.r2) (envOf a r.r3) := by
        unfold leafT
        rw [if_neg c8, if_pos c9]
      rw [lt]
    · have w : (0 ≤ r.r1 ∧ r.r1 < S.nr) ∧ (0 ≤ r.r2 ∧ r.r2 ≤ 3) := by
        unfold LRw at lr
        rcases lr with w | w | w | w | w
        · exfalso; omega
        · exfalso; omega
        · exfalso; omega
        · exact w.2
        · exfalso; omega
      refine p_gFc (ji := 17) rfl g15.2.2.2.2.1 (p_aGc (rx'.2.1 (Or.inr (by omega))) (p_gFc (ji := 18) rfl g15.2.2.2.2.2.1 (p_aGc (rx'.2.2.1 (Or.inr (Or.inr (Or.inr (by omega))))) (p_call (w_valueIn a81 w.2) (fun v m y => ?_)))))
      obtain ⟨e, y⟩ := y
      replace e : m = M' := e
      replace y : v = envOf a r.r2 := y
      subst e; subst y
      refine p_gK (p_call (w_isSo ok hm w.1.1 w.1.2) (fun v m2 y => ?_))
      obtain ⟨e, y⟩ := y
      replace e : m2 = m := e
      replace y : v = b2i (S.fa φ r.r1 (envOf a r.r2) 0) := y
      subst e; subst y
      refine wr _ ?_
      have lt : leafT (S.fa φ) r (envOf a) = S.fa φ r.r1 (envOf a r.r2) 0 := by
        unfold leafT
        rw [if_neg c8, if_neg c9, if_neg (by omega), if_pos c11]
      rw [lt]
    · have w : (0 ≤ r.r1 ∧ r.r1 < S.nr) ∧ (0 ≤ r.r2 ∧ r.r2 ≤ 3) ∧ (0 ≤ r.r3 ∧ r.r3 ≤ 3) := by
        unfold LRw at lr
        rcases lr with w | w | w | w | w
        · exfalso; omega
        · exfalso; omega
        · exfalso; omega
        · exfalso; omega
        · exact w.2
      refine p_gFc (ji := 17) rfl g15.2.2.2.2.1 (p_aGc (rx'.2.1 (Or.inr (by omega))) (p_gFc (ji := 18) rfl g15.2.2.2.2.2.1 (p_aGc (rx'.2.2.1 (Or.inr (Or.inr (Or.inr (by omega))))) (p_call (w_valueIn a81 w.2.1) (fun v m y => ?_)))))
      obtain ⟨e, y⟩ := y
      replace e : m = M' := e
      replace y : v = envOf a r.r2 := y
      subst e; subst y
      refine p_gFc (ji := 19) rfl g15.2.2.2.2.2.2.1 (p_aGc (rx'.2.2.2 (Or.inr (Or.inr c12))) (p_call (w_valueIn a81 w.2.2) (fun v m2 y => ?_)))
      obtain ⟨e, y⟩ := y
      replace e : m2 = m := e
      replace y : v = envOf a r.r3 := y
      subst e; subst y
      refine p_gK (p_call (w_isSo ok hm w.1.1 w.1.2) (fun v m y => ?_))
      obtain ⟨e, y⟩ := y
      replace e : m = m2 := e
      replace y : v = b2i (S.fa φ r.r1 (envOf a r.r2) (envOf a r.r3)) := y
      subst e; subst y
      refine wr _ ?_
      have lt : leafT (S.fa φ) r (envOf a) = S.fa φ r.r1 (envOf a r.r2) (envOf a r.r3) := by
        unfold leafT
        rw [if_neg c8, if_neg c9, if_neg (by omega), if_neg c11]
      rw [lt]
    · have w : r.r0 = 10 := by
        unfold LRw at lr
        omega
      refine wr _ ?_
      have lt : leafT (S.fa φ) r (envOf a) = treeA (S.fa φ r.r1) := by
        unfold leafT
        rw [if_neg c8, if_neg c9, if_pos w]
      rw [lt]
      exact h10 w
theorem w_leaf (ok : S.ok) (h : RM S ps t φ M) (hd : RDl L M) (hl : L.length ≤ 40) (rx : RX r k M) (lr : LRw S.nr r) (ht : mG M 126 46 = (L.length : Int)) : pw (mX9_leaf 126 k M) (fun q => QR S ps t φ (leafT (S.fa φ) r :: L) M q.2) := by
  have lc : ((leafT (S.fa φ) r :: L).length : Int) = (L.length : Int) + 1 := by rw [List.length_cons]; omega
  have rr : r.r0 = 9 ∨ r.r0 = 10 → 0 ≤ r.r1 ∧ r.r1 < S.nr := fun y => by
    unfold LRw at lr
    rcases lr with w | w | w | w | w
    · exfalso; omega
    · exact w.2.1
    · exact w.2
    · exact w.2.1
    · exact w.2.1
  have fin : ∀ (M1 : Mem) (l3 : Int), (∀ c j : Int, ¬ c = 161 → mG M1 c j = mG M c j) → (r.r0 = 9 → PJ (clo (S.fa φ r.r1)) 9 M1) → (r.r0 = 10 → l3 = b2i (treeA (S.fa φ r.r1))) → pw (mX9_leaf_48 126 k r.r0 l3 M1) (fun q => QR S ps t φ (leafT (S.fa φ) r :: L) M q.2) := fun M1 l3 fr h9 h10 => by
    unfold mX9_leaf_48
    have fm : FM M M1 := fun c j _ _ z => fr c j z
    refine p_mono (w_leaf51 (L := L) ok (h.kp fm) hl (rx.kp (fun c c0 c1 => fr c k (by omega))) lr h9 h10 ((fr 126 46 (by decide)).trans ht) FU 0 M1 (by omega) (fun _ _ _ => rfl) (fun x hx => absurd hx (by omega))) (fun q y => ?_)
    obtain ⟨y1, y2, y3⟩ := y
    have fq : FM M q.2 := fm.tr (fun c j x y z => y1 c j x (fun w => y w.1))
    refine ⟨h.kp fq, ⟨y3, hd.kp (fun j hj => (y1 160 j (by omega) (by omega)).trans (fr 160 j (by decide)))⟩, y2.trans lc.symm, fq⟩
  have two : ∀ (M1 : Mem) (l3 : Int), (∀ c j : Int, ¬ c = 161 → mG M1 c j = mG M c j) → (r.r0 = 10 → l3 = b2i (treeA (S.fa φ r.r1))) → pw (mX9_leaf_31 126 k r.r0 l3 M1) (fun q => QR S ps t φ (leafT (S.fa φ) r :: L) M q.2) := fun M1 l3 fr h10 => by
    have h1 : RM S ps t φ M1 := h.kp (fun c j _ _ z => fr c j z)
    unfold mX9_leaf_31
    refine p_if (fun c => ?_) (fun c => fin M1 l3 fr (fun w => absurd w c) h10)
    have rr := rr (Or.inl c)
    refine p_gFc (ji := 17) rfl h1.1.2.2.2.2.1 (p_aGc ((fr 143 k (by decide)).trans (rx.2.1 (Or.inr (by omega)))) (p_gK (p_call (w_fj ok h1 rr.1 rr.2) (fun v m y => ?_))))
    obtain ⟨y1, y2⟩ := y
    exact fin m l3 (fun c j z => (y1 c j z).trans (fr c j z)) (fun _ => y2) h10
  unfold mX9_leaf
  refine p_gFc (ji := 16) rfl h.1.2.2.2.1 (p_aGc rx.1 (p_if (fun c => ?_) (fun c => ?_)))
  · have rr := rr (Or.inr c)
    refine p_gFc (ji := 17) rfl h.1.2.2.2.2.1 (p_aGc (rx.2.1 (Or.inr (by omega))) (p_gK (p_call (w_isTree ok h rr.1 rr.2) (fun v m y => ?_))))
    obtain ⟨y1, y2⟩ := y
    replace y1 : ∀ c j : Int, ¬ c = 161 → mG m c j = mG M c j := y1
    replace y2 : v = b2i (treeA (S.fa φ r.r1)) := y2
    subst y2
    refine p_if (fun z => ?_) (fun z => ?_)
    · exact two m 0 y1 (fun _ => z.symm)
    · refine two m 1 y1 (fun _ => ?_)
      cases hb : treeA (S.fa φ r.r1) with
      | true => rfl
      | false => exact absurd (b2i_0.mpr hb) z
  · exact two M 0 (fun _ _ _ => rfl) (fun w => absurd w c)
/-! a binder -/
theorem bindT_zz {f : (Int → Int) → Bool} {y n : Nat} (hy : y < 81) (hn : n < 4) (h1 : r.r1 = (n : Int)) : bindT S r f (envOf y) = bindT S r f (envOf (zz y n)) := by
  have e : (fun k => f (evu (envOf y) r.r1 k)) = fun k => f (evu (envOf (zz y n)) r.r1 k) := by
    funext k
    rw [h1, env_zz hy hn]
  unfold bindT
  rw [e]
def BI (S : SH) (r : Row) (f : (Int → Int) → Bool) (len n a : Nat) (M : Mem) : Prop := ∀ y : Nat, y < 81 → mG M 160 (81 * (len : Int) + (y : Int)) = b2i (if zz y n < a then bindT S r f (envOf y) else f (envOf y))
theorem w_binder {f : (Int → Int) → Bool} (ok : S.ok) (h : RM S ps t φ M) (hd : RDl (f :: L) M) (hl : L.length ≤ 40) (rx : RX r k M) (h0 : 0 ≤ r.r0 ∧ r.r0 ≤ 3) (h1 : 0 ≤ r.r1 ∧ r.r1 ≤ 3) (h2 : 0 ≤ r.r2 ∧ r.r2 ≤ 2) (ht : mG M 126 46 = (L.length : Int) + 1) : pw (mX9_bind 126 k M) (fun q => QR S ps t φ (bindT S r f :: L) M q.2) := by
  obtain ⟨n, hn⟩ := Int.eq_ofNat_of_zero_le h1.1
  have n4 : n < 4 := by omega
  have p3 := p3_b n n4
  have lc : ((bindT S r f :: L).length : Int) = (L.length : Int) + 1 := by rw [List.length_cons]; omega
  have sz := ok.1 r.r2 h2.1 (by omega)
  obtain ⟨z, hz⟩ := Int.eq_ofNat_of_zero_le (show 0 ≤ S.sz r.r2 by omega)
  have t1 := rx.2.1 (Or.inl h0.2)
  have t2 := rx.2.2.1 (Or.inl h0.2)
  have t3 := rx.2.2.2 (Or.inl h0.2)
  have rows : ∀ (fu a : Nat) (M' : Mem), a ≤ 81 → FP9 L.length M M' → BI S r f L.length n a M' → pw (mX9_bind_36 fu 126 k ((3 ^ n : Nat) : Int) (z : Int) (81 * (L.length : Int)) (a : Int) M') (fun q => QR S ps t φ (bindT S r f :: L) M q.2) := by
    intro fu
    induction fu with
    | zero => intro a M' _ _ _; exact p_none
    | succ fu ih =>
      intro a M' ha fr bi
      show pw (bX9_bind_36 (mX9_bind_36 fu) 126 k ((3 ^ n : Nat) : Int) (z : Int) (81 * (L.length : Int)) (a : Int) M') _
      have hm : RM S ps t φ M' := h.kp fr.fm
      have e160 : mG M' 126 45 = 160 := hm.1.2.2.2.2.2.2.2.2.2.2.1
      unfold bX9_bind_36
      refine p_if (fun c => p_ret ?_) (fun c => ?_)
      · refine ⟨hm, ⟨fun y hy => ?_, hd.2.kp (fun j hj => fr 160 j (by omega))⟩, ((fr 126 46 (fun w => absurd w.1 (by decide))).trans ht).trans lc.symm, fr.fm⟩
        show mG M' 160 _ = _
        have := Nat.sub_le y (dg y n * 3 ^ n)
        rw [bi y hy, if_pos (by unfold zz; omega)]
      have a81 : a < 81 := by omega
      have dl : a / 3 ^ n ≤ a := Nat.div_le_self _ _
      refine p_dQc (quoN (by omega) p3.1 (by omega)) (p_dMc (rem3 (by omega)) (p_if (fun c2 => ?_) (fun c2 => ?_)))
      · have d0 : dg a n = 0 := by
          unfold dg
          omega
        have wr : ∀ v : Int, v = b2i (bindT S r f (envOf a)) → pw (mX9_bind_192 (mX9_bind_36 fu) 126 k ((3 ^ n : Nat) : Int) (z : Int) (81 * (L.length : Int)) (a : Int) v M') (fun q => QR S ps t φ (bindT S r f :: L) M q.2) := fun v hv => by
          have loop : ∀ (fu2 x : Nat) (M2 : Mem), x ≤ 3 → FP9 L.length M M2 → (∀ y : Nat, y < 81 → mG M2 160 (81 * (L.length : Int) + (y : Int)) = b2i (if zz y n < a ∨ (zz y n = a ∧ dg y n < x) then bindT S r f (envOf y) else f (envOf y))) → pw (mX9_bind_197 (mX9_bind_36 fu) fu2 126 k ((3 ^ n : Nat) : Int) (z : Int) (81 * (L.length : Int)) (a : Int) v (x : Int) M2) (fun q => QR S ps t φ (bindT S r f :: L) M q.2) := by
            intro fu2
            induction fu2 with
            | zero => intro x M2 _ _ _; exact p_none
            | succ fu2 ih2 =>
              intro x M2 hx fr2 bi2
              show pw (bX9_bind_197 (mX9_bind_36 fu) (mX9_bind_197 (mX9_bind_36 fu) fu2) 126 k ((3 ^ n : Nat) : Int) (z : Int) (81 * (L.length : Int)) (a : Int) v (x : Int) M2) _
              unfold bX9_bind_197
              refine p_if (fun c3 => ?_) (fun c3 => ?_)
              · unfold mX9_bind_226
                rw [wI_s (p := a) (by omega)]
                refine ih (a + 1) M2 (by omega) fr2 (fun y hy => ?_)
                have := dg_b y n
                rw [bi2 y hy]
                by_cases g : zz y n < a + 1
                · rw [if_pos g, if_pos (by omega)]
                · rw [if_neg g, if_neg (by omega)]
              · have x3 : x < 3 := by omega
                have al := ad_lt a a81 n n4 x x3 d0
                have az := ad_zz a a81 n n4 x x3 d0
                have ad := ad_dg a a81 n n4 x x3 d0 n n4
                rw [if_pos rfl] at ad
                have xw : (x : Int) * ((3 ^ n : Nat) : Int) = ((x * 3 ^ n : Nat) : Int) := by rw [Int.natCast_mul]
                refine p_gFc (ji := 45) rfl ((fr2 126 45 (fun w => absurd w.1 (by decide))).trans h.1.2.2.2.2.2.2.2.2.2.2.1) (p_aSZ (fun M3 h3 => ?_))
                rw [xw, wI_id (x := 81 * (L.length : Int) + (a : Int)) (by omega) (by omega), wI_id (x := ((x * 3 ^ n : Nat) : Int)) (by omega) (by omega), wI_id (x := 81 * (L.length : Int) + (a : Int) + ((x * 3 ^ n : Nat) : Int)) (by omega) (by omega)] at h3
                rw [wI_s (p := x) (by omega)]
                refine ih2 (x + 1) M3 (by omega) (fun c j w => (st_ne h3 (fun u => w ⟨u.1, by omega⟩)).trans (fr2 c j w)) (fun y hy => ?_)
                by_cases e : y = a + x * 3 ^ n
                · have e2 : 81 * (L.length : Int) + (y : Int) = 81 * (L.length : Int) + (a : Int) + ((x * 3 ^ n : Nat) : Int) := by omega
                  rw [e2, st_eq h3, hv, e, az, ad, if_pos (Or.inr ⟨rfl, by omega⟩), bindT_zz (y := a + x * 3 ^ n) al n4 hn, az]
                · rw [st_ne h3 (fun u => e (by have := u.2; omega)), bi2 y hy]
                  have ys := zz_s y hy n n4
                  have ne : ¬ (zz y n = a ∧ dg y n = x) := fun u => e (by rw [u.1, u.2] at ys; exact ys)
                  by_cases g : zz y n < a ∨ (zz y n = a ∧ dg y n < x)
                  · rw [if_pos g, if_pos (by omega)]
                  · rw [if_neg g, if_neg (by omega)]
          refine loop FU 0 M' (by omega) fr (fun y hy => ?_)
          rw [bi y hy]
          by_cases g : zz y n < a
          · rw [if_pos g, if_pos (Or.inl g)]
          · rw [if_neg g, if_neg (by omega)]
        have cs : ∀ j : Nat, cnt (fun x => f (evu (envOf a) r.r1 x)) (j + 1) = cnt (fun x => f (evu (envOf a) r.r1 x)) j + (if f (evu (envOf a) r.r1 (j : Int)) = true then 1 else 0) := fun j => rfl
        have cb : ∀ j : Nat, 0 ≤ cnt (fun x => f (evu (envOf a) r.r1 x)) j ∧ cnt (fun x => f (evu (envOf a) r.r1 x)) j ≤ (j : Int) := fun j => cnt_b _ j
        have count : ∀ (fu2 j : Nat), j ≤ z → pw (mX9_bind_61 (mX9_bind_36 fu) fu2 126 k ((3 ^ n : Nat) : Int) (z : Int) (81 * (L.length : Int)) (a : Int) (cnt (fun x => f (evu (envOf a) r.r1 x)) j) (j : Int) M') (fun q => QR S ps t φ (bindT S r f :: L) M q.2) := by
          intro fu2
          induction fu2 with
          | zero => intro j _; exact p_none
          | succ fu2 ih2 =>
            intro j hj
            have cb := cb j
            have cs := cs j
            show pw (bX9_bind_61 (mX9_bind_36 fu) (mX9_bind_61 (mX9_bind_36 fu) fu2) 126 k ((3 ^ n : Nat) : Int) (z : Int) (81 * (L.length : Int)) (a : Int) (cnt (fun x => f (evu (envOf a) r.r1 x)) j) (j : Int) M') _
            unfold bX9_bind_61
            refine p_if (fun c3 => ?_) (fun c3 => ?_)
            · have jz : j = z := by omega
              subst jz
              have bt : bindT S r f (envOf a) = if r.r0 = 0 then decide (cnt (fun x => f (evu (envOf a) r.r1 x)) j = (j : Int)) else if r.r0 = 1 then decide (0 < cnt (fun x => f (evu (envOf a) r.r1 x)) j) else if r.r0 = 2 then decide (r.r3 ≤ cnt (fun x => f (evu (envOf a) r.r1 x)) j) else decide (cnt (fun x => f (evu (envOf a) r.r1 x)) j ≤ r.r3) := by
                unfold bindT
                dsimp only
                rw [hz, Int.toNat_natCast]
              have x0 : mG M' 142 k = r.r0 := (fr 142 k (fun w => absurd w.1 (by decide))).trans rx.1
              have x3 : mG M' 145 k = r.r3 := (fr 145 k (fun w => absurd w.1 (by decide))).trans t3
              refine p_gFc (ji := 16) rfl hm.1.2.2.2.1 (p_aGc x0 (p_if (fun b0 => ?_) (fun b0 => ?_)))
              · rw [if_pos b0] at bt
                exact p_if (fun g => wr 1 (by rw [bt, decide_eq_true g]; rfl)) (fun g => wr 0 (by rw [bt, decide_eq_false g]; rfl))
              rw [if_neg b0] at bt
              refine p_gFc (ji := 16) rfl hm.1.2.2.2.1 (p_aGc x0 (p_if (fun b1 => ?_) (fun b1 => ?_)))
              · rw [if_pos b1] at bt
                exact p_if (fun g => wr 0 (by rw [bt, decide_eq_false (by omega)]; rfl)) (fun g => wr 1 (by rw [bt, decide_eq_true (by omega)]; rfl))
              rw [if_neg b1] at bt
              refine p_gFc (ji := 16) rfl hm.1.2.2.2.1 (p_aGc x0 (p_if (fun b2 => ?_) (fun b2 => ?_)))
              · rw [if_pos b2] at bt
                exact p_gFc (ji := 19) rfl hm.1.2.2.2.2.2.2.1 (p_aGc x3 (p_if (fun g => wr 0 (by rw [bt, decide_eq_false (by omega)]; rfl)) (fun g => wr 1 (by rw [bt, decide_eq_true (by omega)]; rfl))))
              · rw [if_neg b2] at bt
                exact p_gFc (ji := 19) rfl hm.1.2.2.2.2.2.2.1 (p_aGc x3 (p_if (fun g => wr 0 (by rw [bt, decide_eq_false (by omega)]; rfl)) (fun g => wr 1 (by rw [bt, decide_eq_true (by omega)]; rfl))))
            · have j3 : j < 3 := by omega
              have al := ad_lt a a81 n n4 j j3 d0
              have az := ad_zz a a81 n n4 j j3 d0
              have xw : (j : Int) * ((3 ^ n : Nat) : Int) = ((j * 3 ^ n : Nat) : Int) := by rw [Int.natCast_mul]
              have v := bi (a + j * 3 ^ n) al
              rw [az, if_neg (Nat.lt_irrefl a), env_add a81 n4 j3 d0, ← hn] at v
              refine p_gFc (ji := 45) rfl e160 ?_
              rw [xw, wI_id (x := 81 * (L.length : Int) + (a : Int)) (by omega) (by omega), wI_id (x := ((j * 3 ^ n : Nat) : Int)) (by omega) (by omega), wI_id (x := 81 * (L.length : Int) + (a : Int) + ((j * 3 ^ n : Nat) : Int)) (by omega) (by omega), show 81 * (L.length : Int) + (a : Int) + ((j * 3 ^ n : Nat) : Int) = 81 * (L.length : Int) + ((a + j * 3 ^ n : Nat) : Int) by omega]
              refine p_aGc v (p_if (fun g => ?_) (fun g => ?_))
              · rw [b2i_0.mp g, if_neg (by decide)] at cs
                unfold mX9_bind_92
                rw [wI_s (p := j) (by omega), wI_id (x := cnt (fun x => f (evu (envOf a) r.r1 x)) j + 0) (by omega) (by omega), ← cs]
                exact ih2 (j + 1) (by omega)
              · have ft : f (evu (envOf a) r.r1 (j : Int)) = true := by
                  cases hb : f (evu (envOf a) r.r1 (j : Int)) with
                  | true => rfl
                  | false => exact absurd (b2i_0.mpr hb) g
                rw [ft, if_pos rfl] at cs
                unfold mX9_bind_92
                rw [wI_s (p := j) (by omega), wI_id (x := cnt (fun x => f (evu (envOf a) r.r1 x)) j + 1) (by omega) (by omega), ← cs]
                exact ih2 (j + 1) (by omega)
        exact count FU 0 (by omega)
      · unfold mX9_bind_226
        rw [wI_s (p := a) (by omega)]
        refine ih (a + 1) M' (by omega) fr (fun y hy => ?_)
        have ne : ¬ zz y n = a := fun w => by
          have := zz_0 y hy n n4
          rw [w] at this
          unfold dg at this
          omega
        rw [bi y hy]
        by_cases g : zz y n < a
        · rw [if_pos g, if_pos (by omega)]
        · rw [if_neg g, if_neg (by omega)]
  unfold mX9_bind
  refine p_gFc (ji := 17) rfl h.1.2.2.2.2.1 (p_aGc (t1.trans hn) (p_call (w_unit n4) (fun u m y => ?_)))
  obtain ⟨e, y⟩ := y
  replace e : m = M := e
  replace y : u = ((3 ^ n : Nat) : Int) := y
  subst e; subst y
  refine p_gFc (ji := 26) rfl h.1.2.2.2.2.2.2.2.1 (p_gFc (ji := 18) rfl h.1.2.2.2.2.2.1 (p_aGc t2 (p_aGc ((h.2.1 r.r2 h2.1 (by omega)).trans hz) (p_gFc (ji := 46) rfl ht ?_))))
  rw [wI_id (x := (L.length : Int) + 1 - 1) (by omega) (by omega), wI_id (x := 81 * ((L.length : Int) + 1 - 1)) (by omega) (by omega), show 81 * ((L.length : Int) + 1 - 1) = 81 * (L.length : Int) by omega]
  refine rows FU 0 m (by omega) (fun _ _ _ => rfl) (fun y hy => ?_)
  rw [if_neg (by omega)]
  exact hd.1 y hy
end
