/-! ===== the reference's judge means what the text means ===== -/
def b2i (b : Bool) : Int := if b = true then 1 else 0
theorem b2i_0 {b : Bool} : b2i b = 0 ↔ b = false := by cases b <;> decide
theorem b2i_b (b : Bool) : 0 ≤ b2i b ∧ b2i b ≤ 1 := by cases b <;> decide
/-- what stands while the reference judges the text of t -/
def RM (S : SH) (ps : List Row) (t : Int) (φ : Int → Bool) (M : Mem) : Prop :=
  (mG M 126 9 = 135 ∧ mG M 126 10 = 136 ∧ mG M 126 15 = 141 ∧ mG M 126 16 = 142 ∧ mG M 126 17 = 143 ∧ mG M 126 18 = 144 ∧ mG M 126 19 = 145 ∧ mG M 126 26 = 152 ∧ mG M 126 27 = 153 ∧ mG M 126 28 = 154 ∧ mG M 126 45 = 160 ∧ mG M 126 47 = 161) ∧
  (∀ k : Int, 0 ≤ k → k < 3 → mG M 152 k = S.sz k) ∧ (∀ r : Int, 0 ≤ r → r < S.nr → mG M 135 r = S.k1 r ∧ mG M 136 r = S.k2 r ∧ mG M 153 r = S.st r.toNat) ∧ (∀ k : Int, 0 ≤ k → k < S.nf → mG M 154 k = b2i (φ k)) ∧ RT ps t M
/-- what judging changes -/
def FM (M M' : Mem) : Prop := ∀ c j : Int, ¬ (c = 126 ∧ j = 46) → ¬ c = 160 → ¬ c = 161 → mG M' c j = mG M c j
theorem FM.rf {M : Mem} : FM M M := fun _ _ _ _ _ => rfl
theorem FM.tr {M M' M'' : Mem} (h : FM M M') (k : FM M' M'') : FM M M'' := fun c j x y z => (k c j x y z).trans (h c j x y z)
theorem RX.kp {r : Row} {k : Int} {M M' : Mem} (h : RX r k M) (g : ∀ c : Int, 142 ≤ c → c ≤ 145 → mG M' c k = mG M c k) : RX r k M' := ⟨(g 142 (by decide) (by decide)).trans h.1, fun w => (g 143 (by decide) (by decide)).trans (h.2.1 w), fun w => (g 144 (by decide) (by decide)).trans (h.2.2.1 w), fun w => (g 145 (by decide) (by decide)).trans (h.2.2.2 w)⟩
section
variable {S : SH} {ps : List Row} {t : Int} {φ : Int → Bool} {M M' : Mem}
theorem RM.kp (h : RM S ps t φ M) (g : FM M M') : RM S ps t φ M' := by
  obtain ⟨⟨a1, a2, a3, a4, a5, a6, a7, a8, a9, aa, ab, ac⟩, h2, h3, h4, h5, h6⟩ := h
  have e : ∀ j, ¬ j = 46 → mG M' 126 j = mG M 126 j := fun j hj => g 126 j (fun w => hj w.2) (by decide) (by decide)
  have f : ∀ c j : Int, ¬ c = 126 → ¬ c = 160 → ¬ c = 161 → mG M' c j = mG M c j := fun c j x y z => g c j (fun w => x w.1) y z
  refine ⟨⟨(e _ (by decide)).trans a1, (e _ (by decide)).trans a2, (e _ (by decide)).trans a3, (e _ (by decide)).trans a4, (e _ (by decide)).trans a5, (e _ (by decide)).trans a6, (e _ (by decide)).trans a7, (e _ (by decide)).trans a8, (e _ (by decide)).trans a9, (e _ (by decide)).trans aa, (e _ (by decide)).trans ab, (e _ (by decide)).trans ac⟩, fun k x y => (f _ _ (by decide) (by decide) (by decide)).trans (h2 k x y), fun r x y => ?_, fun k x y => (f _ _ (by decide) (by decide) (by decide)).trans (h4 k x y), (f _ _ (by decide) (by decide) (by decide)).trans h5, fun k r hr => (h6 k r hr).kp (fun c c0 c1 => f c _ (by omega) (by omega) (by omega))⟩
  obtain ⟨b1, b2, b3⟩ := h3 r x y
  exact ⟨(f _ _ (by decide) (by decide) (by decide)).trans b1, (f _ _ (by decide) (by decide) (by decide)).trans b2, (f _ _ (by decide) (by decide) (by decide)).trans b3⟩
theorem w_sizeOf {k : Int} (h : RM S ps t φ M) (hk : -1 ≤ k ∧ k ≤ 2) : pw (mX9_sizeOf 126 k M) (fun q => q.2 = M ∧ q.1 = S.zv k) := by
  obtain ⟨⟨a1, a2, a3, a4, a5, a6, a7, a8, a9, aa, ab, ac⟩, h2, h3, h4, h5⟩ := h
  unfold mX9_sizeOf
  refine p_if (fun c => p_ret ⟨rfl, ?_⟩) (fun c => p_gFc (ji := 26) rfl a8 (p_aGc (h2 k (by omega) (by omega)) (p_ret ⟨rfl, ?_⟩)))
  · show 1 = S.zv k
    unfold SH.zv; rw [if_pos c]
  · show S.sz k = S.zv k
    unfold SH.zv; rw [if_neg c]
theorem w_in {a b c : Int} : pw (mX9_in a b c M) (fun q => q.2 = M ∧ (((b ≤ a ∧ a ≤ c) ∧ q.1 = 1) ∨ (¬ (b ≤ a ∧ a ≤ c) ∧ q.1 = 0))) := by
  unfold mX9_in
  exact p_if (fun c => p_ret ⟨rfl, Or.inr ⟨by omega, rfl⟩⟩) (fun c => p_if (fun d => p_ret ⟨rfl, Or.inr ⟨by omega, rfl⟩⟩) (fun d => p_ret ⟨rfl, Or.inl ⟨by omega, rfl⟩⟩))
theorem w_factAt15 {r i j : Int} (ok : S.ok) (h : RM S ps t φ M) (h0 : 0 ≤ r) (h1 : r < S.nr) : pw (mX9_factAt_15 126 r i (S.col r j) M) (fun q => q.2 = M ∧ ((S.inr r i j ∧ q.1 = S.at' r i j) ∨ (¬ S.inr r i j ∧ q.1 = -1))) := by
  obtain ⟨⟨a1, a2, a3, a4, a5, a6, a7, a8, a9, aa, ab, ac⟩, h2, h3, h4, h5⟩ := id h
  obtain ⟨b1, b2, b3⟩ := h3 r h0 h1
  have k := ok.2.2 r h0 h1
  have z1 := ok.zv (k := S.k1 r) (by omega)
  have z2 := ok.zv (k := S.k2 r) k.2
  have s9 := ok.st9 h0 h1
  unfold mX9_factAt_15
  refine p_gFc (ji := 9) rfl a1 (p_aGc b1 (p_gK (p_call (w_sizeOf h (by omega)) (fun v m y => ?_))))
  obtain ⟨e, y⟩ := y
  replace e : m = M := e
  replace y : v = S.zv (S.k1 r) := y
  subst e; subst y
  rw [wI_id (x := S.zv (S.k1 r) - 1) (by omega) (by omega)]
  refine p_call w_in (fun v m2 y => ?_)
  obtain ⟨e, y⟩ := y
  replace e : m2 = m := e
  subst e
  rcases y with ⟨c1, hv⟩ | ⟨c1, hv⟩
  · replace hv : v = 1 := hv
    subst hv
    refine p_it0 (show ¬ (1 : Int) = 0 by decide) (p_gFc (ji := 10) rfl a2 (p_aGc b2 (p_gK (p_call (w_sizeOf h k.2) (fun v m y => ?_)))))
    obtain ⟨e, y⟩ := y
    replace e : m = m2 := e
    replace y : v = S.zv (S.k2 r) := y
    subst e; subst y
    rw [wI_id (x := S.zv (S.k2 r) - 1) (by omega) (by omega)]
    refine p_call w_in (fun v m2 y => ?_)
    obtain ⟨e, y⟩ := y
    replace e : m2 = m := e
    subst e
    rcases y with ⟨c2, hv⟩ | ⟨c2, hv⟩
    · replace hv : v = 1 := hv
      subst hv
      refine p_it0 (show ¬ (1 : Int) = 0 by decide) (p_gFc (ji := 27) rfl a9 (p_aGc b3 (p_gFc (ji := 10) rfl a2 (p_aGc b2 (p_gK (p_call (w_sizeOf h k.2) (fun v m y => p_ret ?_)))))))
      obtain ⟨e, y⟩ := y
      replace e : m = m2 := e
      replace y : v = S.zv (S.k2 r) := y
      subst e; subst y
      refine ⟨rfl, Or.inl ⟨⟨by omega, by omega⟩, ?_⟩⟩
      have p := mul_b (x := S.zv (S.k2 r)) (y := i) (a := 3) (b := 3) (by omega) (by omega) (by omega) (by omega)
      show wI (wI (S.st r.toNat + wI (S.zv (S.k2 r) * i)) + S.col r j) = S.st r.toNat + S.zv (S.k2 r) * i + S.col r j
      rw [wI_id (x := S.zv (S.k2 r) * i) (by omega) (by omega), wI_id (x := S.st r.toNat + S.zv (S.k2 r) * i) (by omega) (by omega), wI_id (x := S.st r.toNat + S.zv (S.k2 r) * i + S.col r j) (by omega) (by omega)]
    · replace hv : v = 0 := hv
      subst hv
      exact p_it1 rfl (p_ret ⟨rfl, Or.inr ⟨fun w => c2 (by have := w.2; omega), rfl⟩⟩)
  · replace hv : v = 0 := hv
    subst hv
    exact p_it1 rfl (p_ret ⟨rfl, Or.inr ⟨fun w => c1 (by have := w.1; omega), rfl⟩⟩)
theorem w_factAt {r i j : Int} (ok : S.ok) (h : RM S ps t φ M) (h0 : 0 ≤ r) (h1 : r < S.nr) : pw (mX9_factAt 126 r i j M) (fun q => q.2 = M ∧ ((S.inr r i j ∧ q.1 = S.at' r i j) ∨ (¬ S.inr r i j ∧ q.1 = -1))) := by
  have fin := w_factAt15 (i := i) (j := j) ok h h0 h1
  obtain ⟨⟨a1, a2, a3, a4, a5, a6, a7, a8, a9, aa, ab, ac⟩, h2, h3, h4, h5⟩ := h
  obtain ⟨b1, b2, b3⟩ := h3 r h0 h1
  unfold mX9_factAt
  refine p_gFc (ji := 10) rfl a2 (p_aGc b2 (p_if (fun c3 => ?_) (fun c3 => ?_)))
  · have e : S.col r j = 0 := if_pos c3
    rw [e] at fin; exact fin
  · have e : S.col r j = j := if_neg c3
    rw [e] at fin; exact fin
theorem w_isSo {r i j : Int} (ok : S.ok) (h : RM S ps t φ M) (h0 : 0 ≤ r) (h1 : r < S.nr) : pw (mX9_isSo 126 r i j M) (fun q => q.2 = M ∧ q.1 = b2i (S.fa φ r i j)) := by
  unfold mX9_isSo
  refine p_gK (p_call (w_factAt (i := i) (j := j) ok h h0 h1) (fun v m y => ?_))
  obtain ⟨e, y⟩ := y
  replace e : m = M := e
  subst e
  rcases y with ⟨c, hv⟩ | ⟨c, hv⟩
  · replace hv : v = S.at' r i j := hv
    have p := ok.pos h0 h1 c
    have s9 := ok.st9 h0 h1
    subst hv
    have hw := h.2.2.2.1 (S.at' r i j) (by omega) (by omega)
    refine p_it0 (by show ¬ S.at' r i j = -1; omega) (p_gFc (ji := 28) rfl h.1.2.2.2.2.2.2.2.2.2.1 (p_aGc hw ?_))
    rw [SH.fa_in c]
    refine p_if (fun d => p_ret ⟨rfl, ?_⟩) (fun d => p_ret ⟨rfl, ?_⟩)
    · exact d.symm
    · cases hb : φ (S.at' r i j) with
      | true => rfl
      | false => rw [hb] at d; exact absurd rfl d
  · replace hv : v = -1 := hv
    subst hv
    rw [SH.fa_out c]
    exact p_it1 rfl (p_ret ⟨rfl, rfl⟩)
/-! what is joined -/
def PJ (W : Int → Int → Bool) (n : Nat) (M : Mem) : Prop := ∀ c : Nat, c < n → mG M 161 (c : Int) = b2i (W ((c / 3 : Nat) : Int) ((c % 3 : Nat) : Int))
theorem rem3 {c : Nat} (h : c < 100) : irem (c : Int) 3 = ((c % 3 : Nat) : Int) := by
  rw [irem_e (by omega) (by omega) (by decide) (by decide)]; omega
theorem quo3 {c : Nat} (h : c < 100) : idiv (c : Int) 3 = ((c / 3 : Nat) : Int) := by
  rw [idiv_e (by omega) (by omega) (by decide) (by decide)]; omega
theorem w_fj {r : Int} (ok : S.ok) (h : RM S ps t φ M) (h0 : 0 ≤ r) (h1 : r < S.nr) : pw (mX9_findJoined 126 r M) (fun q => (∀ c j : Int, ¬ c = 161 → mG q.2 c j = mG M c j) ∧ PJ (clo (S.fa φ r)) 9 q.2) := by
  have fm : ∀ {M' : Mem}, (∀ c j : Int, ¬ c = 161 → mG M' c j = mG M c j) → FM M M' := fun g c j _ _ z => g c j z
  -- the middle
  have mid : ∀ (fu k : Nat) (M' : Mem), k ≤ 3 → (∀ c j : Int, ¬ c = 161 → mG M' c j = mG M c j) → PJ (wsn (S.fa φ r) k) 9 M' → pw (mX9_findJoined_33 fu 126 (k : Int) M') (fun q => (∀ c j : Int, ¬ c = 161 → mG q.2 c j = mG M c j) ∧ PJ (clo (S.fa φ r)) 9 q.2) := by
    intro fu
    induction fu with
    | zero => intro k M' _ _ _; exact p_none
    | succ fu ih =>
      intro k M' hk fr pj
      show pw (bX9_findJoined_33 (mX9_findJoined_33 fu) 126 (k : Int) M') _
      unfold bX9_findJoined_33
      refine p_if (fun c => p_ret ⟨fr, ?_⟩) (fun c => ?_)
      · have : k = 3 := by omega
        subst this; exact pj
      have inner : ∀ (fu2 l : Nat) (M2 : Mem), l ≤ 9 → (∀ c j : Int, ¬ c = 161 → mG M2 c j = mG M c j) → (∀ c : Nat, c < 9 → mG M2 161 (c : Int) = b2i (if c < l then wst (wsn (S.fa φ r) k) (k : Int) ((c / 3 : Nat) : Int) ((c % 3 : Nat) : Int) else wsn (S.fa φ r) k ((c / 3 : Nat) : Int) ((c % 3 : Nat) : Int))) → pw (mX9_findJoined_40 (mX9_findJoined_33 fu) fu2 126 (k : Int) (l : Int) M2) (fun q => (∀ c j : Int, ¬ c = 161 → mG q.2 c j = mG M c j) ∧ PJ (clo (S.fa φ r)) 9 q.2) := by
        intro fu2
        induction fu2 with
        | zero => intro l M2 _ _ _; exact p_none
        | succ fu2 ih2 =>
          intro l M2 hl fr pj
          show pw (bX9_findJoined_40 (mX9_findJoined_33 fu) (mX9_findJoined_40 (mX9_findJoined_33 fu) fu2) 126 (k : Int) (l : Int) M2) _
          unfold bX9_findJoined_40
          refine p_if (fun c2 => ?_) (fun c2 => ?_)
          · rw [wI_id (x := (k : Int) + 1) (by omega) (by omega), show (k : Int) + 1 = ((k + 1 : Nat) : Int) by omega]
            refine ih (k + 1) M2 (by omega) fr (fun c hc => ?_)
            rw [pj c hc, if_pos (by omega)]; rfl
          · have g47 : mG M2 126 47 = 161 := (fr 126 47 (by decide)).trans h.1.2.2.2.2.2.2.2.2.2.2.2
            have v1 := pj l (by omega)
            rw [if_neg (Nat.lt_irrefl l)] at v1
            have v2 := pj (3 * (l / 3) + k) (by omega)
            have d1 : (3 * (l / 3) + k) / 3 = l / 3 := by omega
            have d2 : (3 * (l / 3) + k) % 3 = k := by omega
            rw [d1, d2, wst_col, ite_self] at v2
            have v3 := pj (3 * k + l % 3) (by omega)
            have d3 : (3 * k + l % 3) / 3 = k := by omega
            have d4 : (3 * k + l % 3) % 3 = l % 3 := by omega
            rw [d3, d4, wst_diag, ite_self] at v3
            have wr : ∀ v : Int, v = b2i (wst (wsn (S.fa φ r) k) (k : Int) ((l / 3 : Nat) : Int) ((l % 3 : Nat) : Int)) → pw (mX9_findJoined_95 (mX9_findJoined_33 fu) (mX9_findJoined_40 (mX9_findJoined_33 fu) fu2) 126 (k : Int) (l : Int) 161 (l : Int) v M2) (fun q => (∀ c j : Int, ¬ c = 161 → mG q.2 c j = mG M c j) ∧ PJ (clo (S.fa φ r)) 9 q.2) := fun v hv => by
              unfold mX9_findJoined_95
              refine p_aSZ (fun M3 h3 => ?_)
              rw [wI_id (x := (l : Int) + 1) (by omega) (by omega), show (l : Int) + 1 = ((l + 1 : Nat) : Int) by omega]
              refine ih2 (l + 1) M3 (by omega) (fun c j x => (st_ne h3 (fun w => x w.1)).trans (fr c j x)) (fun c hc => ?_)
              by_cases e : c = l
              · rw [e, st_eq h3, hv, if_pos (by omega)]
              · rw [st_ne h3 (fun w => e (by have := w.2; omega)), pj c hc]
                by_cases lt : c < l
                · rw [if_pos lt, if_pos (by omega)]
                · rw [if_neg lt, if_neg (by omega)]
            refine p_gFc (ji := 47) rfl g47 (p_gFc (ji := 47) rfl g47 (p_aGc v1 (p_if (fun z1 => ?_) (fun z1 => ?_))))
            · have z1 := b2i_0.mp z1
              refine p_gFc (ji := 47) rfl g47 (p_dMc (rem3 (by omega)) ?_)
              rw [wI_id (x := (l : Int) - ((l % 3 : Nat) : Int)) (by omega) (by omega), wI_id (x := (l : Int) - ((l % 3 : Nat) : Int) + (k : Int)) (by omega) (by omega), show (l : Int) - ((l % 3 : Nat) : Int) + (k : Int) = ((3 * (l / 3) + k : Nat) : Int) by omega]
              refine p_aGc v2 (p_if (fun z2 => ?_) (fun z2 => ?_))
              · have z2 := b2i_0.mp z2
                refine wr 0 ?_
                unfold wst
                rw [z1, z2]; rfl
              · refine p_gFc (ji := 47) rfl g47 (p_dMc (rem3 (by omega)) ?_)
                rw [wI_id (x := 3 * (k : Int)) (by omega) (by omega), wI_id (x := 3 * (k : Int) + ((l % 3 : Nat) : Int)) (by omega) (by omega), show 3 * (k : Int) + ((l % 3 : Nat) : Int) = ((3 * k + l % 3 : Nat) : Int) by omega]
                refine p_aGc v3 (p_if (fun z3 => ?_) (fun z3 => ?_))
                · have z3 := b2i_0.mp z3
                  refine wr 0 ?_
                  unfold wst
                  rw [z1, z3, Bool.and_false]; rfl
                · refine wr 1 ?_
                  unfold wst
                  rw [z1]
                  cases h2 : wsn (S.fa φ r) k ((l / 3 : Nat) : Int) (k : Int) with
                  | false => exact absurd (b2i_0.mpr h2) z2
                  | true =>
                    cases h3 : wsn (S.fa φ r) k (k : Int) ((l % 3 : Nat) : Int) with
                    | false => exact absurd (b2i_0.mpr h3) z3
                    | true => rfl
            · refine wr 1 ?_
              unfold wst
              cases h2 : wsn (S.fa φ r) k ((l / 3 : Nat) : Int) ((l % 3 : Nat) : Int) with
              | false => exact absurd (b2i_0.mpr h2) z1
              | true => rw [Bool.true_or]; rfl
      exact inner FU 0 M' (by omega) fr (fun c hc => by rw [if_neg (by omega)]; exact pj c hc)
  have first : ∀ (fu k : Nat) (M' : Mem), k ≤ 9 → (∀ c j : Int, ¬ c = 161 → mG M' c j = mG M c j) → PJ (S.fa φ r) k M' → pw (mX9_findJoined_2 fu 126 r (k : Int) M') (fun q => (∀ c j : Int, ¬ c = 161 → mG q.2 c j = mG M c j) ∧ PJ (clo (S.fa φ r)) 9 q.2) := by
    intro fu
    induction fu with
    | zero => intro k M' _ _ _; exact p_none
    | succ fu ih =>
      intro k M' hk fr pj
      show pw (bX9_findJoined_2 (mX9_findJoined_2 fu) 126 r (k : Int) M') _
      unfold bX9_findJoined_2
      refine p_if (fun c => ?_) (fun c => ?_)
      · have : k = 9 := by omega
        subst this
        exact mid FU 0 M' (by omega) fr pj
      · have g47 : mG M' 126 47 = 161 := (fr 126 47 (by decide)).trans h.1.2.2.2.2.2.2.2.2.2.2.2
        refine p_gFc (ji := 47) rfl g47 (p_dQc (quo3 (by omega)) (p_dMc (rem3 (by omega)) (p_gK (p_call (w_isSo ok (h.kp (fm fr)) h0 h1) (fun v m y => ?_)))))
        obtain ⟨e, y⟩ := y
        replace e : m = M' := e
        replace y : v = b2i (S.fa φ r ((k / 3 : Nat) : Int) ((k % 3 : Nat) : Int)) := y
        subst e; subst y
        refine p_aSZ (fun M3 h3 => ?_)
        rw [wI_id (x := (k : Int) + 1) (by omega) (by omega), show (k : Int) + 1 = ((k + 1 : Nat) : Int) by omega]
        refine ih (k + 1) M3 (by omega) (fun c j x => (st_ne h3 (fun w => x w.1)).trans (fr c j x)) (fun c hc => ?_)
        by_cases e : c = k
        · rw [e, st_eq h3]
        · rw [st_ne h3 (fun w => e (by have := w.2; omega))]
          exact pj c (by omega)
  exact first FU 0 M (by omega) (fun _ _ _ => rfl) (fun c hc => absurd hc (by omega))
/-! trees -/
def tgood (A : Int → Int → Bool) : Nat → Bool
  | 0 => true
  | i + 1 => tgood A i && trow A (i : Int)
theorem trow_c (A : Int → Int → Bool) (i : Int) : trow A i = (decide (cnt (fun k => A i k) 3 ≤ 1) && !clo A i i) := by
  unfold trow
  generalize clo A i i = c
  show _ = (decide (0 + (if A i 0 = true then 1 else 0) + (if A i 1 = true then 1 else 0) + (if A i 2 = true then 1 else 0) ≤ (1 : Int)) && !c)
  cases A i 0 <;> cases A i 1 <;> cases A i 2 <;> cases c <;> rfl
theorem w_isTree {r : Int} (ok : S.ok) (h : RM S ps t φ M) (h0 : 0 ≤ r) (h1 : r < S.nr) : pw (mX9_isTree 126 r M) (fun q => (∀ c j : Int, ¬ c = 161 → mG q.2 c j = mG M c j) ∧ q.1 = b2i (treeA (S.fa φ r))) := by
  unfold mX9_isTree
  refine p_gK (p_call (w_fj ok h h0 h1) (fun v m y => ?_))
  obtain ⟨fr, pj⟩ := y
  replace fr : ∀ c j : Int, ¬ c = 161 → mG m c j = mG M c j := fr
  replace pj : PJ (clo (S.fa φ r)) 9 m := pj
  have hm : RM S ps t φ m := h.kp (fun c j _ _ z => fr c j z)
  have g47 : mG m 126 47 = 161 := hm.1.2.2.2.2.2.2.2.2.2.2.2
  have rows : ∀ (fu i : Nat), i ≤ 3 → pw (mX9_isTree_9 fu 126 r (b2i (tgood (S.fa φ r) i)) (i : Int) m) (fun q => (∀ c j : Int, ¬ c = 161 → mG q.2 c j = mG M c j) ∧ q.1 = b2i (treeA (S.fa φ r))) := by
    intro fu
    induction fu with
    | zero => intro i _; exact p_none
    | succ fu ih =>
      intro i hi
      show pw (bX9_isTree_9 (mX9_isTree_9 fu) 126 r (b2i (tgood (S.fa φ r) i)) (i : Int) m) _
      unfold bX9_isTree_9
      refine p_if (fun c => p_zR (fun _ => p_ret ⟨fr, ?_⟩)) (fun c => ?_)
      · have : i = 3 := by omega
        subst this
        show b2i (tgood (S.fa φ r) 3) = _
        unfold treeA
        show b2i (((true && trow (S.fa φ r) 0) && trow (S.fa φ r) 1) && trow (S.fa φ r) 2) = _
        rw [Bool.true_and]
      have nx : ∀ b : Bool, b = tgood (S.fa φ r) (i + 1) → pw (mX9_isTree_79 (mX9_isTree_9 fu) 126 r (i : Int) (b2i b) m) (fun q => (∀ c j : Int, ¬ c = 161 → mG q.2 c j = mG M c j) ∧ q.1 = b2i (treeA (S.fa φ r))) := fun b hb => by
        unfold mX9_isTree_79
        rw [wI_id (x := (i : Int) + 1) (by omega) (by omega), show (i : Int) + 1 = ((i + 1 : Nat) : Int) by omega, hb]
        exact ih (i + 1) (by omega)
      have tg : tgood (S.fa φ r) (i + 1) = (tgood (S.fa φ r) i && (decide (cnt (fun k => S.fa φ r (i : Int) k) 3 ≤ 1) && !clo (S.fa φ r) (i : Int) (i : Int))) := by
        rw [← trow_c]; rfl
      have cols : ∀ (fu2 j : Nat), j ≤ 3 → pw (mX9_isTree_20 (mX9_isTree_9 fu) fu2 126 r (b2i (tgood (S.fa φ r) i)) (i : Int) (cnt (fun k => S.fa φ r (i : Int) k) j) (j : Int) m) (fun q => (∀ c j : Int, ¬ c = 161 → mG q.2 c j = mG M c j) ∧ q.1 = b2i (treeA (S.fa φ r))) := by
        intro fu2
        induction fu2 with
        | zero => intro j _; exact p_none
        | succ fu2 ih2 =>
          intro j hj
          show pw (bX9_isTree_20 (mX9_isTree_9 fu) (mX9_isTree_20 (mX9_isTree_9 fu) fu2) 126 r (b2i (tgood (S.fa φ r) i)) (i : Int) (cnt (fun k => S.fa φ r (i : Int) k) j) (j : Int) m) _
          have cb := cnt_b (fun k => S.fa φ r (i : Int) k) j
          unfold bX9_isTree_20
          refine p_if (fun c2 => ?_) (fun c2 => ?_)
          · have : j = 3 := by omega
            subst this
            refine p_if (fun z1 => nx false ?_) (fun z1 => p_if (fun z2 => nx false ?_) (fun z2 => ?_))
            · rw [tg, b2i_0.mp z1, Bool.false_and]
            · rw [tg, decide_eq_false (by omega), Bool.false_and, Bool.and_false]
            · have tgi : tgood (S.fa φ r) i = true := by
                cases hb : tgood (S.fa φ r) i with
                | true => rfl
                | false => exact absurd (b2i_0.mpr hb) z1
              have v := pj (4 * i) (by omega)
              rw [show 4 * i / 3 = i by omega, show 4 * i % 3 = i by omega] at v
              refine p_gFc (ji := 47) rfl g47 ?_
              rw [wI_id (x := 4 * (i : Int)) (by omega) (by omega), show 4 * (i : Int) = ((4 * i : Nat) : Int) by omega]
              refine p_aGc v (p_if (fun z3 => nx true ?_) (fun z3 => nx false ?_))
              · rw [tg, tgi, decide_eq_true (by omega), b2i_0.mp z3]; rfl
              · have : clo (S.fa φ r) (i : Int) (i : Int) = true := by
                  cases hb : clo (S.fa φ r) (i : Int) (i : Int) with
                  | true => rfl
                  | false => exact absurd (b2i_0.mpr hb) z3
                rw [tg, this]
                simp
          · refine p_gK (p_call (w_isSo ok hm h0 h1) (fun v m2 y => ?_))
            obtain ⟨e, y⟩ := y
            replace e : m2 = m := e
            replace y : v = b2i (S.fa φ r (i : Int) (j : Int)) := y
            subst e; subst y
            have cs : cnt (fun k => S.fa φ r (i : Int) k) (j + 1) = cnt (fun k => S.fa φ r (i : Int) k) j + (if S.fa φ r (i : Int) (j : Int) = true then 1 else 0) := rfl
            refine p_if (fun z => ?_) (fun z => ?_)
            · unfold mX9_isTree_44
              rw [b2i_0.mp z, if_neg (by decide)] at cs
              rw [wI_id (x := (j : Int) + 1) (by omega) (by omega), show (j : Int) + 1 = ((j + 1 : Nat) : Int) by omega, wI_id (x := cnt (fun k => S.fa φ r (i : Int) k) j + 0) (by omega) (by omega), ← cs]
              exact ih2 (j + 1) (by omega)
            · have : S.fa φ r (i : Int) (j : Int) = true := by
                cases hb : S.fa φ r (i : Int) (j : Int) with
                | true => rfl
                | false => rw [hb] at z; exact absurd rfl z
              unfold mX9_isTree_44
              rw [this, if_pos rfl] at cs
              rw [wI_id (x := (j : Int) + 1) (by omega) (by omega), show (j : Int) + 1 = ((j + 1 : Nat) : Int) by omega, wI_id (x := cnt (fun k => S.fa φ r (i : Int) k) j + 1) (by omega) (by omega), ← cs]
              exact ih2 (j + 1) (by omega)
      exact cols FU 0 (by omega)
  exact rows FU 0 (by omega)
end
