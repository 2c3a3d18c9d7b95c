/-! ===== the fewest stories that leave nothing, on both sides ===== -/
/-- the worlds of f in which the stories of T are so -/
def wth (S : SH) (P : Nat → List Row) (f : Nat → Bool) (T w : Nat) : Bool := f w && allb (stw S P T w) 8
/-- T leaves nothing -/
def LN (S : SH) (P : Nat → List Row) (n : Nat) (f : Nat → Bool) (T : Nat) : Prop := ∀ w, w < 2 ^ n → wth S P f T w = false
def subs (a b : Nat) : Prop := ∀ s : Nat, a.testBit s = true → b.testBit s = true
/-- X is the first of those that leave nothing -/
def FST (S : SH) (P : Nat → List Row) (n vw : Nat) (f : Nat → Bool) (X : Nat) : Prop := (X < 256 ∧ subs X vw ∧ LN S P n f X) ∧ ∀ T, T < 256 → subs T vw → LN S P n f T → ¬ key8 T < key8 X
theorem FST.uniq {S : SH} {P : Nat → List Row} {n vw : Nat} {f : Nat → Bool} {X Y : Nat} (h : FST S P n vw f X) (k : FST S P n vw f Y) : X = Y := by
  have h1 := h.2 Y k.1.1 k.1.2.1 k.1.2.2
  have h2 := k.2 X h.1.1 h.1.2.1 h.1.2.2
  exact key_inj h.1.1 k.1.1 (by omega)
theorem LN.mono {S : SH} {P : Nat → List Row} {n : Nat} {f : Nat → Bool} {T U : Nat} (h : LN S P n f T) (hs : subs T U) : LN S P n f U := fun w hw => by
  have h7 := h w hw
  unfold wth at h7 ⊢
  cases e : f w with
  | false => rfl
  | true =>
    rw [e, Bool.true_and] at h7
    rw [Bool.true_and]
    cases e2 : allb (stw S P U w) 8 with
    | false => rfl
    | true =>
      have a := (allb_t 8).mp e2
      have h9 : allb (stw S P T w) 8 = true := (allb_t 8).mpr (fun s hs8 => by
        have := a s hs8
        unfold stw at this ⊢
        cases e3 : T.testBit s with
        | false => rfl
        | true => rw [hs s e3] at this; exact this)
      rw [h9] at h7
      cases h7
section
variable {S : SH} {P : Nat → List Row} {M : Mem}
/-- the truths of the stories of vw -/
def TRS (S : SH) (P : Nat → List Row) (n : Int) (vw : Nat) (M : Mem) : Prop := ∀ s : Nat, s < 8 → vw.testBit s = true → WS (47 + 2 * (s : Int)) n (TMw S (P s)) M
theorem q_leavesNothing {l : Int} {n T vw : Nat} {f : Nat → Bool} (n12 : n ≤ 12) (hf : ∀ w, ¬ w < 2 ^ n → f w = false) (k2 : K2 M) (ws : WS l (n : Int) f M) (tr : TRS S P (n : Int) vw M) (hT : T < 256) (hs : subs T vw) : pw (mX4_leavesNothing 2 l (T : Int) M) (fun q => q.2 = M ∧ ((LN S P n f T ∧ q.1 = 1) ∨ (¬ LN S P n f T ∧ q.1 = 0))) := by
  have ub := uw_b (n := (n : Int)) ⟨by omega, by omega⟩
  obtain ⟨Q, hQ⟩ : ∃ Q : Int × Mem → Prop, Q = fun q => q.2 = M ∧ ((LN S P n f T ∧ q.1 = 1) ∨ (¬ LN S P n f T ∧ q.1 = 0)) := ⟨_, rfl⟩
  rw [← hQ]
  have l2 : ∀ (fu a : Nat), a ≤ uw (n : Int) → (∀ w, w < 64 * a → wth S P f T w = false) → pw (mX4_leavesNothing_2 fu 2 l (T : Int) (a : Int) M) Q := by
    intro fu
    induction fu with
    | zero => intro a _ _; exact p_none
    | succ fu ih =>
      intro a ha hz
      show pw (bX4_leavesNothing_2 (mX4_leavesNothing_2 fu) 2 l (T : Int) (a : Int) M) _
      unfold bX4_leavesNothing_2
      refine p_gK (p_call (P := fun q => q.2 = M ∧ q.1 = ((uw (n : Int) : Nat) : Int)) ?_ (fun r m y => ?_))
      · unfold mX7_usedWords
        exact p_gFc (ji := 1) rfl ws.1.2.1 (p_ret ⟨rfl, rfl⟩)
      obtain ⟨y1, y2⟩ := y
      replace y1 : m = M := y1
      replace y2 : r = ((uw (n : Int) : Nat) : Int) := y2
      subst y1
      refine p_if (fun c => p_ret ?_) (fun c => ?_)
      · rw [hQ]
        refine ⟨rfl, Or.inl ⟨fun w hw => hz w ?_, rfl⟩⟩
        have c : r ≤ (a : Int) := c
        have p := ub.2.2.1
        rw [Int.toNat_natCast] at p
        omega
      · have c : ¬ r ≤ (a : Int) := c
        have a1 : a < uw (n : Int) := by omega
        obtain ⟨v1, v2⟩ := ws.2 a a1
        refine p_gFc (ji := 0) rfl ws.1.1 (p_aG (fun x hx => ?_))
        rw [hx] at v1 v2
        have l21 : ∀ (fu2 s : Nat) (v : Int), s ≤ 8 → InLL v → (∀ b : Nat, b < 64 → lb v b = (f (64 * a + b) && allb (stw S P T (64 * a + b)) s)) → pw (mX4_leavesNothing_21 (mX4_leavesNothing_2 fu) fu2 2 l (T : Int) (a : Int) v (s : Int) m) Q := by
          intro fu2
          induction fu2 with
          | zero => intro s v _ _ _; exact p_none
          | succ fu2 ih2 =>
            intro s v hs8 hv1 hv2
            show pw (bX4_leavesNothing_21 (mX4_leavesNothing_2 fu) (mX4_leavesNothing_21 (mX4_leavesNothing_2 fu) fu2) 2 l (T : Int) (a : Int) v (s : Int) m) _
            unfold bX4_leavesNothing_21
            refine p_if (fun d => ?_) (fun d => ?_)
            · have e8 : s = 8 := by omega
              subst e8
              refine p_if (fun z => ?_) (fun z => p_ret ?_)
              · rw [wI_s (p := a) (by omega)]
                have z := (l_zero hv1).mp ((lcmp_0 _ _).mp z)
                refine ih (a + 1) (by omega) (fun w hw => ?_)
                by_cases c2 : w < 64 * a
                · exact hz w c2
                · have := hv2 (w - 64 * a) (by omega)
                  rw [z _ (by omega), show 64 * a + (w - 64 * a) = w by omega] at this
                  exact this.symm
              · rw [hQ]
                refine ⟨rfl, Or.inr ⟨fun ln => z ((lcmp_0 _ _).mpr ((l_zero hv1).mpr (fun b hb => ?_))), rfl⟩⟩
                rw [hv2 b hb]
                by_cases c2 : 64 * a + b < 2 ^ n
                · exact ln _ c2
                · rw [hf _ c2]; rfl
            · have go : ∀ v2 : Int, InLL v2 → (∀ b : Nat, b < 64 → lb v2 b = (f (64 * a + b) && allb (stw S P T (64 * a + b)) (s + 1))) → pw (mX4_leavesNothing_54 (mX4_leavesNothing_2 fu) (mX4_leavesNothing_21 (mX4_leavesNothing_2 fu) fu2) 2 l (T : Int) (a : Int) v2 (s : Int) m) Q := fun v2 h1 h2 => by
                unfold mX4_leavesNothing_54
                rw [wI_s (p := s) (by omega)]
                exact ih2 (s + 1) v2 (by omega) h1 h2
              refine p_if (fun c2 => go v hv1 (fun b hb => ?_)) (fun c2 => ?_)
              · have t := (ibit (x := T) (k := s) (by omega) (by omega)).mp c2
                rw [hv2 b hb]
                show (_ && allb _ s) = (_ && (allb _ s && stw S P T (64 * a + b) s))
                have : stw S P T (64 * a + b) s = true := by unfold stw; rw [t]; rfl
                rw [this, Bool.and_true]
              · have t : T.testBit s = true := by
                  cases e : T.testBit s with
                  | true => rfl
                  | false => exact absurd ((ibit (x := T) (k := s) (by omega) (by omega)).mpr e) c2
                have wt := tr s (by omega) (hs s t)
                obtain ⟨u1, u2⟩ := wt.2 a a1
                refine p_gFc (ji := 3) rfl k2.c2_3 (p_aGc (k2.ws (s := s) (by omega)).1 (p_gFc (ji := 0) rfl wt.1.1 (p_aG (fun y hy => go _ (land_L _ _) (fun b hb => ?_)))))
                rw [hy] at u2
                rw [lb_and, hv2 b hb, u2 b hb]
                show ((_ && allb _ s) && _) = (_ && (allb _ s && stw S P T (64 * a + b) s))
                have : stw S P T (64 * a + b) s = TMw S (P s) (64 * a + b) := by unfold stw; rw [t]; rfl
                rw [this, Bool.and_assoc]
        refine l21 FU 0 x (Nat.zero_le _) v1 (fun b hb => ?_)
        rw [v2 b hb]
        show _ = (_ && true)
        rw [Bool.and_true]
  exact l2 FU 0 (Nat.zero_le _) (fun w hw => absurd hw (by omega))
theorem q_fewest {l : Int} {n vw : Nat} {f : Nat → Bool} (n12 : n ≤ 12) (hf : ∀ w, ¬ w < 2 ^ n → f w = false) (k2 : K2 M) (h11 : 0 ≤ mG M 3 11 ∧ mG M 3 11 ≤ 8) (hv : vwb M = vw) (v8 : vw < 256) (ws : WS l (n : Int) f M) (tr : TRS S P (n : Int) vw M) (hl : LN S P n f vw) : pw (mX4_fewestAgainst 2 l M) (fun q => q.2 = M ∧ ∃ X : Nat, q.1 = (X : Int) ∧ FST S P n vw f X) := by
  obtain ⟨Q, hQ⟩ : ∃ Q : Int × Mem → Prop, Q = fun q => q.2 = M ∧ ∃ X : Nat, q.1 = (X : Int) ∧ FST S P n vw f X := ⟨_, rfl⟩
  rw [← hQ]
  have loop : ∀ (fu T X : Nat), T ≤ 256 → X < 256 → subs X vw → LN S P n f X → (∀ U, U < T → subs U vw → LN S P n f U → ¬ key8 U < key8 X) → pw (mX4_fewestAgainst_13 fu 2 l (vw : Int) (X : Int) (T : Int) M) Q := by
    intro fu
    induction fu with
    | zero => intro T X _ _ _ _ _; exact p_none
    | succ fu ih =>
      intro T X hT hX xs xl hm
      show pw (bX4_fewestAgainst_13 (mX4_fewestAgainst_13 fu) 2 l (vw : Int) (X : Int) (T : Int) M) _
      unfold bX4_fewestAgainst_13
      refine p_if (fun c => p_ret ?_) (fun c => ?_)
      · rw [hQ]
        exact ⟨rfl, X, rfl, ⟨hX, xs, xl⟩, fun U hU => hm U (by omega)⟩
      have T8 : T < 256 := by omega
      have stay : (subs T vw → LN S P n f T → ¬ key8 T < key8 X) → pw (mX4_fewestAgainst_64 (mX4_fewestAgainst_13 fu) 2 l (vw : Int) (X : Int) (T : Int) M) Q := fun h => by
        unfold mX4_fewestAgainst_64
        rw [wI_s (p := T) (by omega)]
        refine ih (T + 1) X (by omega) hX xs xl (fun U hU us ul => ?_)
        by_cases e : U = T
        · rw [e] at us ul ⊢
          exact h us ul
        · exact hm U (by omega) us ul
      refine p_if (fun c2 => ?_) (fun c2 => ?_)
      · have ts : subs T vw := (sub_i T8 v8).mp c2
        refine p_call (q_isBefore T8 hX) (fun v m y => ?_)
        obtain ⟨y1, y2⟩ := y
        replace y1 : m = M := y1
        replace y2 : v = b2i (bef T X) := y2
        subst y1
        rw [bef_key T8 hX] at y2
        refine p_if (fun c3 => ?_) (fun c3 => ?_)
        · have c3 : v = 0 := c3
          have := b2i_0.mp (y2.symm.trans c3)
          have nk := of_decide_eq_false this
          unfold mX4_fewestAgainst_43 mX4_fewestAgainst_44
          exact p_it1 rfl (stay (fun _ _ => nk))
        · have c3 : ¬ v = 0 := c3
          have bk : key8 T < key8 X := by
            apply Classical.byContradiction
            intro h
            rw [decide_eq_false h] at y2
            exact c3 y2
          unfold mX4_fewestAgainst_44
          refine p_it0 z_1 (p_gK (p_call (q_leavesNothing n12 hf k2 ws tr T8 ts) (fun r m2 y => ?_)))
          obtain ⟨y3, y4⟩ := y
          replace y3 : m2 = m := y3
          subst y3
          rcases y4 with ⟨ln, e⟩ | ⟨ln, e⟩
          · replace e : r = 1 := e
            refine p_it0 (show ¬ r = 0 by omega) ?_
            unfold mX4_fewestAgainst_64
            rw [wI_s (p := T) (by omega)]
            refine ih (T + 1) T (by omega) T8 ts ln (fun U hU us ul => ?_)
            by_cases e : U = T
            · rw [e]; omega
            · have := hm U (by omega) us ul
              omega
          · exact p_it1 e (stay (fun _ w => absurd w ln))
      · unfold mX4_fewestAgainst_43 mX4_fewestAgainst_44
        exact p_it1 rfl (stay (fun w => absurd ((sub_i T8 v8).mpr w) c2))
  unfold mX4_fewestAgainst
  refine p_gFc (ji := 0) rfl k2.c2_0 (p_gK (p_call (q_viewed k2 h11) (fun v m y => ?_)))
  obtain ⟨y1, y2⟩ := y
  replace y1 : m = M := y1
  replace y2 : v = ((vwb M : Nat) : Int) := y2
  subst y1
  rw [hv] at y2
  subst y2
  exact loop FU 0 vw (by omega) v8 (fun _ h => h) hl (fun U hU => absurd hU (by omega))
end
