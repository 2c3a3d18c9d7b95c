/-! ===== the class judges sets of worlds ===== -/
/-- in which worlds a text is so -/
def TMw (S : SH) (ps : List Row) (w : Nat) : Bool := hd (sm S (S.fa (phw S.nf w)) ps) (envOf 0)
def FQ (M M' : Mem) : Prop := ∀ c j : Int, ¬ (c = 20 ∧ (j = 0 ∨ j = 1 ∨ j = 5)) → ¬ (21 ≤ c ∧ c ≤ 23) → mG M' c j = mG M c j
theorem K2.fq {M M' : Mem} (h : K2 M) (k : FQ M M') : K2 M' := h.kp (fun x hx => by
  have c := cst_out x hx
  exact k _ _ (fun e => by omega) (fun e => by omega))
theorem z_path : ∀ r : Nat, r < 4 → iand (ishr 0 (r : Int)) 1 = 0 := by decide +kernel
theorem e_255 {e : Int → Int} {M : Mem} : ∀ v : Int, 0 ≤ v → v ≤ 3 → ¬ bnd 255 v = -1 → mG M 22 (slt 0 v) = e v := fun v v0 v1 h => by
  have d : ∀ v : Nat, v < 4 → bnd 255 (v : Int) = -1 := by decide +kernel
  have := d v.toNat (by omega)
  rw [show ((v.toNat : Nat) : Int) = v by omega] at this
  exact absurd this h
section
variable {S : SH} {ps : List Row} {s t : Int} {M : Mem}
theorem q_soInWord {a : Nat} (ok : S.ok) (n12 : S.nf ≤ 12) (o : okST s t) (k2 : K2 M) (sh : SHC S s M) (tt : TT ps t M) (hty : ty S.nr S.k1 S.k2 [(0, 255)] ps) (ha : a < 64) : pw (mX0_soInWord 20 s t (a : Int) M) (fun q => (InLL q.1 ∧ ∀ b : Nat, b < 64 → lb q.1 b = TMw S ps (64 * a + b)) ∧ FQ M q.2) := by
  have nf := ok.nf
  have os := o.1
  have ot := o.2
  obtain ⟨Q, hQ⟩ : ∃ Q : Int × Mem → Prop, Q = fun q => (InLL q.1 ∧ ∀ b : Nat, b < 64 → lb q.1 b = TMw S ps (64 * a + b)) ∧ FQ M q.2 := ⟨_, rfl⟩
  rw [← hQ]
  obtain ⟨Φ, hΦ⟩ : ∃ Φ : Nat → Int → Bool, Φ = fun b p => phw S.nf (64 * a + b) p := ⟨_, rfl⟩
  have loop : ∀ (fu p : Nat) (m : Mem), (p : Int) ≤ S.nf → (mG m 20 0 = s ∧ mG m 20 1 = t ∧ mG m 20 5 = 0) → (∀ c j : Int, ¬ (c = 20 ∧ (j = 0 ∨ j = 1 ∨ j = 5)) → ¬ c = 21 → mG m c j = mG M c j) → (∀ x : Nat, x < p → InLL (mG m 21 (x : Int)) ∧ ∀ b : Nat, b < 64 → lb (mG m 21 (x : Int)) b = Φ b (x : Int)) → pw (mX0_soInWord_18 fu 20 (a : Int) (p : Int) m) Q := by
    intro fu
    induction fu with
    | zero => intro p m _ _ _ _; exact p_none
    | succ fu ih =>
      intro p m hp hb fr hf
      show pw (bX0_soInWord_18 (mX0_soInWord_18 fu) 20 (a : Int) (p : Int) m) _
      have fr' : ∀ c j : Int, ¬ c = 20 → ¬ c = 21 → mG m c j = mG M c j := fun c j x y => fr c j (fun w => x w.1) y
      have shm : SHC S s m := sh.kp (fun c j c0 c1 => fr' c j (by omega) (by omega))
      have c20 : ∀ j, ¬ (j = 0 ∨ j = 1 ∨ j = 5) → mG m 20 j = mG M 20 j := fun j hj => fr 20 j (fun w => hj w.2) (by decide)
      have e2 : mG m 20 2 = 21 := (c20 2 (by decide)).trans k2.c20_2
      have fin : S.nf ≤ (p : Int) → pw (mX0_soInWord_63 20 m) Q := fun c => by
        unfold mX0_soInWord_63
        have jf : JF S ps t s Φ m := ⟨⟨hb.1, hb.2.1, e2, (c20 3 (by decide)).trans k2.c20_3, (c20 4 (by decide)).trans k2.c20_4⟩, shm, tt.of (fun b j b0 b1 => fr' b j (by omega) (by omega)), fun x x0 x1 => by
          obtain ⟨y, rfl⟩ := Int.eq_ofNat_of_zero_le x0
          exact hf y (by omega)⟩
        have jp : JP S Φ m := fun r r0 r1 _ hz => by
          exfalso
          obtain ⟨y, rfl⟩ := Int.eq_ofNat_of_zero_le r0
          have := ok.2.1
          rw [hb.2.2] at hz
          exact hz (z_path y (by omega))
        have h5 : 0 ≤ mG m 20 5 ∧ mG m 20 5 < 16 := by rw [hb.2.2]; exact ⟨by decide, by decide⟩
        have jc : JC S ps t s Φ m := ⟨jf, jp, h5⟩
        refine p_gK (p_call (q_judged ok o 45 0 0 0 255 [] (envOf 0) m jc hty ScS.start (Int.le_refl _) (Int.le_refl _) e_255) (fun r m' y => p_ret ?_))
        obtain ⟨⟨y1, y2⟩, _, y4⟩ := y
        rw [hQ]
        refine ⟨⟨y1, fun b hb => ?_⟩, fun c j x y => ?_⟩
        · have := y2 b hb
          rw [hΦ] at this
          exact this
        · have := y4 c j (fun w => x ⟨w.1, Or.inr (Or.inr w.2)⟩) (fun w => y (by omega)) (fun w => y (by omega))
          exact this.trans (fr c j x (fun w => y (by omega)))
      unfold bX0_soInWord_18
      refine p_gFc (ji := 0) rfl hb.1 (p_gFc (ji := 7) rfl shm.1.2.2.2.2.2.2.2 (p_if (fun c => fin c) (fun c => p_it0 (by omega) ?_)))
      refine p_gFc (ji := 2) rfl e2 (p_gFc (ji := 0) rfl hb.1 (p_gK (p_call (q_bit (p := (p : Int)) shm ok ⟨by omega, by omega⟩) (fun bt m1 y => ?_))))
      obtain ⟨y1, y2⟩ := y
      replace y1 : m1 = m := y1
      replace y2 : bt = S.nf - 1 - (p : Int) := y2
      subst y1; subst y2
      refine p_call (q_soAt (i := S.nf - 1 - (p : Int)) (a := a) (by omega) ha) (fun v m2 y => ?_)
      obtain ⟨y3, y4, y5⟩ := y
      replace y3 : m2 = m1 := y3
      replace y4 : InLL v := y4
      replace y5 : ∀ b : Nat, b < 64 → lb v b = (64 * a + b).testBit (S.nf - 1 - (p : Int)).toNat := y5
      subst y3
      refine p_aS (fun m3 h3 => ?_)
      rw [wI_s (p := p) (by omega)]
      refine ih (p + 1) m3 (by omega) ⟨(st_ne h3 (fun w => absurd w.1 (by decide))).trans hb.1, (st_ne h3 (fun w => absurd w.1 (by decide))).trans hb.2.1, (st_ne h3 (fun w => absurd w.1 (by decide))).trans hb.2.2⟩ (fun c j x y => (st_ne h3 (fun w => y w.1)).trans (fr c j x y)) (fun x hx => ?_)
      by_cases e : x = p
      · rw [e, st_eq h3]
        refine ⟨y4, fun b hb => ?_⟩
        rw [y5 b hb, hΦ]; rfl
      · rw [st_ne h3 (fun w => e (by have := w.2; omega))]
        exact hf x (by omega)
  unfold mX0_soInWord
  refine p_pF (ji := 0) rfl (fun M1 h1 => p_pF (ji := 1) rfl (fun M2 h2 => p_pF (ji := 5) rfl (fun M3 h3 => ?_)))
  refine loop FU 0 M3 (by omega) ⟨?_, ?_, st_eq h3⟩ (fun c j x y => ?_) (fun x hx => absurd hx (by omega))
  · rw [st_ne h3 (fun w => absurd w.2 (by decide)), st_ne h2 (fun w => absurd w.2 (by decide)), st_eq h1]
  · rw [st_ne h3 (fun w => absurd w.2 (by decide)), st_eq h2]
  · rw [st_ne h3 (fun w => x ⟨w.1, Or.inr (Or.inr w.2)⟩), st_ne h2 (fun w => x ⟨w.1, Or.inr (Or.inl w.2)⟩), st_ne h1 (fun w => x ⟨w.1, Or.inl w.2⟩)]
end
