/-! ===== the class asks ===== -/
theorem bits_full : ∀ k : Nat, bitsOf (fun _ => true) k = 2 ^ k - 1 := fun k => by
  refine Nat.eq_of_testBit_eq (fun i => ?_)
  rw [bitsOf_b, Nat.testBit_two_pow_sub_one, Bool.and_true]
theorem bits_up (P : Nat → Bool) (k : Nat) : bitsOf P (k + 1) = bitsOf P k ||| (if P k = true then 2 ^ k else 0) := rfl
/-- the worlds, told one by one -/
def WKS (f : Nat → Bool) (L N : Nat) (W : Nat → Nat) : Prop := ∀ k, k < N → W k < L ∧ f (W k) = true ∧ ctn f (W k) = k
theorem wks_ex {f : Nat → Bool} : ∀ L : Nat, ∃ W : Nat → Nat, WKS f L (ctn f L) W := by
  intro L
  have h : ∀ L k : Nat, k < ctn f L → ∃ w, w < L ∧ f w = true ∧ ctn f w = k := by
    intro L
    induction L with
    | zero => intro k hk; exact absurd hk (by show ¬ k < 0; omega)
    | succ L ih =>
      intro k hk
      rw [ctn_s] at hk
      by_cases c : k < ctn f L
      · obtain ⟨w, a, b, d⟩ := ih k c
        exact ⟨w, by omega, b, d⟩
      · cases e : f L with
        | true => rw [e] at hk; exact ⟨L, by omega, e, by have : true.toNat = 1 := rfl; omega⟩
        | false => rw [e] at hk; have : false.toNat = 0 := rfl; omega
  have h2 : ∀ k : Nat, ∃ w, k < ctn f L → w < L ∧ f w = true ∧ ctn f w = k := fun k => by
    by_cases c : k < ctn f L
    · obtain ⟨w, a⟩ := h L k c
      exact ⟨w, fun _ => a⟩
    · exact ⟨0, fun d => absurd d c⟩
  exact ⟨fun k => Classical.choose (h2 k), fun k hk => Classical.choose_spec (h2 k) hk⟩
/-- a question, as the numbers of the worlds in which the bit is so -/
def Ybt (W : Nat → Nat) (N b : Nat) : Nat := bitsOf (fun k => (W k).testBit b) N
def Apl (W : Nat → Nat) (n N p : Nat) : Nat := if p < n then Ybt W N (n - 1 - p) else 0
section
variable {M : Mem}
theorem q_takeAsked {n N : Nat} {S : SH} {f : Nat → Bool} {W : Nat → Nat} (ok : S.ok) (hn : S.nf = (n : Int)) (n12 : n ≤ 12) (k2 : K2 M) (sh : SHC S 4 M) (ws : WS 34 (n : Int) f M) (hf : ∀ w, ¬ w < 2 ^ n → f w = false) (hN : ctn f (2 ^ n) = N) (h16 : N ≤ 16) (hW : WKS f (2 ^ n) N W) : pw (mX4_takeAsked 2 M) (fun q => (∀ c j : Int, ¬ c = 46 → mG q.2 c j = mG M c j) ∧ q.1 = ((2 ^ N - 1 : Nat) : Int) ∧ ∀ p : Nat, p < 12 → mG q.2 46 (p : Int) = ((Apl W n N p : Nat) : Int)) := by
  have nf := ok.nf
  have p12 : 2 ^ n ≤ 2 ^ 12 := Nat.pow_le_pow_right (n := 2) (by decide) n12
  obtain ⟨Q, hQ⟩ : ∃ Q : Int × Mem → Prop, Q = fun q => (∀ c j : Int, ¬ c = 46 → mG q.2 c j = mG M c j) ∧ q.1 = ((2 ^ N - 1 : Nat) : Int) ∧ ∀ p : Nat, p < 12 → mG q.2 46 (p : Int) = ((Apl W n N p : Nat) : Int) := ⟨_, rfl⟩
  rw [← hQ]
  have blt : ∀ (P : Nat → Bool) (k : Nat), k ≤ 16 → bitsOf P k < 65536 := fun P k hk => Nat.lt_of_lt_of_le (bitsOf_lt P k) (Nat.pow_le_pow_right (n := 2) (by decide) hk)
  have Alt : ∀ k p, k ≤ 16 → Apl W n k p < 65536 := fun k p hk => by
    unfold Apl Ybt
    split
    · exact blt _ k hk
    · decide
  have l33 : ∀ (fu k : Nat) (m : Mem), k ≤ N → (∀ c j : Int, ¬ c = 46 → mG m c j = mG M c j) → (∀ p : Nat, p < 12 → mG m 46 (p : Int) = ((Apl W n k p : Nat) : Int)) → pw (mX4_takeAsked_33 fu 2 ((2 ^ k - 1 : Nat) : Int) (N : Int) (k : Int) m) Q := by
    intro fu
    induction fu with
    | zero => intro k m _ _ _; exact p_none
    | succ fu ih =>
      intro k m hk g ha
      show pw (bX4_takeAsked_33 (mX4_takeAsked_33 fu) 2 _ (N : Int) (k : Int) m) Q
      have km : K2 m := k2.kp (fun x hx => g _ _ (by have c := cst_out x hx; omega))
      unfold bX4_takeAsked_33
      refine p_if (fun c => p_ret ?_) (fun c => ?_)
      · have e : k = N := by omega
        rw [hQ]
        rw [e] at ha
        exact ⟨g, by rw [e], ha⟩
      have k1 : k < N := by omega
      have shm : SHC S 4 m := sh.kp (fun c j c0 c1 => g c j (by omega))
      have wsm : WS 34 (n : Int) f m := ws.kp (fun j => g _ j (by decide)) (fun j => g _ j (by decide))
      refine p_gFc (ji := 6) rfl km.c2_6 (p_gK (p_call (q_nth (l := 34) (k := (k : Int)) (by omega) ⟨by omega, by omega⟩ wsm) (fun v m2 y => ?_)))
      obtain ⟨y1, y2⟩ := y
      replace y1 : m2 = m := y1
      replace y2 : NTH f (2 ^ n) (k : Int) v := y2
      subst y1
      have ev : v = ((W k : Nat) : Int) := by
        obtain ⟨w1, w2, w3⟩ := hW k k1
        exact y2.uniq (fun _ _ => rfl) (Or.inr ⟨W k, w1, rfl, w2, by omega⟩)
      subst ev
      have wl := (hW k k1).1
      have pk : 2 ^ k ≤ 2 ^ 15 := Nat.pow_le_pow_right (n := 2) (by decide) (by omega)
      have l51 : ∀ (fu2 p : Nat) (m3 : Mem), p ≤ n → (∀ c j : Int, ¬ c = 46 → mG m3 c j = mG M c j) → (∀ x : Nat, x < 12 → mG m3 46 (x : Int) = ((if x < p then Apl W n (k + 1) x else Apl W n k x : Nat) : Int)) → pw (mX4_takeAsked_51 (mX4_takeAsked_33 fu) fu2 2 ((2 ^ k - 1 : Nat) : Int) (N : Int) (k : Int) ((W k : Nat) : Int) (p : Int) m3) Q := by
        intro fu2
        induction fu2 with
        | zero => intro p m3 _ _ _; exact p_none
        | succ fu2 ih2 =>
          intro p m3 hp g3 ha3
          show pw (bX4_takeAsked_51 (mX4_takeAsked_33 fu) (mX4_takeAsked_51 (mX4_takeAsked_33 fu) fu2) 2 _ (N : Int) (k : Int) ((W k : Nat) : Int) (p : Int) m3) Q
          have k3 : K2 m3 := k2.kp (fun x hx => g3 _ _ (by have c := cst_out x hx; omega))
          have sh3 : SHC S 4 m3 := sh.kp (fun c j c0 c1 => g3 c j (by omega))
          unfold bX4_takeAsked_51
          refine p_gFc (ji := 0) rfl k3.c2_0 (p_gFc (ji := 0) rfl k3.c3_0 (p_gFc (ji := 7) rfl sh3.1.2.2.2.2.2.2.2 (p_if (fun c2 => ?_) (fun c2 => p_it0 (by omega) ?_))))
          · have e : p = n := by omega
            unfold mX4_takeAsked_112
            have pk1 : 1 ≤ 2 ^ k := Nat.one_le_two_pow
            have e2 : (2 ^ k - 1) ||| 2 ^ k = 2 ^ (k + 1) - 1 := by
              rw [← bits_full k, ← bits_full (k + 1), bits_up, if_pos rfl]
            rw [wI_s (p := k) (by omega), ishl1 k (by omega), show (2 : Int) ^ k = ((2 ^ k : Nat) : Int) by simp, ior_nn (by omega) (by omega), e2]
            refine ih (k + 1) m3 (by omega) g3 (fun x hx => ?_)
            rw [ha3 x hx]
            by_cases z : x < p
            · rw [if_pos z]
            · rw [if_neg z]
              unfold Apl
              rw [if_neg (by omega), if_neg (by omega)]
          · have p1 : p < n := by omega
            refine p_gFc (ji := 0) rfl k3.c2_0 (p_gFc (ji := 0) rfl k3.c3_0 (p_gK (p_call (q_bit (p := (p : Int)) sh3 ok ⟨by omega, by omega⟩) (fun bt m4 y => ?_))))
            obtain ⟨y3, y4⟩ := y
            replace y3 : m4 = m3 := y3
            replace y4 : bt = S.nf - 1 - (p : Int) := y4
            subst y3
            rw [hn, show (n : Int) - 1 - (p : Int) = ((n - 1 - p : Nat) : Int) by omega] at y4
            subst y4
            have hap := ha3 p (by omega)
            rw [if_neg (Nat.lt_irrefl p)] at hap
            have al := Alt k p (by omega)
            have up : Apl W n (k + 1) p = Apl W n k p ||| (if (W k).testBit (n - 1 - p) = true then 2 ^ k else 0) := by
              unfold Apl Ybt
              rw [if_pos p1, if_pos p1, bits_up]
            have nxt : ∀ m5, (∀ c j : Int, ¬ c = 46 → mG m5 c j = mG M c j) → (∀ x : Nat, x < 12 → mG m5 46 (x : Int) = ((if x < p + 1 then Apl W n (k + 1) x else Apl W n k x : Nat) : Int)) → pw (mX4_takeAsked_106 (mX4_takeAsked_33 fu) (mX4_takeAsked_51 (mX4_takeAsked_33 fu) fu2) 2 ((2 ^ k - 1 : Nat) : Int) (N : Int) (k : Int) ((W k : Nat) : Int) (p : Int) m5) Q := fun m5 g5 h5 => by
              unfold mX4_takeAsked_106
              rw [wI_s (p := p) (by omega)]
              exact ih2 (p + 1) m5 (by omega) g5 h5
            refine p_if (fun c3 => nxt m4 g3 (fun x hx => ?_)) (fun c3 => ?_)
            · have tb := (ibit (by omega) (by omega)).mp c3
              rw [tb, if_neg (by decide), Nat.or_zero] at up
              rw [ha3 x hx]
              by_cases z : x = p
              · rw [z, if_neg (Nat.lt_irrefl p), if_pos (by omega), up]
              · by_cases z2 : x < p
                · rw [if_pos z2, if_pos (by omega)]
                · rw [if_neg z2, if_neg (by omega)]
            · have tb : (W k).testBit (n - 1 - p) = true := by
                cases e : (W k).testBit (n - 1 - p) with
                | true => rfl
                | false => exact absurd ((ibit (by omega) (by omega)).mpr e) c3
              rw [tb, if_pos rfl] at up
              refine p_gFc (ji := 11) rfl k3.c2_11 (p_aGc hap (p_aS (fun m5 h5 => ?_)))
              rw [ishl1 k (by omega), show (2 : Int) ^ k = ((2 ^ k : Nat) : Int) by simp, ior_nn (by omega) (by omega), ← up] at h5
              refine nxt m5 (fun c j z => (st_ne h5 (fun w => z w.1)).trans (g3 c j z)) (fun x hx => ?_)
              by_cases z : x = p
              · rw [z, st_eq h5, if_pos (by omega)]
              · rw [st_ne h5 (fun w => z (by have := w.2; omega)), ha3 x hx]
                by_cases z2 : x < p
                · rw [if_pos z2, if_pos (by omega)]
                · rw [if_neg z2, if_neg (by omega)]
      exact l51 FU 0 m2 (Nat.zero_le _) g (fun x hx => by rw [if_neg (by omega)]; exact ha x hx)
  have l4 : ∀ (fu p : Nat) (m : Mem), p ≤ 12 → (∀ c j : Int, ¬ c = 46 → mG m c j = mG M c j) → (∀ x : Nat, x < p → mG m 46 (x : Int) = 0) → pw (mX4_takeAsked_4 fu 2 0 (p : Int) m) Q := by
    intro fu
    induction fu with
    | zero => intro p m _ _ _; exact p_none
    | succ fu ih =>
      intro p m hp g hz
      show pw (bX4_takeAsked_4 (mX4_takeAsked_4 fu) 2 0 (p : Int) m) Q
      have km : K2 m := k2.kp (fun x hx => g _ _ (by have c := cst_out x hx; omega))
      unfold bX4_takeAsked_4
      refine p_if (fun c => ?_) (fun c => ?_)
      · have wsm : WS 34 (n : Int) f m := ws.kp (fun j => g _ j (by decide)) (fun j => g _ j (by decide))
        refine p_gFc (ji := 6) rfl km.c2_6 (p_gK (p_call (q_count (l := 34) ⟨by omega, by omega⟩ wsm) (fun v m2 y => ?_)))
        obtain ⟨y1, y2⟩ := y
        replace y1 : m2 = m := y1
        subst y1
        have ev : v = ((N : Nat) : Int) := (show v = _ from y2).trans (by rw [ctn_uw n12 hf, hN])
        subst ev
        refine l33 FU 0 m2 (Nat.zero_le _) g (fun x hx => ?_)
        rw [hz x (by omega)]
        unfold Apl Ybt
        split <;> rfl
      · refine p_gFc (ji := 11) rfl km.c2_11 (p_aS (fun m2 h2 => ?_))
        rw [wI_s (p := p) (by omega)]
        refine ih (p + 1) m2 (by omega) (fun c j z => (st_ne h2 (fun w => z w.1)).trans (g c j z)) (fun x hx => ?_)
        by_cases e : x = p
        · rw [e]; exact st_eq h2
        · rw [st_ne h2 (fun w => e (by have := w.2; omega))]
          exact hz x (by omega)
  exact l4 FU 0 M (by omega) (fun _ _ _ => rfl) (fun x hx => absurd hx (by omega))
end
