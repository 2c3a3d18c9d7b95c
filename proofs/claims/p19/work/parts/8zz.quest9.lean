section
/-! ===== the reference's questions ===== -/
def RYs (W : Nat → Nat) (n N : Nat) (y : Nat) : Prop := ∃ b, b < n ∧ y = Ybt W N b
theorem ys_eq {W : Nat → Nat} {n N X : Nat} (n12 : n ≤ 12) (hX : X < 65536) (d : Nat) : SL (AYs (Apl W n N)) d X ↔ SL (RYs W n N) d X := by
  constructor
  · refine SL.sub (fun y h => ?_) d X hX
    obtain ⟨p, p1, e⟩ := h
    unfold Apl at e
    by_cases c : p < n
    · rw [if_pos c] at e
      exact Or.inl ⟨n - 1 - p, by omega, e⟩
    · rw [if_neg c] at e
      exact Or.inr e
  · refine SL.sub (fun y h => ?_) d X hX
    obtain ⟨b, b1, e⟩ := h
    refine Or.inl ⟨n - 1 - b, by omega, ?_⟩
    unfold Apl
    rw [if_pos (by omega), show n - 1 - (n - 1 - b) = b by omega]
    exact e
theorem z_hl (z : Nat) : z = 0 ↔ (z / 2 ^ 8 = 0 ∧ z % 2 ^ 8 = 0) := by omega
theorem and_hl (a b c d : Nat) (hb : b < 256) (hd : d < 256) : ((256 * a + b) &&& (256 * c + d) = 0) ↔ (a &&& c = 0 ∧ b &&& d = 0) := by
  rw [z_hl, Nat.and_div_two_pow, Nat.and_mod_two_pow, show (256 * a + b) / 2 ^ 8 = a by omega, show (256 * c + d) / 2 ^ 8 = c by omega, show (256 * a + b) % 2 ^ 8 = b by omega, show (256 * c + d) % 2 ^ 8 = d by omega]
theorem one8 : ∀ b : Nat, b < 256 → ((b &&& (b - 1) = 0) ↔ pop8 b ≤ 1) ∧ (pop8 b = 0 ↔ b = 0) := by decide +kernel
theorem one_t : ∀ a : Nat, a < 256 → ∀ b : Nat, b < 256 → decide ((256 * a + b) &&& (256 * a + b - 1) = 0) = decide (pop8 b + pop8 a ≤ 1) := fun a ha b hb => by
  apply decide_eq_decide.mpr
  obtain ⟨a1, a2⟩ := one8 a ha
  obtain ⟨b1, b2⟩ := one8 b hb
  by_cases c : b = 0
  · have pb : pop8 b = 0 := b2.mpr c
    by_cases c2 : a = 0
    · have pa : pop8 a = 0 := a2.mpr c2
      rw [pa, pb, c, c2]
      exact ⟨fun _ => by decide, fun _ => by decide⟩
    · rw [show 256 * a + b - 1 = 256 * (a - 1) + 255 by omega, and_hl a b (a - 1) 255 hb (by omega), pb, Nat.zero_add, ← a1, c]
      exact ⟨fun h => h.1, fun h => ⟨h, by decide⟩⟩
  · rw [show 256 * a + b - 1 = 256 * a + (b - 1) by omega, and_hl a b a (b - 1) hb (by omega), Nat.and_self, b1, ← a2]
    have c3 : ¬ pop8 b = 0 := fun e => c (b2.mp e)
    clear b1 b2 a1 a2
    omega
theorem one_i {X : Nat} (hX : X < 65536) : (iand (X : Int) (wI ((X : Int) - 1)) = 0) ↔ pop16c X ≤ 1 := by
  have e := one_t (X / 256) (by omega) (X % 256) (by omega)
  rw [show 256 * (X / 256) + X % 256 = X by omega] at e
  have e2 : (X &&& (X - 1) = 0) ↔ pop8 (X % 256) + pop8 (X / 256) ≤ 1 := decide_eq_decide.mp e
  rw [← pop16_c]
  show _ ↔ pop8 (X % 256) + pop8 (X / 256) ≤ 1
  rw [← e2]
  by_cases c : X = 0
  · subst c
    exact ⟨fun _ => rfl, fun _ => by decide +kernel⟩
  · rw [wI_id (by omega) (by omega), show (X : Int) - 1 = ((X - 1 : Nat) : Int) by omega]
    exact and_c0 _ _ (by omega) (by omega)
section
variable {S : SH} {P : Nat → List Row} {M : Mem}
theorem RWd.go {K : Int} {vw n : Nat} {F : Int → Int} {M' : Mem} (h : RWd S P K vw F n M) (g : ∀ c j : Int, (c = 126 ∧ ¬ (j = 46 ∨ j = 57)) ∨ (134 ≤ c ∧ c ≤ 136) ∨ c = 138 ∨ (141 ≤ c ∧ c ≤ 145) ∨ c = 152 ∨ c = 153 → mG M' c j = mG M c j) : RWd S P K vw F n M' := by
  obtain ⟨⟨ka, kb⟩, ⟨kc, kd, ke, kf⟩, kg⟩ := h
  exact ⟨⟨ka.kp (fun j hj => g 126 j (by omega)), kb.kp (fun c j hc => g c j (by omega))⟩, ⟨(g 138 0 (by omega)).trans kc, (g 126 48 (by omega)).trans kd, (g 126 49 (by omega)).trans ke, (g 126 50 (by omega)).trans kf⟩, fun s hs => ⟨⟨(g 141 _ (by omega)).trans (kg s hs).1.1, fun i r hr => ((kg s hs).1.2 i r hr).kp (fun c c0 c1 => g c _ (by omega))⟩, (kg s hs).2⟩⟩
/-- what is solved, in the row at a -/
def SVD (Ys : Nat → Prop) (a : Int) (d L : Nat) (m : Mem) : Prop := ∀ X : Nat, X < L → (mG m a (X : Int) = 1 ∧ SL Ys d X) ∨ (mG m a (X : Int) = 0 ∧ ¬ SL Ys d X)
theorem v_asks {n N X d : Nat} {W : Nat → Nat} {m : Mem} (ok : S.ok) (hn : S.nf = (n : Int)) (n12 : n ≤ 12) (h16 : N ≤ 16) (hX : X < 2 ^ N) (k9 : K9 m) (sh : RSH S m) (hy : ∀ b : Nat, b < n → mG m 168 (b : Int) = ((Ybt W N b : Nat) : Int)) (hs : SVD (RYs W n N) 166 d (2 ^ N) m) : pw (mX9_asks 126 (X : Int) m) (fun q => q.2 = m ∧ (((∃ y, RYs W n N y ∧ SL (RYs W n N) d (X &&& y) ∧ SL (RYs W n N) d (X &&& (65535 ^^^ y))) ∧ q.1 = 1) ∨ ((¬ ∃ y, RYs W n N y ∧ SL (RYs W n N) d (X &&& y) ∧ SL (RYs W n N) d (X &&& (65535 ^^^ y))) ∧ q.1 = 0))) := by
  have p16 : 2 ^ N ≤ 2 ^ 16 := Nat.pow_le_pow_right (n := 2) (by decide) h16
  obtain ⟨Q, hQ⟩ : ∃ Q : Int × Mem → Prop, Q = fun q => q.2 = m ∧ (((∃ y, RYs W n N y ∧ SL (RYs W n N) d (X &&& y) ∧ SL (RYs W n N) d (X &&& (65535 ^^^ y))) ∧ q.1 = 1) ∨ ((¬ ∃ y, RYs W n N y ∧ SL (RYs W n N) d (X &&& y) ∧ SL (RYs W n N) d (X &&& (65535 ^^^ y))) ∧ q.1 = 0)) := ⟨_, rfl⟩
  rw [← hQ]
  have loop : ∀ (fu b : Nat), b ≤ n → (∀ x, x < b → ¬ (SL (RYs W n N) d (X &&& Ybt W N x) ∧ SL (RYs W n N) d (X &&& (65535 ^^^ Ybt W N x)))) → pw (mX9_asks_2 fu 126 (X : Int) (b : Int) m) Q := by
    intro fu
    induction fu with
    | zero => intro b _ _; exact p_none
    | succ fu ih =>
      intro b hb hno
      show pw (bX9_asks_2 (mX9_asks_2 fu) 126 (X : Int) (b : Int) m) Q
      unfold bX9_asks_2
      refine p_gK (p_call (v_manyFacts ok k9 sh) (fun v m2 y => ?_))
      obtain ⟨y1, y2⟩ := y
      replace y1 : m2 = m := y1
      replace y2 : v = S.nf := y2
      subst y1
      rw [hn] at y2
      subst y2
      refine p_if (fun c => p_ret ?_) (fun c => ?_)
      · rw [hQ]
        refine ⟨rfl, Or.inr ⟨?_, rfl⟩⟩
        rintro ⟨y, ⟨x, x1, x2⟩, x3⟩
        rw [x2] at x3
        exact hno x (by omega) x3
      · have b1 : b < n := by omega
        have yb := hy b b1
        have yl : Ybt W N b < 65536 := Nat.lt_of_lt_of_le (bitsOf_lt _ _) p16
        have nxt : ¬ (SL (RYs W n N) d (X &&& Ybt W N b) ∧ SL (RYs W n N) d (X &&& (65535 ^^^ Ybt W N b))) → pw (mX9_asks_46 (mX9_asks_2 fu) 126 (X : Int) (b : Int) m2) Q := fun h => by
          unfold mX9_asks_46
          rw [wI_s (p := b) (by omega)]
          refine ih (b + 1) (by omega) (fun x hx => ?_)
          by_cases z : x = b
          · rw [z]; exact h
          · exact hno x (by omega)
        have xl : X &&& Ybt W N b < 2 ^ N := Nat.lt_of_le_of_lt Nat.and_le_left hX
        have xr : X &&& (65535 ^^^ Ybt W N b) < 2 ^ N := Nat.lt_of_le_of_lt Nat.and_le_left hX
        refine p_gFc (ji := 59) rfl k9.c59 (p_gFc (ji := 61) rfl k9.c61 (p_aGc yb ?_))
        rw [iand_c X _ (by omega) (by omega)]
        refine p_aG (fun v1 hv1 => p_if (fun z1 => nxt (fun w => ?_)) (fun z1 => ?_))
        · rcases hs _ xl with ⟨e, _⟩ | ⟨_, e⟩
          · have e9 : v1 = 1 := hv1.symm.trans e
            omega
          · exact e w.1
        · refine p_gFc (ji := 59) rfl k9.c59 (p_gFc (ji := 61) rfl k9.c61 (p_aGc yb ?_))
          rw [iand_clr16 (by omega) yl]
          refine p_aG (fun v2 hv2 => p_if (fun z2 => nxt (fun w => ?_)) (fun z2 => p_ret ?_))
          · rcases hs _ xr with ⟨e, _⟩ | ⟨_, e⟩
            · have e9 : v2 = 1 := hv2.symm.trans e
              omega
            · exact e w.2
          · rw [hQ]
            refine ⟨rfl, Or.inl ⟨⟨Ybt W N b, ⟨b, b1, rfl⟩, ?_, ?_⟩, rfl⟩⟩
            · rcases hs _ xl with ⟨_, e⟩ | ⟨e, _⟩
              · exact e
              · have e9 : v1 = 0 := hv1.symm.trans e
                omega
            · rcases hs _ xr with ⟨_, e⟩ | ⟨e, _⟩
              · exact e
              · have e9 : v2 = 0 := hv2.symm.trans e
                omega
  exact loop FU 0 (Nat.zero_le _) (fun x hx => absurd hx (by omega))
theorem v_findYes {n N : Nat} {W : Nat → Nat} {m : Mem} (ok : S.ok) (hn : S.nf = (n : Int)) (n12 : n ≤ 12) (h16 : N ≤ 16) (k9 : K9 m) (sh : RSH S m) (hw : ∀ k : Nat, k < N → W k < 4096 ∧ mG m 165 (k : Int) = ((W k : Nat) : Int)) : pw (mX9_findYes 126 (N : Int) m) (fun q => (∀ c j : Int, ¬ c = 168 → mG q.2 c j = mG m c j) ∧ ∀ b : Nat, b < n → mG q.2 168 (b : Int) = ((Ybt W N b : Nat) : Int)) := by
  obtain ⟨Q, hQ⟩ : ∃ Q : Int × Mem → Prop, Q = fun q => (∀ c j : Int, ¬ c = 168 → mG q.2 c j = mG m c j) ∧ ∀ b : Nat, b < n → mG q.2 168 (b : Int) = ((Ybt W N b : Nat) : Int) := ⟨_, rfl⟩
  rw [← hQ]
  have ylt : ∀ b k, k ≤ N → Ybt W k b < 65536 := fun b k hk => Nat.lt_of_lt_of_le (bitsOf_lt _ _) (Nat.pow_le_pow_right (n := 2) (by decide) (show k ≤ 16 by omega))
  have l2 : ∀ (fu b : Nat) (m1 : Mem), b ≤ n → (∀ c j : Int, ¬ c = 168 → mG m1 c j = mG m c j) → (∀ x : Nat, x < b → mG m1 168 (x : Int) = ((Ybt W N x : Nat) : Int)) → pw (mX9_findYes_2 fu 126 (N : Int) (b : Int) m1) Q := by
    intro fu
    induction fu with
    | zero => intro b m1 _ _ _; exact p_none
    | succ fu ih =>
      intro b m1 hb g hx
      show pw (bX9_findYes_2 (mX9_findYes_2 fu) 126 (N : Int) (b : Int) m1) Q
      have k1 : K9 m1 := k9.kp (fun j _ => g 126 j (by decide))
      unfold bX9_findYes_2
      refine p_gK (p_call (v_manyFacts ok k1 (sh.kp (fun c j hc => g c j (by omega)))) (fun v m2 y => ?_))
      obtain ⟨y1, y2⟩ := y
      replace y1 : m2 = m1 := y1
      replace y2 : v = S.nf := y2
      subst y1
      rw [hn] at y2
      subst y2
      refine p_if (fun c => p_ret ?_) (fun c => ?_)
      · rw [hQ]
        exact ⟨g, fun x hx2 => hx x (by omega)⟩
      · have b1 : b < n := by omega
        refine p_gFc (ji := 61) rfl k1.c61 (p_aS (fun m3 h3 => ?_))
        have l19 : ∀ (fu2 k : Nat) (m4 : Mem), k ≤ N → (∀ c j : Int, ¬ (c = 168 ∧ j = (b : Int)) → mG m4 c j = mG m2 c j) → mG m4 168 (b : Int) = ((Ybt W k b : Nat) : Int) → pw (mX9_findYes_19 (mX9_findYes_2 fu) fu2 126 (N : Int) (b : Int) (k : Int) m4) Q := by
          intro fu2
          induction fu2 with
          | zero => intro k m4 _ _ _; exact p_none
          | succ fu2 ih2 =>
            intro k m4 hk g4 e4
            show pw (bX9_findYes_19 (mX9_findYes_2 fu) (mX9_findYes_19 (mX9_findYes_2 fu) fu2) 126 (N : Int) (b : Int) (k : Int) m4) Q
            have g4' : ∀ c j : Int, ¬ c = 168 → mG m4 c j = mG m c j := fun c j z => (g4 c j (fun w => z w.1)).trans (g c j z)
            have k4 : K9 m4 := k9.kp (fun j _ => g4' 126 j (by decide))
            unfold bX9_findYes_19
            refine p_if (fun c => ?_) (fun c => ?_)
            · have ek : k = N := by omega
              rw [wI_s (p := b) (by omega)]
              refine ih (b + 1) m4 (by omega) g4' (fun x hx2 => ?_)
              by_cases z : x = b
              · rw [z, e4, ek]
              · rw [g4 168 _ (fun w => z (by have := w.2; omega))]
                exact hx x (by omega)
            · have k1' : k < N := by omega
              obtain ⟨wl, we⟩ := hw k k1'
              have we4 : mG m4 165 (k : Int) = ((W k : Nat) : Int) := (g4' 165 _ (by decide)).trans we
              have yl := ylt b k hk
              have pk : 2 ^ k ≤ 2 ^ 15 := Nat.pow_le_pow_right (n := 2) (by decide) (by omega)
              have up : Ybt W (k + 1) b = Ybt W k b ||| (if (W k).testBit b = true then 2 ^ k else 0) := bits_up _ _
              have go : ∀ v : Nat, v < 65536 → Ybt W (k + 1) b = Ybt W k b ||| v → pw (mX9_findYes_51 (mX9_findYes_2 fu) (mX9_findYes_19 (mX9_findYes_2 fu) fu2) 126 (N : Int) (b : Int) (k : Int) 168 (b : Int) ((Ybt W k b : Nat) : Int) (v : Int) m4) Q := fun v hv hu => by
                unfold mX9_findYes_51
                refine p_aS (fun m5 h5 => ?_)
                rw [ior_nn (by omega) (by omega), ← hu] at h5
                rw [wI_s (p := k) (by omega)]
                exact ih2 (k + 1) m5 (by omega) (fun c j z => (st_ne h5 z).trans (g4 c j z)) (st_eq h5)
              refine p_gFc (ji := 61) rfl k4.c61 (p_aGc e4 (p_gFc (ji := 58) rfl k4.c58 (p_aGc we4 (p_if (fun z => ?_) (fun z => ?_)))))
              · refine go 0 (by omega) ?_
                rw [up, (ibit (by omega) (by omega)).mp z, if_neg (by decide)]
              · have tb : (W k).testBit b = true := by
                  cases e : (W k).testBit b with
                  | true => rfl
                  | false => exact absurd ((ibit (by omega) (by omega)).mpr e) z
                rw [ishl1 k (by omega), show (2 : Int) ^ k = ((2 ^ k : Nat) : Int) by simp]
                refine go (2 ^ k) (by omega) ?_
                rw [up, tb, if_pos rfl]
        exact l19 FU 0 m3 (Nat.zero_le _) (fun c j z => st_ne h3 z) (st_eq h3)
  exact l2 FU 0 m (Nat.zero_le _) (fun _ _ _ => rfl) (fun x hx => absurd hx (by omega))
theorem v_rounds {n N : Nat} {W : Nat → Nat} {m : Mem} (ok : S.ok) (hn : S.nf = (n : Int)) (n12 : n ≤ 12) (h16 : N ≤ 16) (k9 : K9 m) (sh : RSH S m) (hy : ∀ b : Nat, b < n → mG m 168 (b : Int) = ((Ybt W N b : Nat) : Int)) : pw (mX9_questions_77 FU 126 (N : Int) 0 m) (fun q => QST (RYs W n N) (2 ^ N - 1) q.1) := by
  have p16 : 2 ^ N ≤ 2 ^ 16 := Nat.pow_le_pow_right (n := 2) (by decide) h16
  have p1 : 1 ≤ 2 ^ N := Nat.one_le_two_pow
  obtain ⟨Q, hQ⟩ : ∃ Q : Int × Mem → Prop, Q = fun q => QST (RYs W n N) (2 ^ N - 1) q.1 := ⟨_, rfl⟩
  rw [← hQ]
  have sN : ishl 1 (N : Int) = ((2 ^ N : Nat) : Int) := by rw [ishl1 N (by omega)]; simp
  have kk : ∀ m', (∀ c j : Int, ¬ c = 166 → ¬ c = 167 → mG m' c j = mG m c j) → K9 m' ∧ RSH S m' ∧ ∀ b : Nat, b < n → mG m' 168 (b : Int) = ((Ybt W N b : Nat) : Int) := fun m' g => ⟨k9.kp (fun j _ => g 126 j (by decide) (by decide)), sh.kp (fun c j hc => g c j (by omega) (by omega)), fun b hb => (g 168 _ (by decide) (by decide)).trans (hy b hb)⟩
  have l111 : ∀ (fu d : Nat) (m1 : Mem), d ≤ 5 → (∀ c j : Int, ¬ c = 166 → ¬ c = 167 → mG m1 c j = mG m c j) → SVD (RYs W n N) 166 d (2 ^ N) m1 → (∀ e, e < d → ¬ SL (RYs W n N) e (2 ^ N - 1)) → pw (mX9_questions_111 fu 126 (N : Int) (d : Int) m1) Q := by
    intro fu
    induction fu with
    | zero => intro d m1 _ _ _ _; exact p_none
    | succ fu ih =>
      intro d m1 hd g sv hno
      show pw (bX9_questions_111 (mX9_questions_111 fu) 126 (N : Int) (d : Int) m1) Q
      obtain ⟨k1, s1, y1⟩ := kk m1 g
      unfold bX9_questions_111
      refine p_if (fun c => p_ret ?_) (fun c => ?_)
      · rw [hQ]
        exact Or.inr ⟨rfl, fun e he => hno e (by omega)⟩
      · rw [sN, wI_id (x := ((2 ^ N : Nat) : Int) - 1) (by omega) (by omega), show ((2 ^ N : Nat) : Int) - 1 = ((2 ^ N - 1 : Nat) : Int) by omega]
        have full := sv (2 ^ N - 1) (by omega)
        refine p_gFc (ji := 59) rfl k1.c59 (p_aG (fun v hv => p_if (fun z => ?_) (fun z => p_ret ?_)))
        · have nsl : ¬ SL (RYs W n N) d (2 ^ N - 1) := by
            rcases full with ⟨e, _⟩ | ⟨_, e⟩
            · omega
            · exact e
          have l176 : ∀ (fu2 X : Nat) (m2 : Mem), X ≤ 2 ^ N → (∀ c j : Int, ¬ c = 166 → ¬ c = 167 → mG m2 c j = mG m c j) → SVD (RYs W n N) 167 (d + 1) (2 ^ N) m2 → SVD (RYs W n N) 166 (d + 1) X m2 → pw (mX9_questions_176 (mX9_questions_111 fu) fu2 126 (N : Int) (d : Int) (X : Int) m2) Q := by
            intro fu2
            induction fu2 with
            | zero => intro X m2 _ _ _ _; exact p_none
            | succ fu2 ih2 =>
              intro X m2 hX g2 s7 s6
              show pw (bX9_questions_176 (mX9_questions_111 fu) (mX9_questions_176 (mX9_questions_111 fu) fu2) 126 (N : Int) (d : Int) (X : Int) m2) Q
              obtain ⟨k2, _, _⟩ := kk m2 g2
              unfold bX9_questions_176
              rw [sN]
              refine p_if (fun c2 => ?_) (fun c2 => ?_)
              · have eX : X = 2 ^ N := by omega
                rw [wI_s (p := d) (by omega)]
                rw [eX] at s6
                refine ih (d + 1) m2 (by omega) g2 s6 (fun e he => ?_)
                by_cases ed : e = d
                · rw [ed]; exact nsl
                · exact hno e (by omega)
              · have xl : X < 2 ^ N := by omega
                refine p_gFc (ji := 59) rfl k2.c59 (p_gFc (ji := 60) rfl k2.c60 (p_aG (fun v hv => p_aSZ (fun m3 h3 => ?_))))
                rw [wI_s (p := X) (by omega)]
                refine ih2 (X + 1) m3 (by omega) (fun c j x y => (st_ne h3 (fun w => x w.1)).trans (g2 c j x y)) (fun Y hY => ?_) (fun Y hY => ?_)
                · rw [st_ne h3 (fun w => absurd w.1 (by decide))]
                  exact s7 Y hY
                · by_cases z2 : Y = X
                  · rw [z2, st_eq h3, ← hv]
                    exact s7 X xl
                  · rw [st_ne h3 (fun w => z2 (by have := w.2; omega))]
                    exact s6 Y (by omega)
          have l133 : ∀ (fu2 X : Nat) (m2 : Mem), X ≤ 2 ^ N → (∀ c j : Int, ¬ c = 167 → mG m2 c j = mG m1 c j) → SVD (RYs W n N) 167 (d + 1) X m2 → pw (mX9_questions_133 (mX9_questions_111 fu) fu2 126 (N : Int) (d : Int) (X : Int) m2) Q := by
            intro fu2
            induction fu2 with
            | zero => intro X m2 _ _ _; exact p_none
            | succ fu2 ih2 =>
              intro X m2 hX g2 s7
              show pw (bX9_questions_133 (mX9_questions_111 fu) (mX9_questions_133 (mX9_questions_111 fu) fu2) 126 (N : Int) (d : Int) (X : Int) m2) Q
              have g2m : ∀ c j : Int, ¬ c = 166 → ¬ c = 167 → mG m2 c j = mG m c j := fun c j x y => (g2 c j y).trans (g c j x y)
              obtain ⟨k2, sh2, y2⟩ := kk m2 g2m
              unfold bX9_questions_133
              rw [sN]
              refine p_if (fun c2 => ?_) (fun c2 => ?_)
              · have eX : X = 2 ^ N := by omega
                rw [eX] at s7
                exact l176 FU 0 m2 (Nat.zero_le _) g2m s7 (fun Y hY => absurd hY (by omega))
              · have xl : X < 2 ^ N := by omega
                have s6 : SVD (RYs W n N) 166 d (2 ^ N) m2 := fun Y hY => by
                  rw [g2 166 _ (by decide)]
                  exact sv Y hY
                have go : ∀ (v : Int) (m3 : Mem), m3 = m2 → (v = 1 ∧ SL (RYs W n N) (d + 1) X) ∨ (v = 0 ∧ ¬ SL (RYs W n N) (d + 1) X) → pw (mX9_questions_167 (mX9_questions_111 fu) (mX9_questions_133 (mX9_questions_111 fu) fu2) 126 (N : Int) (d : Int) (X : Int) 167 (X : Int) v m3) Q := fun v m3 e3 h => by
                  subst e3
                  unfold mX9_questions_167
                  refine p_aSZ (fun m4 h4 => ?_)
                  rw [wI_s (p := X) (by omega)]
                  refine ih2 (X + 1) m4 (by omega) (fun c j x => (st_ne h4 (fun w => x w.1)).trans (g2 c j x)) (fun Y hY => ?_)
                  by_cases z2 : Y = X
                  · rw [z2, st_eq h4]; exact h
                  · rw [st_ne h4 (fun w => z2 (by have := w.2; omega))]
                    exact s7 Y (by omega)
                refine p_gFc (ji := 60) rfl k2.c60 (p_gFc (ji := 59) rfl k2.c59 (p_aG (fun v hv => p_if (fun z0 => ?_) (fun z0 => ?_))))
                · have ns : ¬ SL (RYs W n N) d X := by
                    rcases s6 X xl with ⟨e, _⟩ | ⟨_, e⟩
                    · omega
                    · exact e
                  refine p_gK (p_call (v_asks ok hn n12 h16 xl k2 sh2 y2 s6) (fun v m3 y => ?_))
                  obtain ⟨z1, z2⟩ := y
                  replace z1 : m3 = m2 := z1
                  rcases z2 with ⟨h, e⟩ | ⟨h, e⟩
                  · replace e : v = 1 := e
                    refine p_it0 (show ¬ v = 0 by omega) ?_
                    unfold mX9_questions_162
                    exact go 1 m3 z1 (Or.inl ⟨rfl, Or.inr h⟩)
                  · exact p_it1 e (go 0 m3 z1 (Or.inr ⟨rfl, fun w => by
                      rcases w with w | w
                      · exact ns w
                      · exact h w⟩))
                · have ys : SL (RYs W n N) d X := by
                    rcases s6 X xl with ⟨_, e⟩ | ⟨e, _⟩
                    · exact e
                    · omega
                  unfold mX9_questions_162
                  exact go 1 m2 rfl (Or.inl ⟨rfl, ys.up⟩)
          exact l133 FU 0 m1 (Nat.zero_le _) (fun _ _ _ => rfl) (fun Y hY => absurd hY (by omega))
        · rw [hQ]
          refine Or.inl ⟨d, by omega, rfl, ?_, hno⟩
          rcases full with ⟨_, e⟩ | ⟨e, _⟩
          · exact e
          · omega
  have l77 : ∀ (fu X : Nat) (m1 : Mem), X ≤ 2 ^ N → (∀ c j : Int, ¬ c = 166 → mG m1 c j = mG m c j) → SVD (RYs W n N) 166 0 X m1 → pw (mX9_questions_77 fu 126 (N : Int) (X : Int) m1) Q := by
    intro fu
    induction fu with
    | zero => intro X m1 _ _ _; exact p_none
    | succ fu ih =>
      intro X m1 hX g sv
      show pw (bX9_questions_77 (mX9_questions_77 fu) 126 (N : Int) (X : Int) m1) Q
      obtain ⟨k1, _, _⟩ := kk m1 (fun c j x _ => g c j x)
      unfold bX9_questions_77
      rw [sN]
      refine p_if (fun c => ?_) (fun c => ?_)
      · have eX : X = 2 ^ N := by omega
        rw [eX] at sv
        exact l111 FU 0 m1 (by omega) (fun c j x _ => g c j x) sv (fun e he => absurd he (by omega))
      · have xl : X < 2 ^ N := by omega
        have o := one_i (X := X) (by omega)
        have go : ∀ v : Int, (v = 1 ∧ SL (RYs W n N) 0 X) ∨ (v = 0 ∧ ¬ SL (RYs W n N) 0 X) → pw (mX9_questions_102 (mX9_questions_77 fu) 126 (N : Int) (X : Int) 166 (X : Int) v m1) Q := fun v h => by
          unfold mX9_questions_102
          refine p_aSZ (fun m2 h2 => ?_)
          rw [wI_s (p := X) (by omega)]
          refine ih (X + 1) m2 (by omega) (fun c j x => (st_ne h2 (fun w => x w.1)).trans (g c j x)) (fun Y hY => ?_)
          by_cases z : Y = X
          · rw [z, st_eq h2]; exact h
          · rw [st_ne h2 (fun w => z (by have := w.2; omega))]
            exact sv Y (by omega)
        exact p_gFc (ji := 59) rfl k1.c59 (p_if (fun z => go 1 (Or.inl ⟨rfl, o.mp z⟩)) (fun z => go 0 (Or.inr ⟨rfl, fun w => z (o.mpr w)⟩)))
  exact l77 FU 0 m (Nat.zero_le _) (fun _ _ _ => rfl) (fun Y hY => absurd hY (by omega))
theorem v_questions {n K : Nat} (ok : S.ok) (hn : S.nf = (n : Int)) (rf : RFB S P M) (hK : mG M 138 0 = (K : Int)) : pw (mX9_questions 126 M) (fun q => (¬ (n ≤ 12 ∧ 0 < ctn (WDr S P K (tvb M) (knR S M) n) (2 ^ n) ∧ ctn (WDr S P K (tvb M) (knR S M) n) (2 ^ n) ≤ 16) ∧ q.1 = -1) ∨ ((n ≤ 12 ∧ 0 < ctn (WDr S P K (tvb M) (knR S M) n) (2 ^ n) ∧ ctn (WDr S P K (tvb M) (knR S M) n) (2 ^ n) ≤ 16) ∧ ∃ W, WKS (WDr S P K (tvb M) (knR S M) n) (2 ^ n) (ctn (WDr S P K (tvb M) (knR S M) n) (2 ^ n)) W ∧ QST (RYs W n (ctn (WDr S P K (tvb M) (knR S M) n) (2 ^ n))) (2 ^ (ctn (WDr S P K (tvb M) (knR S M) n) (2 ^ n)) - 1) q.1)) := by
  have h8 := rf.2.2.2.1
  have K8 : K ≤ 8 := by omega
  have vl := tvb_lt hK
  have p8 : 2 ^ K ≤ 2 ^ 8 := Nat.pow_le_pow_right (n := 2) (by decide) K8
  have hF : ∀ p, knR S M p = -1 ∨ knR S M p = 0 ∨ knR S M p = 1 := fun p => knf_rg _ _ _ _ _ _
  obtain ⟨WD, hWD⟩ : ∃ WD, WD = WDr S P K (tvb M) (knR S M) n := ⟨_, rfl⟩
  obtain ⟨N, hN⟩ : ∃ N, N = ctn WD (2 ^ n) := ⟨_, rfl⟩
  rw [← hWD, ← hN]
  obtain ⟨Q, hQ⟩ : ∃ Q : Int × Mem → Prop, Q = fun q => (¬ (n ≤ 12 ∧ 0 < N ∧ N ≤ 16) ∧ q.1 = -1) ∨ ((n ≤ 12 ∧ 0 < N ∧ N ≤ 16) ∧ ∃ W, WKS WD (2 ^ n) N W ∧ QST (RYs W n N) (2 ^ N - 1) q.1) := ⟨_, rfl⟩
  rw [← hQ]
  unfold mX9_questions
  refine p_pF (ji := 0) rfl (fun m1 h1 => ?_)
  have g1 : ∀ c j : Int, ¬ c = 126 → mG m1 c j = mG M c j := fun c j x => st_ne h1 (fun w => x w.1)
  have k1 : K9 m1 := rf.1.kp (fun j hj => st_ne h1 (fun w => by omega))
  refine p_gK (p_call (v_can ok rf k1 (fun c j x _ _ => g1 c j x)) (fun v m2 y => ?_))
  obtain ⟨rb, y⟩ := y
  rcases y with ⟨z1, z2⟩ | ⟨z1, z2⟩
  · refine p_it1 z2 (p_ret ?_)
    rw [hQ]
    exact Or.inl ⟨fun w => by omega, rfl⟩
  replace z2 : v = 1 := z2
  have n12 : n ≤ 12 := by omega
  have p12 : 2 ^ n ≤ 2 ^ 12 := Nat.pow_le_pow_right (n := 2) (by decide) n12
  refine p_it0 (show ¬ v = 0 by omega) (p_gK (p_call (v_prep ok hn n12 h8 rb) (fun v m3 y => ?_)))
  obtain ⟨rw', _⟩ := y
  rw [hK] at rw'
  replace rw' : RWd S P (K : Int) (tvb M) (knR S M) n m3 := rw'
  have loop : ∀ (fu w : Nat) (m : Mem), w ≤ 2 ^ n → ctn WD w ≤ 16 → RWd S P (K : Int) (tvb M) (knR S M) n m → (∀ u, u < w → WD u = true → mG m 165 ((ctn WD u : Nat) : Int) = (u : Int)) → pw (mX9_questions_22 fu 126 ((ctn WD w : Nat) : Int) (w : Int) m) Q := by
    intro fu
    induction fu with
    | zero => intro w m _ _ _ _; exact p_none
    | succ fu ih =>
      intro w m hw hc rw' hx
      show pw (bX9_questions_22 (mX9_questions_22 fu) 126 _ (w : Int) m) Q
      unfold bX9_questions_22
      refine p_gK (p_call (v_manyFacts ok rw'.1.1 rw'.1.2) (fun v m4 y => ?_))
      obtain ⟨y6, y7⟩ := y
      replace y6 : m4 = m := y6
      replace y7 : v = S.nf := y7
      subst y6
      rw [hn] at y7
      subst y7
      rw [ishl1 n (by omega), show (2 : Int) ^ n = ((2 ^ n : Nat) : Int) by simp]
      refine p_if (fun c => ?_) (fun c => ?_)
      · have ew : w = 2 ^ n := by omega
        rw [ew, ← hN]
        rw [ew] at hx hc
        rw [← hN] at hc
        refine p_if (fun c0 => p_ret ?_) (fun c0 => ?_)
        · rw [hQ]
          exact Or.inl ⟨fun w => by omega, rfl⟩
        · obtain ⟨W, hW⟩ := wks_ex (f := WD) (2 ^ n)
          rw [← hN] at hW
          have hw2 : ∀ k : Nat, k < N → W k < 4096 ∧ mG m4 165 (k : Int) = ((W k : Nat) : Int) := fun k hk => by
            obtain ⟨a, b, d⟩ := hW k hk
            have := hx (W k) a b
            rw [d] at this
            exact ⟨by omega, this⟩
          refine p_gK (p_call (v_findYes ok hn n12 hc rw'.1.1 rw'.1.2 hw2) (fun v m5 y => ?_))
          obtain ⟨y1, y2⟩ := y
          replace y1 : ∀ c j : Int, ¬ c = 168 → mG m5 c j = mG m4 c j := y1
          refine p_mono (v_rounds (W := W) ok hn n12 hc (rw'.1.1.kp (fun j _ => y1 126 j (by decide))) (rw'.1.2.kp (fun c j hc => y1 c j (by omega))) y2) (fun q z => ?_)
          rw [hQ]
          exact Or.inr ⟨⟨n12, by omega, hc⟩, W, hW, z⟩
      · have w1 : w < 2 ^ n := by omega
        refine p_gK (p_call (v_isWorld (w := w) ok hn n12 w1 hF K8 (by omega) rw') (fun v m5 y => ?_))
        obtain ⟨y8, y9, _⟩ := y
        replace y8 : FI m4 m5 := y8
        replace y9 : v = b2i (WDr S P K (tvb M) (knR S M) n w) := y9
        rw [← hWD] at y9
        have r5 := rw'.fi y8
        have e165 : ∀ j : Int, mG m5 165 j = mG m4 165 j := fun j => y8 165 j (fun w => absurd w.1 (by decide)) (by decide) (by decide) (by decide)
        refine p_if (fun c2 => ?_) (fun c2 => ?_)
        · have wf : WD w = false := b2i_0.mp (y9.symm.trans c2)
          unfold mX9_questions_58
          rw [wI_s (p := w) (by omega)]
          have i := ih (w + 1) m5 (by omega)
          rw [ctn_s, wf, show ctn WD w + false.toNat = ctn WD w from rfl] at i
          refine i hc r5 (fun u hu hwu => ?_)
          rw [e165]
          by_cases e : u = w
          · rw [e, wf] at hwu; cases hwu
          · exact hx u (by omega) hwu
        · have wt : WD w = true := by
            cases e : WD w with
            | true => rfl
            | false => rw [e] at y9; exact absurd y9 c2
          refine p_if (fun c3 => p_ret ?_) (fun c3 => ?_)
          · rw [hQ]
            refine Or.inl ⟨fun z => ?_, rfl⟩
            have := ctn_lt w1 wt
            omega
          · refine p_gFc (ji := 58) rfl r5.1.1.c58 (p_aS (fun m6 h6 => ?_))
            unfold mX9_questions_58
            rw [wI_s (p := w) (by omega), wI_s (p := ctn WD w) (by omega)]
            have i := ih (w + 1) m6 (by omega)
            rw [ctn_s, wt, show ctn WD w + true.toNat = ctn WD w + 1 from rfl] at i
            refine i (by omega) (r5.go (fun c j hc => st_ne h6 (fun z => by omega))) (fun u hu hwu => ?_)
            by_cases e : u = w
            · rw [e]; exact st_eq h6
            · have := ctn_lt (show u < w by omega) hwu
              rw [st_ne h6 (fun z => by omega), e165]
              exact hx u (by omega) hwu
  exact loop FU 0 m3 (Nat.zero_le _) (by show 0 ≤ 16; omega) rw' (fun u hu => absurd hu (by omega))
end
theorem eq_questions {M : Mem} (h : J3 M) : pw (mX8_questions 1 M) (fun q1 => pw (mX9_questions 126 q1.2) (fun q2 => EQ q1 q2)) := by
  have iM := h.1.1.1
  obtain ⟨P, n, ok, hn, k2, sh, tp, rf, ve, vlt, h1, hl⟩ := look h
  refine p_mono (q_questions iM ok hn k2 sh h1.1 hl) (fun q1 y => ?_)
  obtain ⟨g, y⟩ := y
  obtain ⟨rf2, e1, e2, e3⟩ := rf.f9 (M' := q1.2) (fun c j c0 _ => g c j (by omega))
  obtain ⟨K, hK⟩ := Int.eq_ofNat_of_zero_le rf.2.2.2.1.1
  have h8 := rf.2.2.2.1
  rw [hK, Int.toNat_natCast] at vlt
  refine p_mono (v_questions ok hn rf2 (e3.trans hK)) (fun q2 z => ?_)
  rw [e1, e2, ve] at z
  have fe : ∀ w, w < 2 ^ n → WDw (shp M) P (vwb M) (knR (shp M) M) w = WDr (shp M) P K (vwb M) (knR (shp M) M) n w := fun w hw => wd_eq hn vlt (by omega) hw
  have ce := ctn_congr _ fe
  rw [ce] at y
  show q1.1 = q2.1
  rcases y with ⟨u, v⟩ | ⟨u, v⟩
  · rcases z with ⟨w, x⟩ | ⟨w, x⟩
    · rw [v, x]
    · exact absurd w u
  · rcases z with ⟨w, x⟩ | ⟨w, W, x1, x2⟩
    · exact absurd u w
    · have hW : WKS (WDw (shp M) P (vwb M) (knR (shp M) M)) (2 ^ n) (ctn (WDr (shp M) P K (vwb M) (knR (shp M) M) n) (2 ^ n)) W := fun k hk => by
        obtain ⟨a, b, c⟩ := x1 k hk
        refine ⟨a, by rw [fe _ a]; exact b, ?_⟩
        rw [ctn_congr _ (fun x hx => fe x (by omega))]
        exact c
      have Xl : 2 ^ (ctn (WDr (shp M) P K (vwb M) (knR (shp M) M) n) (2 ^ n)) - 1 < 65536 := by
        have : 2 ^ (ctn (WDr (shp M) P K (vwb M) (knR (shp M) M) n) (2 ^ n)) ≤ 2 ^ 16 := Nat.pow_le_pow_right (n := 2) (by decide) u.2.2
        omega
      exact QST.eq (fun d => ys_eq u.1 Xl d) (v W hW) x2
theorem j3_questionsE {M : Mem} (h : J3 M) : wp (mX8_questions 1 M) (fun q1 => wp (mX9_questions 126 q1.2) (fun q2 => J3 q2.2 ∧ EQ q1 q2)) := J3.e (M := M) (j3_questions h) (eq_questions h)
end
section
/-! ===== other sizes: whether all that is viewed fits ===== -/
def SH.rs (S : SH) (a b c : Int) : SH := (fun k => if k = 0 then a else if k = 1 then b else c, S.nr, S.k1, S.k2)
theorem rs_ok {S : SH} {a b c : Int} (ok : S.ok) (ha : 1 ≤ a ∧ a ≤ 3) (hb : 1 ≤ b ∧ b ≤ 3) (hc : 1 ≤ c ∧ c ≤ 3) : (S.rs a b c).ok := by
  refine ⟨fun k k0 k1 => ?_, ok.2.1, ok.2.2⟩
  show 1 ≤ (if k = 0 then a else if k = 1 then b else c) ∧ (if k = 0 then a else if k = 1 then b else c) ≤ 3
  by_cases e : k = 0
  · rw [if_pos e]; exact ha
  · rw [if_neg e]
    by_cases e1 : k = 1
    · rw [if_pos e1]; exact hb
    · rw [if_neg e1]; exact hc
def FITS (S : SH) (P : Nat → List Row) (vw : Nat) (a b c : Int) : Prop := (1 ≤ c ∧ c ≤ 3) ∧ (S.rs a b c).nf ≤ 12 ∧ ∃ w : Nat, w < 2 ^ (S.rs a b c).nf.toNat ∧ allb (stw (S.rs a b c) P vw w) 8 = true
def ky (s m h : Int) : Int := 16 * s + 4 * m + h
def rg3 (s m h : Int) : Prop := (3 ≤ s ∧ s ≤ 9) ∧ (1 ≤ m ∧ m ≤ 3) ∧ (1 ≤ h ∧ h ≤ 3)
/-- none of those that come earlier fits -/
def NFT (S : SH) (P : Nat → List Row) (vw : Nat) (k : Int) : Prop := ∀ s m h : Int, rg3 s m h → ky s m h < k → ¬ FITS S P vw m h (s - m - h)
def LST (S : SH) (P : Nat → List Row) (vw : Nat) (x y z : Int) : Prop := (∃ s m h : Int, rg3 s m h ∧ FITS S P vw m h (s - m - h) ∧ NFT S P vw (ky s m h) ∧ x = m ∧ y = h ∧ z = s - m - h) ∨ (NFT S P vw 200 ∧ x = -1 ∧ y = -1 ∧ z = -1)
section
variable {S : SH} {P : Nat → List Row} {vw : Nat}
theorem LST.eq {x y z x' y' z' : Int} (h : LST S P vw x y z) (k : LST S P vw x' y' z') : x = x' ∧ y = y' ∧ z = z' := by
  rcases h with ⟨s, m, h, r, f, n, e1, e2, e3⟩ | ⟨n, e1, e2, e3⟩
  · rcases k with ⟨s', m', h', r', f', n', e1', e2', e3'⟩ | ⟨n', _⟩
    · have a : ¬ ky s' m' h' < ky s m h := fun w => n s' m' h' r' w f'
      have b : ¬ ky s m h < ky s' m' h' := fun w => n' s m h r w f
      unfold ky at a b
      unfold rg3 at r r'
      refine ⟨by omega, by omega, by omega⟩
    · exact absurd f (n' s m h r (by unfold ky; unfold rg3 at r; omega))
  · rcases k with ⟨s', m', h', r', f', n', e1', e2', e3'⟩ | ⟨n', e1', e2', e3'⟩
    · exact absurd f' (n s' m' h' r' (by unfold ky; unfold rg3 at r'; omega))
    · exact ⟨by omega, by omega, by omega⟩
theorem NFT.step {s m h : Int} (n : NFT S P vw (ky s m h)) (r0 : rg3 s m h) (f : ¬ FITS S P vw m h (s - m - h)) : NFT S P vw (ky s m (h + 1)) := fun s' m' h' r w => by
  by_cases e : ky s' m' h' < ky s m h
  · exact n s' m' h' r e
  · unfold ky at e w
    unfold rg3 at r r0
    have e1 : s' = s := by omega
    have e2 : m' = m := by omega
    have e3 : h' = h := by omega
    rw [e1, e2, e3]
    exact f
theorem NFT.row {s m : Int} (n : NFT S P vw (ky s m 4)) : NFT S P vw (ky s (m + 1) 1) := fun s' m' h' r w => n s' m' h' r (by
  unfold ky at w ⊢
  unfold rg3 at r
  omega)
theorem NFT.sum {s : Int} (n : NFT S P vw (ky s 4 1)) : NFT S P vw (ky (s + 1) 1 1) := fun s' m' h' r w => n s' m' h' r (by
  unfold ky at w ⊢
  unfold rg3 at r
  omega)
theorem NFT.fin (n : NFT S P vw (ky 10 1 1)) : NFT S P vw 200 := fun s' m' h' r w => n s' m' h' r (by
  unfold ky at w ⊢
  unfold rg3 at r
  omega)
theorem NFT.ini : NFT S P vw (ky 3 1 1) := fun s' m' h' r w => by
  unfold ky at w
  unfold rg3 at r
  omega
end
/-- the trial's shape, sizes aside -/
def TRI (S : SH) (m : Mem) : Prop := LO 38 m ∧ mG m 38 6 = S.nr ∧ ∀ r : Int, 0 ≤ r → r < S.nr → mG m 40 r = S.k1 r ∧ mG m 41 r = S.k2 r
theorem TRI.kp {S : SH} {m m' : Mem} (h : TRI S m) (g : ∀ c j : Int, 38 ≤ c → c ≤ 44 → mG m' c j = mG m c j) : TRI S m' :=
  ⟨h.1.of (fun b j b0 b1 => g b j b0 (by omega)), (g 38 6 (by decide) (by decide)).trans h.2.1, fun r r0 r1 => ⟨(g 40 r (by decide) (by decide)).trans (h.2.2 r r0 r1).1, (g 41 r (by decide) (by decide)).trans (h.2.2 r r0 r1).2⟩⟩
theorem is38 : isShape 38 := by unfold isShape; decide
theorem tri_shc {n : Nat} {m : Mem} {S : SH} {a b c : Int} (iM : I n m) (n4 : 0 ≤ S.nr ∧ S.nr ≤ 4) (h : TRI S m) (h0 : mG m 39 0 = a) (h1 : mG m 39 1 = b) (h2 : mG m 39 2 = c) : SHC (S.rs a b c) 38 m := by
  obtain ⟨⟨l1, l2⟩, e6, kk⟩ := h
  have sg := iM.sg is38
  have hs : ∀ k : Int, 0 ≤ k ∧ k ≤ 2 → mG m 39 k = (S.rs a b c).sz k := fun k hk => by
    show mG m 39 k = (if k = 0 then a else if k = 1 then b else c)
    by_cases e0 : k = 0
    · rw [if_pos e0, e0, h0]
    · rw [if_neg e0]
      by_cases e1 : k = 1
      · rw [if_pos e1, e1, h1]
      · rw [if_neg e1, show k = 2 by omega, h2]
  have hz : ∀ k : Int, -1 ≤ k ∧ k ≤ 2 → szC 38 m k = (S.rs a b c).zv k := fun k hk => by
    show (if k = -1 then 1 else mG m 39 k) = (if k = -1 then 1 else (S.rs a b c).sz k)
    by_cases e : k = -1
    · rw [if_pos e, if_pos e]
    · rw [if_neg e, if_neg e, hs k ⟨by omega, hk.2⟩]
  have f1 : ∀ r : Int, 0 ≤ mG m 40 r ∧ mG m 40 r ≤ 2 := fun r => sg.2.2.2.1 r
  have f2 : ∀ r : Int, -1 ≤ mG m 41 r ∧ mG m 41 r ≤ 2 := fun r => sg.2.2.2.2 r
  have st : ∀ r : Nat, (r : Int) ≤ S.nr → stC 38 m r = (S.rs a b c).st r := by
    intro r
    induction r with
    | zero => intro _; rfl
    | succ r ih =>
      intro hr
      obtain ⟨k1, k2⟩ := kk (r : Int) (by omega) (by omega)
      have x1 := f1 (r : Int)
      have x2 := f2 (r : Int)
      show stC 38 m r + szC 38 m (mG m 40 r) * szC 38 m (mG m 41 r) = (S.rs a b c).st r + (S.rs a b c).zv (S.k1 r) * (S.rs a b c).zv (S.k2 r)
      rw [ih (by omega), hz _ ⟨by omega, x1.2⟩, hz _ x2, k1, k2]
  refine ⟨⟨(sg.1 0 (by decide) (by decide)).trans (by decide), (sg.1 1 (by decide) (by decide)).trans (by decide), (sg.1 2 (by decide) (by decide)).trans (by decide), (sg.1 3 (by decide) (by decide)).trans (by decide), (sg.1 4 (by decide) (by decide)).trans (by decide), (sg.1 5 (by decide) (by decide)).trans (by decide), e6, ?_⟩, fun k k0 k1 => hs k ⟨k0, by omega⟩, fun r r0 r1 => ?_⟩
  · rw [e6] at l1
    exact l1.trans (st _ (by omega))
  · obtain ⟨x, rfl⟩ := Int.eq_ofNat_of_zero_le r0
    have r1 : (x : Int) < S.nr := r1
    obtain ⟨k1, k2⟩ := kk (x : Int) r0 r1
    obtain ⟨y1, y2, y3⟩ := l2 x (by rw [e6]; exact r1)
    have x1 := f1 (x : Int)
    have x2 := f2 (x : Int)
    refine ⟨k1, k2, ?_, ?_, ?_⟩
    · rw [Int.toNat_natCast]
      exact y1.trans (st x (by omega))
    · refine y2.trans ?_
      show szC 38 m (mG m 40 x) = (S.rs a b c).zv (S.k1 x)
      rw [hz _ ⟨by omega, x1.2⟩, k1]
    · refine y3.trans ?_
      show szC 38 m (mG m 41 x) = (S.rs a b c).zv (S.k2 x)
      rw [hz _ x2, k2]
theorem q_resize {n : Nat} {m : Mem} {k v : Int} (iM : I n m) (lo : LO 38 m) (hk : 0 ≤ k ∧ k ≤ 2) (hv : 1 ≤ v ∧ v ≤ 3) : pw (mX3_resize 38 k v m) (fun q => I n q.2 ∧ LO 38 q.2 ∧ (∀ j : Int, mG q.2 39 j = if j = k then v else mG m 39 j) ∧ ∀ c j : Int, ¬ c = 39 → ¬ (c = 38 ∧ j = 7) → ¬ (42 ≤ c ∧ c ≤ 44) → mG q.2 c j = mG m c j) := by
  have main : pw (mX3_resize 38 k v m) (fun q => LO 38 q.2 ∧ (∀ j : Int, mG q.2 39 j = if j = k then v else mG m 39 j) ∧ ∀ c j : Int, ¬ c = 39 → ¬ (c = 38 ∧ j = 7) → ¬ (42 ≤ c ∧ c ≤ 44) → mG q.2 c j = mG m c j) := by
    unfold mX3_resize
    refine p_call pl_isKind (fun r m1 y => ?_)
    obtain ⟨y1, y2⟩ := y
    replace y1 : m1 = m := y1
    subst y1
    rcases y2 with ⟨e, _⟩ | ⟨e, c⟩
    · replace e : r = 1 := e
      have s5 : mG m1 38 0 = 39 := ((iM.sg is38).1 0 (by decide) (by decide)).trans (by decide)
      refine p_it0 (show ¬ r = 0 by omega) (p_it0 (by omega) (p_it0 (by omega) (p_gFc (ji := 0) rfl s5 (p_aG (fun u hu => p_if (fun c4 => p_ret ⟨lo, fun j => ?_, fun _ _ _ _ _ => rfl⟩) (fun c4 => p_gFc (ji := 0) rfl s5 (p_aS (fun M1 h1 => p_gK ?_))))))))
      · by_cases e2 : j = k
        · rw [if_pos e2, e2]; exact hu.trans c4
        · rw [if_neg e2]
      · have iM1 : I n M1 := wr_Ssizes iM (a := 39) rfl ⟨by omega, by omega⟩ h1
        refine p_call (pl_layOut (iM1.sg is38)) (fun r2 m2 y => p_ret ?_)
        obtain ⟨lo2, fr⟩ := y
        replace fr : FrL 38 M1 m2 := fr
        refine ⟨lo2, fun j => ?_, fun c j c0 c1 c2 => (fr c j c1 (by omega)).trans (st_ne h1 (fun w => c0 w.1))⟩
        refine (fr 39 j (by omega) (by omega)).trans ?_
        by_cases e2 : j = k
        · rw [if_pos e2, e2]; exact st_eq h1
        · rw [if_neg e2]; exact st_ne h1 (fun w => e2 w.2)
    · exact absurd hk c
  exact p_mono (p_and main (p_wp (s_X3_resize (l0 := 38) (l1 := k) (l2 := v) is38 (by omega) (by omega) iM))) (fun q y => ⟨y.2.1, y.1⟩)
section
variable {m : Mem} {S : SH} {P : Nat → List Row} {vw : Nat}
theorem q_fits73 (ok : S.ok) (n12 : S.nf ≤ 12) (k2 : K2 m) (sh : SHC S 38 m) (tp : TXP S P m) (hvw : ∀ s : Nat, vw.testBit s = true → (s : Int) < mG m 3 11) (v8 : vw < 256) (ws : WS 36 S.nf (fun w => decide (w < 2 ^ S.nf.toNat)) m) : pw (mX4_fits_73 FU 2 (vw : Int) 0 m) (fun q => FQ m q.2 ∧ (((∃ w : Nat, w < 2 ^ S.nf.toNat ∧ allb (stw S P vw w) 8 = true) ∧ q.1 = 1) ∨ ((¬ ∃ w : Nat, w < 2 ^ S.nf.toNat ∧ allb (stw S P vw w) 8 = true) ∧ q.1 = 0))) := by
  have nf := ok.nf
  have ub := uw_b (n := S.nf) ⟨nf.1, n12⟩
  obtain ⟨Q, hQ⟩ : ∃ Q : Int × Mem → Prop, Q = fun q => FQ m q.2 ∧ (((∃ w : Nat, w < 2 ^ S.nf.toNat ∧ allb (stw S P vw w) 8 = true) ∧ q.1 = 1) ∨ ((¬ ∃ w : Nat, w < 2 ^ S.nf.toNat ∧ allb (stw S P vw w) 8 = true) ∧ q.1 = 0)) := ⟨_, rfl⟩
  rw [← hQ]
  have l73 : ∀ (fu x : Nat) (m5 : Mem), x ≤ uw S.nf → FQ m m5 → (∀ w, w < 64 * x → w < 2 ^ S.nf.toNat → ¬ allb (stw S P vw w) 8 = true) → pw (mX4_fits_73 fu 2 (vw : Int) (x : Int) m5) Q := by
    intro fu
    induction fu with
    | zero => intro x m5 _ _ _; exact p_none
    | succ fu ih =>
      intro x m5 hx fq hz
      show pw (bX4_fits_73 (mX4_fits_73 fu) 2 (vw : Int) (x : Int) m5) Q
      have k5 := k2.fq fq
      have ws5 : WS 36 S.nf (fun w => decide (w < 2 ^ S.nf.toNat)) m5 := ws.kp (fun j => fq 36 j (by omega) (by omega)) (fun j => fq 37 j (by omega) (by omega))
      unfold bX4_fits_73
      refine p_gFc (ji := 7) rfl k5.c2_7 (p_gK (p_call (P := fun q => q.2 = m5 ∧ q.1 = ((uw S.nf : Nat) : Int)) ?_ (fun r m6 y => ?_)))
      · unfold mX7_usedWords
        exact p_gFc (ji := 1) rfl ws5.1.2.1 (p_ret ⟨rfl, rfl⟩)
      obtain ⟨y1, y2⟩ := y
      replace y1 : m6 = m5 := y1
      replace y2 : r = ((uw S.nf : Nat) : Int) := y2
      subst y1
      refine p_if (fun c => p_ret ?_) (fun c => ?_)
      · have c : r ≤ (x : Int) := c
        rw [hQ]
        refine ⟨fq, Or.inr ⟨?_, rfl⟩⟩
        rintro ⟨w, w1, w2⟩
        exact hz w (by have p := ub.2.2.1; omega) w1 w2
      have c : ¬ r ≤ (x : Int) := c
      have x1 : x < uw S.nf := by omega
      obtain ⟨v1, v2⟩ := ws5.2 x x1
      refine p_gFc (ji := 7) rfl k5.c2_7 (p_gFc (ji := 0) rfl ws5.1.1 (p_aG (fun l hl => ?_)))
      rw [hl] at v1 v2
      have nxt : ∀ m7, FQ m m7 → (∀ b : Nat, b < 64 → 64 * x + b < 2 ^ S.nf.toNat → ¬ allb (stw S P vw (64 * x + b)) 8 = true) → pw (mX4_fits_73 fu 2 (vw : Int) (wI ((x : Int) + 1)) m7) Q := fun m7 f7 h => by
        rw [wI_s (p := x) (by omega)]
        refine ih (x + 1) m7 (by omega) f7 (fun w hw w1 => ?_)
        by_cases e : w < 64 * x
        · exact hz w e w1
        · have := h (w - 64 * x) (by omega)
          rw [show 64 * x + (w - 64 * x) = w by omega] at this
          exact this w1
      have l100 : ∀ (fu2 s : Nat) (l : Int) (m7 : Mem), s ≤ 8 → FQ m m7 → InLL l → (∀ b : Nat, b < 64 → lb l b = (decide (64 * x + b < 2 ^ S.nf.toNat) && allb (stw S P vw (64 * x + b)) s)) → pw (mX4_fits_100 (mX4_fits_73 fu) fu2 2 (vw : Int) (x : Int) l (s : Int) m7) Q := by
        intro fu2
        induction fu2 with
        | zero => intro s l m7 _ _ _ _; exact p_none
        | succ fu2 ih2 =>
          intro s l m7 hs f7 l1 l2
          show pw (bX4_fits_100 (mX4_fits_73 fu) (mX4_fits_100 (mX4_fits_73 fu) fu2) 2 (vw : Int) (x : Int) l (s : Int) m7) Q
          have zero : l = 0 → pw (mX4_fits_73 fu 2 (vw : Int) (wI ((x : Int) + 1)) m7) Q := fun e => nxt m7 f7 (fun b hb w1 w2 => by
            have h := l2 b hb
            have t := (allb_t 8).mp w2
            rw [(l_zero l1).mp e b hb, decide_eq_true w1, Bool.true_and, (allb_t s).mpr (fun i hi => t i (by omega))] at h
            cases h)
          have k7 := k2.fq f7
          unfold bX4_fits_100
          refine p_if (fun c8 => ?_) (fun c8 => p_if (fun c0 => ?_) (fun c0 => ?_))
          · have e8 : s = 8 := by omega
            subst e8
            unfold mX4_fits_167
            refine p_if (fun c0 => zero ((lcmp_0 _ _).mp c0)) (fun c0 => p_ret ?_)
            rw [hQ]
            refine ⟨f7, Or.inl ⟨?_, rfl⟩⟩
            apply Classical.byContradiction
            intro hn
            refine c0 ((lcmp_0 _ _).mpr ((l_zero l1).mpr (fun b hb => ?_)))
            rw [l2 b hb]
            by_cases w1 : 64 * x + b < 2 ^ S.nf.toNat
            · cases w2 : allb (stw S P vw (64 * x + b)) 8 with
              | false => exact Bool.and_false _
              | true => exact absurd ⟨_, w1, w2⟩ hn
            · rw [decide_eq_false w1]; rfl
          · unfold mX4_fits_167
            exact p_it1 c0 (zero ((lcmp_0 _ _).mp c0))
          · have s8 : s < 8 := by omega
            refine p_gFc (ji := 0) rfl k7.c2_0 (p_gFc (ji := 8) rfl k7.c3_8 (p_aG (fun t ht => ?_)))
            have skip : vw.testBit s = false → pw (mX4_fits_161 (mX4_fits_73 fu) (mX4_fits_100 (mX4_fits_73 fu) fu2) 2 (vw : Int) (x : Int) l (s : Int) m7) Q := fun e => by
              unfold mX4_fits_161
              rw [wI_s (p := s) (by omega)]
              refine ih2 (s + 1) l m7 (by omega) f7 l1 (fun b hb => ?_)
              rw [l2 b hb]
              show (_ && allb _ s) = (_ && (allb _ s && stw S P vw (64 * x + b) s))
              have : stw S P vw (64 * x + b) s = true := by unfold stw; rw [e]; rfl
              rw [this, Bool.and_true]
            refine p_if (fun c2 => skip ((ibit (x := vw) (k := s) (by omega) (by omega)).mp c2)) (fun c2 => ?_)
            have tk : vw.testBit s = true := by
              cases e : vw.testBit s with
              | true => rfl
              | false => exact absurd ((ibit (x := vw) (k := s) (by omega) (by omega)).mpr e) c2
            obtain ⟨t1, t2, t3⟩ := tp s (hvw s tk)
            have et : t = mG m 14 (s : Int) := ht.symm.trans (f7 14 _ (by omega) (by omega))
            subst et
            refine p_it0 (by omega) (p_gFc (ji := 1) rfl k7.c2_1 (p_gFc (ji := 8) rfl k7.c2_8 (p_gK (p_call (q_soInWord (s := 38) (t := mG m 14 (s : Int)) (a := x) ok n12 ⟨Or.inr rfl, t1⟩ k7 (sh.kp (fun c j c0 c1 => f7 c j (by omega) (by omega))) (t2.of (fun b j b0 b1 => f7 b j (by omega) (by omega))) t3 (by omega)) (fun v m8 y => ?_)))))
            obtain ⟨⟨y1, y2⟩, y3⟩ := y
            replace y3 : FQ m7 m8 := y3
            replace y2 : ∀ b : Nat, b < 64 → lb v b = TMw S (P s) (64 * x + b) := y2
            unfold mX4_fits_161
            rw [wI_s (p := s) (by omega)]
            refine ih2 (s + 1) (land l v) m8 (by omega) (fun c j a b => (y3 c j a b).trans (f7 c j a b)) (land_L _ _) (fun b hb => ?_)
            rw [lb_and, l2 b hb, y2 b hb]
            show ((_ && allb _ s) && _) = (_ && (allb _ s && stw S P vw (64 * x + b) s))
            have : stw S P vw (64 * x + b) s = TMw S (P s) (64 * x + b) := by unfold stw; rw [tk]; rfl
            rw [this, Bool.and_assoc]
      refine l100 FU 0 l m6 (Nat.zero_le _) fq v1 (fun b hb => ?_)
      rw [v2 b hb]
      show _ = (_ && true)
      rw [Bool.and_true]
  exact l73 FU 0 m (Nat.zero_le _) (fun _ _ _ _ => rfl) (fun w hw => absurd hw (by omega))
end
def WFT (c j : Int) : Prop := (c = 20 ∧ (j = 0 ∨ j = 1 ∨ j = 5)) ∨ (21 ≤ c ∧ c ≤ 23) ∨ c = 37 ∨ (c = 36 ∧ (j = 1 ∨ j = 2)) ∨ c = 39 ∨ (c = 38 ∧ j = 7) ∨ (42 ≤ c ∧ c ≤ 44)
def FFT (M M' : Mem) : Prop := ∀ c j : Int, ¬ WFT c j → mG M' c j = mG M c j
theorem q_fits {n : Nat} {m : Mem} {S : SH} {P : Nat → List Row} {vw : Nat} {a b c : Int} (ok : S.ok) (iM : I n m) (tri : TRI S m) (tp : TXP S P m) (hvw : ∀ s : Nat, vw.testBit s = true → (s : Int) < mG m 3 11) (v8 : vw < 256) (ha : 1 ≤ a ∧ a ≤ 3) (hb : 1 ≤ b ∧ b ≤ 3) (hc : -3 ≤ c ∧ c ≤ 7) : pw (mX4_fits 2 a b c (vw : Int) m) (fun q => (I n q.2 ∧ TRI S q.2 ∧ FFT m q.2) ∧ ((FITS S P vw a b c ∧ q.1 = 1 ∧ mG q.2 39 0 = a ∧ mG q.2 39 1 = b ∧ mG q.2 39 2 = c) ∨ (¬ FITS S P vw a b c ∧ q.1 = 0))) := by
  obtain ⟨Q, hQ⟩ : ∃ Q : Int × Mem → Prop, Q = fun q => (TRI S q.2 ∧ FFT m q.2) ∧ ((FITS S P vw a b c ∧ q.1 = 1 ∧ mG q.2 39 0 = a ∧ mG q.2 39 1 = b ∧ mG q.2 39 2 = c) ∨ (¬ FITS S P vw a b c ∧ q.1 = 0)) := ⟨_, rfl⟩
  have main : pw (mX4_fits 2 a b c (vw : Int) m) Q := by
    have n4 := ok.2.1
    unfold mX4_fits
    refine p_if (fun c1 => p_ret ?_) (fun c1 => p_if (fun c3 => ?_) (fun c3 => p_ret ?_))
    · rw [hQ]; exact ⟨⟨tri, fun _ _ _ => rfl⟩, Or.inr ⟨fun w => by have := w.1; omega, rfl⟩⟩
    · have hc3 : 1 ≤ c ∧ c ≤ 3 := ⟨by omega, c3⟩
      refine p_gFc (ji := 8) rfl (K2.of iM).c2_8 (p_gK (p_call (q_resize (k := 0) (v := a) iM tri.1 (by omega) ha) (fun _ m1 y => ?_)))
      obtain ⟨i1, lo1, z1, g1⟩ := y
      replace i1 : I n m1 := i1
      replace lo1 : LO 38 m1 := lo1
      replace z1 : ∀ j : Int, mG m1 39 j = if j = 0 then a else mG m 39 j := z1
      replace g1 : ∀ c j : Int, ¬ c = 39 → ¬ (c = 38 ∧ j = 7) → ¬ (42 ≤ c ∧ c ≤ 44) → mG m1 c j = mG m c j := g1
      refine p_gFc (ji := 8) rfl (K2.of i1).c2_8 (p_gK (p_call (q_resize (k := 1) (v := b) i1 lo1 (by omega) hb) (fun _ m2 y => ?_)))
      obtain ⟨i2, lo2, z2, g2⟩ := y
      replace i2 : I n m2 := i2
      replace lo2 : LO 38 m2 := lo2
      replace z2 : ∀ j : Int, mG m2 39 j = if j = 1 then b else mG m1 39 j := z2
      replace g2 : ∀ c j : Int, ¬ c = 39 → ¬ (c = 38 ∧ j = 7) → ¬ (42 ≤ c ∧ c ≤ 44) → mG m2 c j = mG m1 c j := g2
      refine p_gFc (ji := 8) rfl (K2.of i2).c2_8 (p_gK (p_call (q_resize (k := 2) (v := c) i2 lo2 (by omega) hc3) (fun _ m3 y => ?_)))
      obtain ⟨i3, lo3, z3, g3⟩ := y
      replace i3 : I n m3 := i3
      replace lo3 : LO 38 m3 := lo3
      replace z3 : ∀ j : Int, mG m3 39 j = if j = 2 then c else mG m2 39 j := z3
      have gg : ∀ c j : Int, ¬ c = 39 → ¬ (c = 38 ∧ j = 7) → ¬ (42 ≤ c ∧ c ≤ 44) → mG m3 c j = mG m c j := fun c j x y z => (g3 c j x y z).trans ((g2 c j x y z).trans (g1 c j x y z))
      have e0 : mG m3 39 0 = a := by rw [z3, if_neg (by decide), z2, if_neg (by decide), z1, if_pos rfl]
      have e1 : mG m3 39 1 = b := by rw [z3, if_neg (by decide), z2, if_pos rfl]
      have e2 : mG m3 39 2 = c := by rw [z3, if_pos rfl]
      have tri3 : TRI S m3 := ⟨lo3, (gg 38 6 (by decide) (by decide) (by decide)).trans tri.2.1, fun r r0 r1 => ⟨(gg 40 r (by decide) (by omega) (by decide)).trans (tri.2.2 r r0 r1).1, (gg 41 r (by decide) (by omega) (by decide)).trans (tri.2.2 r r0 r1).2⟩⟩
      have sh : SHC (S.rs a b c) 38 m3 := tri_shc i3 n4 tri3 e0 e1 e2
      have oks : (S.rs a b c).ok := rs_ok ok ha hb hc3
      have nf := oks.nf
      have k3 := K2.of i3
      refine p_gFc (ji := 8) rfl k3.c2_8 (p_gFc (ji := 7) rfl sh.1.2.2.2.2.2.2.2 (p_if (fun c12 => ?_) (fun c12 => p_ret ?_)))
      · refine p_gFc (ji := 7) rfl k3.c2_7 (p_gFc (ji := 8) rfl k3.c2_8 (p_gFc (ji := 7) rfl sh.1.2.2.2.2.2.2.2 (p_gK (p_call (q_takeAll (l := 36) (k := (S.rs a b c).nf) ⟨nf.1, c12⟩ k3.c36_0) (fun _ m4 y => ?_)))))
        obtain ⟨ws, f4⟩ := y
        replace f4 : FW 36 m3 m4 := f4
        have g4 : ∀ c j : Int, ¬ c = 37 → ¬ (c = 36 ∧ (j = 1 ∨ j = 2)) → mG m4 c j = mG m3 c j := fun c j x y => f4 c j x y
        have tp4 : TXP (S.rs a b c) P m4 := fun s hs => by
          have e11 : mG m4 3 11 = mG m 3 11 := (g4 3 11 (by decide) (by decide)).trans (gg 3 11 (by decide) (by decide) (by decide))
          rw [e11] at hs
          obtain ⟨t1, t2, t3⟩ := tp s hs
          have e14 : mG m4 14 (s : Int) = mG m 14 (s : Int) := (g4 14 _ (by decide) (by omega)).trans (gg 14 _ (by decide) (by omega) (by decide))
          rw [e14]
          exact ⟨t1, t2.of (fun b' j b0 b1 => (g4 b' j (by omega) (by omega)).trans (gg b' j (by omega) (by omega) (by omega))), t3⟩
        refine p_mono (q_fits73 (S := S.rs a b c) (P := P) (vw := vw) oks c12 (k3.fw f4 (by decide)) (sh.kp (fun c j c0 c1 => g4 c j (by omega) (by omega))) tp4 (fun s hs => by
          rw [(g4 3 11 (by decide) (by decide)).trans (gg 3 11 (by decide) (by decide) (by decide))]
          exact hvw s hs) v8 ws) (fun q y => ?_)
        obtain ⟨fq, y⟩ := y
        have g5 : ∀ c j : Int, ¬ (c = 20 ∧ (j = 0 ∨ j = 1 ∨ j = 5)) → ¬ (21 ≤ c ∧ c ≤ 23) → ¬ c = 37 → ¬ (c = 36 ∧ (j = 1 ∨ j = 2)) → mG q.2 c j = mG m3 c j := fun c j x y z w => (fq c j x y).trans (g4 c j z w)
        rw [hQ]
        refine ⟨⟨tri3.kp (fun c j c0 c1 => g5 c j (by omega) (by omega) (by omega) (by omega)), fun c j x => (g5 c j (fun w => x (by unfold WFT; omega)) (fun w => x (by unfold WFT; omega)) (fun w => x (by unfold WFT; omega)) (fun w => x (by unfold WFT; omega))).trans (gg c j (fun w => x (by unfold WFT; omega)) (fun w => x (by unfold WFT; omega)) (fun w => x (by unfold WFT; omega)))⟩, ?_⟩
        have s39 : ∀ j, mG q.2 39 j = mG m3 39 j := fun j => g5 39 j (by omega) (by decide) (by decide) (by omega)
        rcases y with ⟨y1, y2⟩ | ⟨y1, y2⟩
        · exact Or.inl ⟨⟨hc3, c12, y1⟩, y2, (s39 0).trans e0, (s39 1).trans e1, (s39 2).trans e2⟩
        · exact Or.inr ⟨fun w => y1 w.2.2, y2⟩
      · rw [hQ]
        exact ⟨⟨tri3, fun c j x => gg c j (fun w => x (by unfold WFT; omega)) (fun w => x (by unfold WFT; omega)) (fun w => x (by unfold WFT; omega))⟩, Or.inr ⟨fun w => c12 w.2.1, rfl⟩⟩
    · rw [hQ]; exact ⟨⟨tri, fun _ _ _ => rfl⟩, Or.inr ⟨fun w => by have := w.1; omega, rfl⟩⟩
  rw [hQ] at main
  exact p_mono (p_and main (p_wp (s_X4_fits (l1 := a) (l2 := b) (l3 := c) (l4 := (vw : Int)) ha hb hc (by omega) iM))) (fun q y => ⟨⟨y.2.1, y.1.1⟩, y.1.2⟩)
end
