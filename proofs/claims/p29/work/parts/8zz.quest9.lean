/-! ===== the reference's questions ===== -/
def RYs (W : Nat → Nat) (n N : Nat) (y : Nat) : Prop := ∃ b, b < n ∧ y = Ybt W N b
theorem ys_eq {W : Nat → Nat} {n N X : Nat} (n12 : n ≤ 12) (hX : X < 65536) (d : Nat) : SL (AYs (Apl W n N)) d X ↔ SL (RYs W n N) d X := by
  constructor
  · refine SL.sub (fun y h => ?_) d X hX
    obtain ⟨p, p1, e⟩ := h
    unfold Apl at e
    by_cases c : p < n
    · rw [if_pos c] at e
      exact Or.inl ⟨n - 1 - p, by omega, e⟩
    · rw [if_neg c] at e
      exact Or.inr e
  · refine SL.sub (fun y h => ?_) d X hX
    obtain ⟨b, b1, e⟩ := h
    refine Or.inl ⟨n - 1 - b, by omega, ?_⟩
    unfold Apl
    rw [if_pos (by omega), show n - 1 - (n - 1 - b) = b by omega]
    exact e
theorem z_hl (z : Nat) : z = 0 ↔ (z / 2 ^ 8 = 0 ∧ z % 2 ^ 8 = 0) := by omega
theorem and_hl (a b c d : Nat) (hb : b < 256) (hd : d < 256) : ((256 * a + b) &&& (256 * c + d) = 0) ↔ (a &&& c = 0 ∧ b &&& d = 0) := by
  rw [z_hl, Nat.and_div_two_pow, Nat.and_mod_two_pow, show (256 * a + b) / 2 ^ 8 = a by omega, show (256 * c + d) / 2 ^ 8 = c by omega, show (256 * a + b) % 2 ^ 8 = b by omega, show (256 * c + d) % 2 ^ 8 = d by omega]
theorem one8 : ∀ b : Nat, b < 256 → ((b &&& (b - 1) = 0) ↔ pop8 b ≤ 1) ∧ (pop8 b = 0 ↔ b = 0) := by decide +kernel
theorem one_t : ∀ a : Nat, a < 256 → ∀ b : Nat, b < 256 → decide ((256 * a + b) &&& (256 * a + b - 1) = 0) = decide (pop8 b + pop8 a ≤ 1) := fun a ha b hb => by
  apply decide_eq_decide.mpr
  obtain ⟨a1, a2⟩ := one8 a ha
  obtain ⟨b1, b2⟩ := one8 b hb
  by_cases c : b = 0
  · have pb : pop8 b = 0 := b2.mpr c
    by_cases c2 : a = 0
    · have pa : pop8 a = 0 := a2.mpr c2
      rw [pa, pb, c, c2]
      exact ⟨fun _ => by decide, fun _ => by decide⟩
    · rw [show 256 * a + b - 1 = 256 * (a - 1) + 255 by omega, and_hl a b (a - 1) 255 hb (by omega), pb, Nat.zero_add, ← a1, c]
      exact ⟨fun h => h.1, fun h => ⟨h, by decide⟩⟩
  · rw [show 256 * a + b - 1 = 256 * a + (b - 1) by omega, and_hl a b a (b - 1) hb (by omega), Nat.and_self, b1, ← a2]
    have c3 : ¬ pop8 b = 0 := fun e => c (b2.mp e)
    clear b1 b2 a1 a2
    omega
theorem one_i {X : Nat} (hX : X < 65536) : (iand (X : Int) (wI ((X : Int) - 1)) = 0) ↔ pop16c X ≤ 1 := by
  have e := one_t (X / 256) (by omega) (X % 256) (by omega)
  rw [show 256 * (X / 256) + X % 256 = X by omega] at e
  have e2 : (X &&& (X - 1) = 0) ↔ pop8 (X % 256) + pop8 (X / 256) ≤ 1 := decide_eq_decide.mp e
  rw [← pop16_c]
  show _ ↔ pop8 (X % 256) + pop8 (X / 256) ≤ 1
  rw [← e2]
  by_cases c : X = 0
  · subst c
    exact ⟨fun _ => rfl, fun _ => by decide +kernel⟩
  · rw [wI_id (by omega) (by omega), show (X : Int) - 1 = ((X - 1 : Nat) : Int) by omega]
    exact and_c0 _ _ (by omega) (by omega)
section
variable {S : SH} {P : Nat → List Row} {M : Mem}
theorem RWd.go {K : Int} {vw n : Nat} {F : Int → Int} {M' : Mem} (h : RWd S P K vw F n M) (g : ∀ c j : Int, (c = 126 ∧ ¬ (j = 46 ∨ j = 57)) ∨ (134 ≤ c ∧ c ≤ 136) ∨ c = 138 ∨ (141 ≤ c ∧ c ≤ 145) ∨ c = 152 ∨ c = 153 → mG M' c j = mG M c j) : RWd S P K vw F n M' := by
  obtain ⟨⟨ka, kb⟩, ⟨kc, kd, ke, kf⟩, kg⟩ := h
  exact ⟨⟨ka.kp (fun j hj => g 126 j (by omega)), kb.kp (fun c j hc => g c j (by omega))⟩, ⟨(g 138 0 (by omega)).trans kc, (g 126 48 (by omega)).trans kd, (g 126 49 (by omega)).trans ke, (g 126 50 (by omega)).trans kf⟩, fun s hs => ⟨⟨(g 141 _ (by omega)).trans (kg s hs).1.1, fun i r hr => ((kg s hs).1.2 i r hr).kp (fun c c0 c1 => g c _ (by omega))⟩, (kg s hs).2⟩⟩
/-- what is solved, in the row at a -/
def SVD (Ys : Nat → Prop) (a : Int) (d L : Nat) (m : Mem) : Prop := ∀ X : Nat, X < L → (mG m a (X : Int) = 1 ∧ SL Ys d X) ∨ (mG m a (X : Int) = 0 ∧ ¬ SL Ys d X)
theorem v_asks {n N X d : Nat} {W : Nat → Nat} {m : Mem} (ok : S.ok) (hn : S.nf = (n : Int)) (n12 : n ≤ 12) (h16 : N ≤ 16) (hX : X < 2 ^ N) (k9 : K9 m) (sh : RSH S m) (hy : ∀ b : Nat, b < n → mG m 168 (b : Int) = ((Ybt W N b : Nat) : Int)) (hs : SVD (RYs W n N) 166 d (2 ^ N) m) : pw (mX9_asks 126 (X : Int) m) (fun q => q.2 = m ∧ (((∃ y, RYs W n N y ∧ SL (RYs W n N) d (X &&& y) ∧ SL (RYs W n N) d (X &&& (65535 ^^^ y))) ∧ q.1 = 1) ∨ ((¬ ∃ y, RYs W n N y ∧ SL (RYs W n N) d (X &&& y) ∧ SL (RYs W n N) d (X &&& (65535 ^^^ y))) ∧ q.1 = 0))) := by
  have p16 : 2 ^ N ≤ 2 ^ 16 := Nat.pow_le_pow_right (n := 2) (by decide) h16
  obtain ⟨Q, hQ⟩ : ∃ Q : Int × Mem → Prop, Q = fun q => q.2 = m ∧ (((∃ y, RYs W n N y ∧ SL (RYs W n N) d (X &&& y) ∧ SL (RYs W n N) d (X &&& (65535 ^^^ y))) ∧ q.1 = 1) ∨ ((¬ ∃ y, RYs W n N y ∧ SL (RYs W n N) d (X &&& y) ∧ SL (RYs W n N) d (X &&& (65535 ^^^ y))) ∧ q.1 = 0)) := ⟨_, rfl⟩
  rw [← hQ]
  have loop : ∀ (fu b : Nat), b ≤ n → (∀ x, x < b → ¬ (SL (RYs W n N) d (X &&& Ybt W N x) ∧ SL (RYs W n N) d (X &&& (65535 ^^^ Ybt W N x)))) → pw (mX9_asks_2 fu 126 (X : Int) (b : Int) m) Q := by
    intro fu
    induction fu with
    | zero => intro b _ _; exact p_none
    | succ fu ih =>
      intro b hb hno
      show pw (bX9_asks_2 (mX9_asks_2 fu) 126 (X : Int) (b : Int) m) Q
      unfold bX9_asks_2
      refine p_gK (p_call (v_manyFacts ok k9 sh) (fun v m2 y => ?_))
      obtain ⟨y1, y2⟩ := y
      replace y1 : m2 = m := y1
      replace y2 : v = S.nf := y2
      subst y1
      rw [hn] at y2
      subst y2
      refine p_if (fun c => p_ret ?_) (fun c => ?_)
      · rw [hQ]
        refine ⟨rfl, Or.inr ⟨?_, rfl⟩⟩
        rintro ⟨y, ⟨x, x1, x2⟩, x3⟩
        rw [x2] at x3
        exact hno x (by omega) x3
      · have b1 : b < n := by omega
        have yb := hy b b1
        have yl : Ybt W N b < 65536 := Nat.lt_of_lt_of_le (bitsOf_lt _ _) p16
        have nxt : ¬ (SL (RYs W n N) d (X &&& Ybt W N b) ∧ SL (RYs W n N) d (X &&& (65535 ^^^ Ybt W N b))) → pw (mX9_asks_46 (mX9_asks_2 fu) 126 (X : Int) (b : Int) m2) Q := fun h => by
          unfold mX9_asks_46
          rw [wI_s (p := b) (by omega)]
          refine ih (b + 1) (by omega) (fun x hx => ?_)
          by_cases z : x = b
          · rw [z]; exact h
          · exact hno x (by omega)
        have xl : X &&& Ybt W N b < 2 ^ N := Nat.lt_of_le_of_lt Nat.and_le_left hX
        have xr : X &&& (65535 ^^^ Ybt W N b) < 2 ^ N := Nat.lt_of_le_of_lt Nat.and_le_left hX
        refine p_gFc (ji := 59) rfl k9.c59 (p_gFc (ji := 61) rfl k9.c61 (p_aGc yb ?_))
        rw [iand_c X _ (by omega) (by omega)]
        refine p_aG (fun v1 hv1 => p_if (fun z1 => nxt (fun w => ?_)) (fun z1 => ?_))
        · rcases hs _ xl with ⟨e, _⟩ | ⟨_, e⟩
          · have e9 : v1 = 1 := hv1.symm.trans e
            omega
          · exact e w.1
        · refine p_gFc (ji := 59) rfl k9.c59 (p_gFc (ji := 61) rfl k9.c61 (p_aGc yb ?_))
          rw [iand_clr16 (by omega) yl]
          refine p_aG (fun v2 hv2 => p_if (fun z2 => nxt (fun w => ?_)) (fun z2 => p_ret ?_))
          · rcases hs _ xr with ⟨e, _⟩ | ⟨_, e⟩
            · have e9 : v2 = 1 := hv2.symm.trans e
              omega
            · exact e w.2
          · rw [hQ]
            refine ⟨rfl, Or.inl ⟨⟨Ybt W N b, ⟨b, b1, rfl⟩, ?_, ?_⟩, rfl⟩⟩
            · rcases hs _ xl with ⟨_, e⟩ | ⟨e, _⟩
              · exact e
              · have e9 : v1 = 0 := hv1.symm.trans e
                omega
            · rcases hs _ xr with ⟨_, e⟩ | ⟨e, _⟩
              · exact e
              · have e9 : v2 = 0 := hv2.symm.trans e
                omega
  exact loop FU 0 (Nat.zero_le _) (fun x hx => absurd hx (by omega))
theorem v_findYes {n N : Nat} {W : Nat → Nat} {m : Mem} (ok : S.ok) (hn : S.nf = (n : Int)) (n12 : n ≤ 12) (h16 : N ≤ 16) (k9 : K9 m) (sh : RSH S m) (hw : ∀ k : Nat, k < N → W k < 4096 ∧ mG m 165 (k : Int) = ((W k : Nat) : Int)) : pw (mX9_findYes 126 (N : Int) m) (fun q => (∀ c j : Int, ¬ c = 168 → mG q.2 c j = mG m c j) ∧ ∀ b : Nat, b < n → mG q.2 168 (b : Int) = ((Ybt W N b : Nat) : Int)) := by
  obtain ⟨Q, hQ⟩ : ∃ Q : Int × Mem → Prop, Q = fun q => (∀ c j : Int, ¬ c = 168 → mG q.2 c j = mG m c j) ∧ ∀ b : Nat, b < n → mG q.2 168 (b : Int) = ((Ybt W N b : Nat) : Int) := ⟨_, rfl⟩
  rw [← hQ]
  have ylt : ∀ b k, k ≤ N → Ybt W k b < 65536 := fun b k hk => Nat.lt_of_lt_of_le (bitsOf_lt _ _) (Nat.pow_le_pow_right (n := 2) (by decide) (show k ≤ 16 by omega))
  have l2 : ∀ (fu b : Nat) (m1 : Mem), b ≤ n → (∀ c j : Int, ¬ c = 168 → mG m1 c j = mG m c j) → (∀ x : Nat, x < b → mG m1 168 (x : Int) = ((Ybt W N x : Nat) : Int)) → pw (mX9_findYes_2 fu 126 (N : Int) (b : Int) m1) Q := by
    intro fu
    induction fu with
    | zero => intro b m1 _ _ _; exact p_none
    | succ fu ih =>
      intro b m1 hb g hx
      show pw (bX9_findYes_2 (mX9_findYes_2 fu) 126 (N : Int) (b : Int) m1) Q
      have k1 : K9 m1 := k9.kp (fun j _ => g 126 j (by decide))
      unfold bX9_findYes_2
      refine p_gK (p_call (v_manyFacts ok k1 (sh.kp (fun c j hc => g c j (by omega)))) (fun v m2 y => ?_))
      obtain ⟨y1, y2⟩ := y
      replace y1 : m2 = m1 := y1
      replace y2 : v = S.nf := y2
      subst y1
      rw [hn] at y2
      subst y2
      refine p_if (fun c => p_ret ?_) (fun c => ?_)
      · rw [hQ]
        exact ⟨g, fun x hx2 => hx x (by omega)⟩
      · have b1 : b < n := by omega
        refine p_gFc (ji := 61) rfl k1.c61 (p_aS (fun m3 h3 => ?_))
        have l19 : ∀ (fu2 k : Nat) (m4 : Mem), k ≤ N → (∀ c j : Int, ¬ (c = 168 ∧ j = (b : Int)) → mG m4 c j = mG m2 c j) → mG m4 168 (b : Int) = ((Ybt W k b : Nat) : Int) → pw (mX9_findYes_19 (mX9_findYes_2 fu) fu2 126 (N : Int) (b : Int) (k : Int) m4) Q := by
          intro fu2
          induction fu2 with
          | zero => intro k m4 _ _ _; exact p_none
          | succ fu2 ih2 =>
            intro k m4 hk g4 e4
            show pw (bX9_findYes_19 (mX9_findYes_2 fu) (mX9_findYes_19 (mX9_findYes_2 fu) fu2) 126 (N : Int) (b : Int) (k : Int) m4) Q
            have g4' : ∀ c j : Int, ¬ c = 168 → mG m4 c j = mG m c j := fun c j z => (g4 c j (fun w => z w.1)).trans (g c j z)
            have k4 : K9 m4 := k9.kp (fun j _ => g4' 126 j (by decide))
            unfold bX9_findYes_19
            refine p_if (fun c => ?_) (fun c => ?_)
            · have ek : k = N := by omega
              rw [wI_s (p := b) (by omega)]
              refine ih (b + 1) m4 (by omega) g4' (fun x hx2 => ?_)
              by_cases z : x = b
              · rw [z, e4, ek]
              · rw [g4 168 _ (fun w => z (by have := w.2; omega))]
                exact hx x (by omega)
            · have k1' : k < N := by omega
              obtain ⟨wl, we⟩ := hw k k1'
              have we4 : mG m4 165 (k : Int) = ((W k : Nat) : Int) := (g4' 165 _ (by decide)).trans we
              have yl := ylt b k hk
              have pk : 2 ^ k ≤ 2 ^ 15 := Nat.pow_le_pow_right (n := 2) (by decide) (by omega)
              have up : Ybt W (k + 1) b = Ybt W k b ||| (if (W k).testBit b = true then 2 ^ k else 0) := bits_up _ _
              have go : ∀ v : Nat, v < 65536 → Ybt W (k + 1) b = Ybt W k b ||| v → pw (mX9_findYes_51 (mX9_findYes_2 fu) (mX9_findYes_19 (mX9_findYes_2 fu) fu2) 126 (N : Int) (b : Int) (k : Int) 168 (b : Int) ((Ybt W k b : Nat) : Int) (v : Int) m4) Q := fun v hv hu => by
                unfold mX9_findYes_51
                refine p_aS (fun m5 h5 => ?_)
                rw [ior_nn (by omega) (by omega), ← hu] at h5
                rw [wI_s (p := k) (by omega)]
                exact ih2 (k + 1) m5 (by omega) (fun c j z => (st_ne h5 z).trans (g4 c j z)) (st_eq h5)
              refine p_gFc (ji := 61) rfl k4.c61 (p_aGc e4 (p_gFc (ji := 58) rfl k4.c58 (p_aGc we4 (p_if (fun z => ?_) (fun z => ?_)))))
              · refine go 0 (by omega) ?_
                rw [up, (ibit (by omega) (by omega)).mp z, if_neg (by decide)]
              · have tb : (W k).testBit b = true := by
                  cases e : (W k).testBit b with
                  | true => rfl
                  | false => exact absurd ((ibit (by omega) (by omega)).mpr e) z
                rw [ishl1 k (by omega), show (2 : Int) ^ k = ((2 ^ k : Nat) : Int) by simp]
                refine go (2 ^ k) (by omega) ?_
                rw [up, tb, if_pos rfl]
        exact l19 FU 0 m3 (Nat.zero_le _) (fun c j z => st_ne h3 z) (st_eq h3)
  exact l2 FU 0 m (Nat.zero_le _) (fun _ _ _ => rfl) (fun x hx => absurd hx (by omega))
theorem v_rounds {n N : Nat} {W : Nat → Nat} {m : Mem} (ok : S.ok) (hn : S.nf = (n : Int)) (n12 : n ≤ 12) (h16 : N ≤ 16) (k9 : K9 m) (sh : RSH S m) (hy : ∀ b : Nat, b < n → mG m 168 (b : Int) = ((Ybt W N b : Nat) : Int)) : pw (mX9_questions_77 FU 126 (N : Int) 0 m) (fun q => QST (RYs W n N) (2 ^ N - 1) q.1) := by
  have p16 : 2 ^ N ≤ 2 ^ 16 := Nat.pow_le_pow_right (n := 2) (by decide) h16
  have p1 : 1 ≤ 2 ^ N := Nat.one_le_two_pow
  obtain ⟨Q, hQ⟩ : ∃ Q : Int × Mem → Prop, Q = fun q => QST (RYs W n N) (2 ^ N - 1) q.1 := ⟨_, rfl⟩
  rw [← hQ]
  have sN : ishl 1 (N : Int) = ((2 ^ N : Nat) : Int) := by rw [ishl1 N (by omega)]; simp
  have kk : ∀ m', (∀ c j : Int, ¬ c = 166 → ¬ c = 167 → mG m' c j = mG m c j) → K9 m' ∧ RSH S m' ∧ ∀ b : Nat, b < n → mG m' 168 (b : Int) = ((Ybt W N b : Nat) : Int) := fun m' g => ⟨k9.kp (fun j _ => g 126 j (by decide) (by decide)), sh.kp (fun c j hc => g c j (by omega) (by omega)), fun b hb => (g 168 _ (by decide) (by decide)).trans (hy b hb)⟩
  have l111 : ∀ (fu d : Nat) (m1 : Mem), d ≤ 5 → (∀ c j : Int, ¬ c = 166 → ¬ c = 167 → mG m1 c j = mG m c j) → SVD (RYs W n N) 166 d (2 ^ N) m1 → (∀ e, e < d → ¬ SL (RYs W n N) e (2 ^ N - 1)) → pw (mX9_questions_111 fu 126 (N : Int) (d : Int) m1) Q := by
    intro fu
    induction fu with
    | zero => intro d m1 _ _ _ _; exact p_none
    | succ fu ih =>
      intro d m1 hd g sv hno
      show pw (bX9_questions_111 (mX9_questions_111 fu) 126 (N : Int) (d : Int) m1) Q
      obtain ⟨k1, s1, y1⟩ := kk m1 g
      unfold bX9_questions_111
      refine p_if (fun c => p_ret ?_) (fun c => ?_)
      · rw [hQ]
        exact Or.inr ⟨rfl, fun e he => hno e (by omega)⟩
      · rw [sN, wI_id (x := ((2 ^ N : Nat) : Int) - 1) (by omega) (by omega), show ((2 ^ N : Nat) : Int) - 1 = ((2 ^ N - 1 : Nat) : Int) by omega]
        have full := sv (2 ^ N - 1) (by omega)
        refine p_gFc (ji := 59) rfl k1.c59 (p_aG (fun v hv => p_if (fun z => ?_) (fun z => p_ret ?_)))
        · have nsl : ¬ SL (RYs W n N) d (2 ^ N - 1) := by
            rcases full with ⟨e, _⟩ | ⟨_, e⟩
            · omega
            · exact e
          have l176 : ∀ (fu2 X : Nat) (m2 : Mem), X ≤ 2 ^ N → (∀ c j : Int, ¬ c = 166 → ¬ c = 167 → mG m2 c j = mG m c j) → SVD (RYs W n N) 167 (d + 1) (2 ^ N) m2 → SVD (RYs W n N) 166 (d + 1) X m2 → pw (mX9_questions_176 (mX9_questions_111 fu) fu2 126 (N : Int) (d : Int) (X : Int) m2) Q := by
            intro fu2
            induction fu2 with
            | zero => intro X m2 _ _ _ _; exact p_none
            | succ fu2 ih2 =>
              intro X m2 hX g2 s7 s6
              show pw (bX9_questions_176 (mX9_questions_111 fu) (mX9_questions_176 (mX9_questions_111 fu) fu2) 126 (N : Int) (d : Int) (X : Int) m2) Q
              obtain ⟨k2, _, _⟩ := kk m2 g2
              unfold bX9_questions_176
              rw [sN]
              refine p_if (fun c2 => ?_) (fun c2 => ?_)
              · have eX : X = 2 ^ N := by omega
                rw [wI_s (p := d) (by omega)]
                rw [eX] at s6
                refine ih (d + 1) m2 (by omega) g2 s6 (fun e he => ?_)
                by_cases ed : e = d
                · rw [ed]; exact nsl
                · exact hno e (by omega)
              · have xl : X < 2 ^ N := by omega
                refine p_gFc (ji := 59) rfl k2.c59 (p_gFc (ji := 60) rfl k2.c60 (p_aG (fun v hv => p_aSZ (fun m3 h3 => ?_))))
                rw [wI_s (p := X) (by omega)]
                refine ih2 (X + 1) m3 (by omega) (fun c j x y => (st_ne h3 (fun w => x w.1)).trans (g2 c j x y)) (fun Y hY => ?_) (fun Y hY => ?_)
                · rw [st_ne h3 (fun w => absurd w.1 (by decide))]
                  exact s7 Y hY
                · by_cases z2 : Y = X
                  · rw [z2, st_eq h3, ← hv]
                    exact s7 X xl
                  · rw [st_ne h3 (fun w => z2 (by have := w.2; omega))]
                    exact s6 Y (by omega)
          have l133 : ∀ (fu2 X : Nat) (m2 : Mem), X ≤ 2 ^ N → (∀ c j : Int, ¬ c = 167 → mG m2 c j = mG m1 c j) → SVD (RYs W n N) 167 (d + 1) X m2 → pw (mX9_questions_133 (mX9_questions_111 fu) fu2 126 (N : Int) (d : Int) (X : Int) m2) Q := by
            intro fu2
            induction fu2 with
            | zero => intro X m2 _ _ _; exact p_none
            | succ fu2 ih2 =>
              intro X m2 hX g2 s7
              show pw (bX9_questions_133 (mX9_questions_111 fu) (mX9_questions_133 (mX9_questions_111 fu) fu2) 126 (N : Int) (d : Int) (X : Int) m2) Q
              have g2m : ∀ c j : Int, ¬ c = 166 → ¬ c = 167 → mG m2 c j = mG m c j := fun c j x y => (g2 c j y).trans (g c j x y)
              obtain ⟨k2, sh2, y2⟩ := kk m2 g2m
              unfold bX9_questions_133
              rw [sN]
              refine p_if (fun c2 => ?_) (fun c2 => ?_)
              · have eX : X = 2 ^ N := by omega
                rw [eX] at s7
                exact l176 FU 0 m2 (Nat.zero_le _) g2m s7 (fun Y hY => absurd hY (by omega))
              · have xl : X < 2 ^ N := by omega
                have s6 : SVD (RYs W n N) 166 d (2 ^ N) m2 := fun Y hY => by
                  rw [g2 166 _ (by decide)]
                  exact sv Y hY
                have go : ∀ (v : Int) (m3 : Mem), m3 = m2 → (v = 1 ∧ SL (RYs W n N) (d + 1) X) ∨ (v = 0 ∧ ¬ SL (RYs W n N) (d + 1) X) → pw (mX9_questions_167 (mX9_questions_111 fu) (mX9_questions_133 (mX9_questions_111 fu) fu2) 126 (N : Int) (d : Int) (X : Int) 167 (X : Int) v m3) Q := fun v m3 e3 h => by
                  subst e3
                  unfold mX9_questions_167
                  refine p_aSZ (fun m4 h4 => ?_)
                  rw [wI_s (p := X) (by omega)]
                  refine ih2 (X + 1) m4 (by omega) (fun c j x => (st_ne h4 (fun w => x w.1)).trans (g2 c j x)) (fun Y hY => ?_)
                  by_cases z2 : Y = X
                  · rw [z2, st_eq h4]; exact h
                  · rw [st_ne h4 (fun w => z2 (by have := w.2; omega))]
                    exact s7 Y (by omega)
                refine p_gFc (ji := 60) rfl k2.c60 (p_gFc (ji := 59) rfl k2.c59 (p_aG (fun v hv => p_if (fun z0 => ?_) (fun z0 => ?_))))
                · have ns : ¬ SL (RYs W n N) d X := by
                    rcases s6 X xl with ⟨e, _⟩ | ⟨_, e⟩
                    · omega
                    · exact e
                  refine p_gK (p_call (v_asks ok hn n12 h16 xl k2 sh2 y2 s6) (fun v m3 y => ?_))
                  obtain ⟨z1, z2⟩ := y
                  replace z1 : m3 = m2 := z1
                  rcases z2 with ⟨h, e⟩ | ⟨h, e⟩
                  · replace e : v = 1 := e
                    refine p_it0 (show ¬ v = 0 by omega) ?_
                    unfold mX9_questions_162
                    exact go 1 m3 z1 (Or.inl ⟨rfl, Or.inr h⟩)
                  · exact p_it1 e (go 0 m3 z1 (Or.inr ⟨rfl, fun w => by
                      rcases w with w | w
                      · exact ns w
                      · exact h w⟩))
                · have ys : SL (RYs W n N) d X := by
                    rcases s6 X xl with ⟨_, e⟩ | ⟨e, _⟩
                    · exact e
                    · omega
                  unfold mX9_questions_162
                  exact go 1 m2 rfl (Or.inl ⟨rfl, ys.up⟩)
          exact l133 FU 0 m1 (Nat.zero_le _) (fun _ _ _ => rfl) (fun Y hY => absurd hY (by omega))
        · rw [hQ]
          refine Or.inl ⟨d, by omega, rfl, ?_, hno⟩
          rcases full with ⟨_, e⟩ | ⟨e, _⟩
          · exact e
          · omega
  have l77 : ∀ (fu X : Nat) (m1 : Mem), X ≤ 2 ^ N → (∀ c j : Int, ¬ c = 166 → mG m1 c j = mG m c j) → SVD (RYs W n N) 166 0 X m1 → pw (mX9_questions_77 fu 126 (N : Int) (X : Int) m1) Q := by
    intro fu
    induction fu with
    | zero => intro X m1 _ _ _; exact p_none
    | succ fu ih =>
      intro X m1 hX g sv
      show pw (bX9_questions_77 (mX9_questions_77 fu) 126 (N : Int) (X : Int) m1) Q
      obtain ⟨k1, _, _⟩ := kk m1 (fun c j x _ => g c j x)
      unfold bX9_questions_77
      rw [sN]
      refine p_if (fun c => ?_) (fun c => ?_)
      · have eX : X = 2 ^ N := by omega
        rw [eX] at sv
        exact l111 FU 0 m1 (by omega) (fun c j x _ => g c j x) sv (fun e he => absurd he (by omega))
      · have xl : X < 2 ^ N := by omega
        have o := one_i (X := X) (by omega)
        have go : ∀ v : Int, (v = 1 ∧ SL (RYs W n N) 0 X) ∨ (v = 0 ∧ ¬ SL (RYs W n N) 0 X) → pw (mX9_questions_102 (mX9_questions_77 fu) 126 (N : Int) (X : Int) 166 (X : Int) v m1) Q := fun v h => by
          unfold mX9_questions_102
          refine p_aSZ (fun m2 h2 => ?_)
          rw [wI_s (p := X) (by omega)]
          refine ih (X + 1) m2 (by omega) (fun c j x => (st_ne h2 (fun w => x w.1)).trans (g c j x)) (fun Y hY => ?_)
          by_cases z : Y = X
          · rw [z, st_eq h2]; exact h
          · rw [st_ne h2 (fun w => z (by have := w.2; omega))]
            exact sv Y (by omega)
        exact p_gFc (ji := 59) rfl k1.c59 (p_if (fun z => go 1 (Or.inl ⟨rfl, o.mp z⟩)) (fun z => go 0 (Or.inr ⟨rfl, fun w => z (o.mpr w)⟩)))
  exact l77 FU 0 m (Nat.zero_le _) (fun _ _ _ => rfl) (fun Y hY => absurd hY (by omega))
theorem v_questions {n K : Nat} (ok : S.ok) (hn : S.nf = (n : Int)) (rf : RFB S P M) (hK : mG M 138 0 = (K : Int)) : pw (mX9_questions 126 M) (fun q => (¬ (n ≤ 12 ∧ 0 < ctn (WDr S P K (tvb M) (knR S M) n) (2 ^ n) ∧ ctn (WDr S P K (tvb M) (knR S M) n) (2 ^ n) ≤ 16) ∧ q.1 = -1) ∨ ((n ≤ 12 ∧ 0 < ctn (WDr S P K (tvb M) (knR S M) n) (2 ^ n) ∧ ctn (WDr S P K (tvb M) (knR S M) n) (2 ^ n) ≤ 16) ∧ ∃ W, WKS (WDr S P K (tvb M) (knR S M) n) (2 ^ n) (ctn (WDr S P K (tvb M) (knR S M) n) (2 ^ n)) W ∧ QST (RYs W n (ctn (WDr S P K (tvb M) (knR S M) n) (2 ^ n))) (2 ^ (ctn (WDr S P K (tvb M) (knR S M) n) (2 ^ n)) - 1) q.1)) := by
  have h8 := rf.2.2.2.1
  have K8 : K ≤ 8 := by omega
  have vl := tvb_lt hK
  have p8 : 2 ^ K ≤ 2 ^ 8 := Nat.pow_le_pow_right (n := 2) (by decide) K8
  have hF : ∀ p, knR S M p = -1 ∨ knR S M p = 0 ∨ knR S M p = 1 := fun p => knf_rg _ _ _ _ _ _
  obtain ⟨WD, hWD⟩ : ∃ WD, WD = WDr S P K (tvb M) (knR S M) n := ⟨_, rfl⟩
  obtain ⟨N, hN⟩ : ∃ N, N = ctn WD (2 ^ n) := ⟨_, rfl⟩
  rw [← hWD, ← hN]
  obtain ⟨Q, hQ⟩ : ∃ Q : Int × Mem → Prop, Q = fun q => (¬ (n ≤ 12 ∧ 0 < N ∧ N ≤ 16) ∧ q.1 = -1) ∨ ((n ≤ 12 ∧ 0 < N ∧ N ≤ 16) ∧ ∃ W, WKS WD (2 ^ n) N W ∧ QST (RYs W n N) (2 ^ N - 1) q.1) := ⟨_, rfl⟩
  rw [← hQ]
  unfold mX9_questions
  refine p_pF (ji := 0) rfl (fun m1 h1 => ?_)
  have g1 : ∀ c j : Int, ¬ c = 126 → mG m1 c j = mG M c j := fun c j x => st_ne h1 (fun w => x w.1)
  have k1 : K9 m1 := rf.1.kp (fun j hj => st_ne h1 (fun w => by omega))
  refine p_gK (p_call (v_can ok rf k1 (fun c j x _ _ => g1 c j x)) (fun v m2 y => ?_))
  obtain ⟨rb, y⟩ := y
  rcases y with ⟨z1, z2⟩ | ⟨z1, z2⟩
  · refine p_it1 z2 (p_ret ?_)
    rw [hQ]
    exact Or.inl ⟨fun w => by omega, rfl⟩
  replace z2 : v = 1 := z2
  have n12 : n ≤ 12 := by omega
  have p12 : 2 ^ n ≤ 2 ^ 12 := Nat.pow_le_pow_right (n := 2) (by decide) n12
  refine p_it0 (show ¬ v = 0 by omega) (p_gK (p_call (v_prep ok hn n12 h8 rb) (fun v m3 y => ?_)))
  obtain ⟨rw', _⟩ := y
  rw [hK] at rw'
  replace rw' : RWd S P (K : Int) (tvb M) (knR S M) n m3 := rw'
  have loop : ∀ (fu w : Nat) (m : Mem), w ≤ 2 ^ n → ctn WD w ≤ 16 → RWd S P (K : Int) (tvb M) (knR S M) n m → (∀ u, u < w → WD u = true → mG m 165 ((ctn WD u : Nat) : Int) = (u : Int)) → pw (mX9_questions_22 fu 126 ((ctn WD w : Nat) : Int) (w : Int) m) Q := by
    intro fu
    induction fu with
    | zero => intro w m _ _ _ _; exact p_none
    | succ fu ih =>
      intro w m hw hc rw' hx
      show pw (bX9_questions_22 (mX9_questions_22 fu) 126 _ (w : Int) m) Q
      unfold bX9_questions_22
      refine p_gK (p_call (v_manyFacts ok rw'.1.1 rw'.1.2) (fun v m4 y => ?_))
      obtain ⟨y6, y7⟩ := y
      replace y6 : m4 = m := y6
      replace y7 : v = S.nf := y7
      subst y6
      rw [hn] at y7
      subst y7
      rw [ishl1 n (by omega), show (2 : Int) ^ n = ((2 ^ n : Nat) : Int) by simp]
      refine p_if (fun c => ?_) (fun c => ?_)
      · have ew : w = 2 ^ n := by omega
        rw [ew, ← hN]
        rw [ew] at hx hc
        rw [← hN] at hc
        refine p_if (fun c0 => p_ret ?_) (fun c0 => ?_)
        · rw [hQ]
          exact Or.inl ⟨fun w => by omega, rfl⟩
        · obtain ⟨W, hW⟩ := wks_ex (f := WD) (2 ^ n)
          rw [← hN] at hW
          have hw2 : ∀ k : Nat, k < N → W k < 4096 ∧ mG m4 165 (k : Int) = ((W k : Nat) : Int) := fun k hk => by
            obtain ⟨a, b, d⟩ := hW k hk
            have := hx (W k) a b
            rw [d] at this
            exact ⟨by omega, this⟩
          refine p_gK (p_call (v_findYes ok hn n12 hc rw'.1.1 rw'.1.2 hw2) (fun v m5 y => ?_))
          obtain ⟨y1, y2⟩ := y
          replace y1 : ∀ c j : Int, ¬ c = 168 → mG m5 c j = mG m4 c j := y1
          refine p_mono (v_rounds (W := W) ok hn n12 hc (rw'.1.1.kp (fun j _ => y1 126 j (by decide))) (rw'.1.2.kp (fun c j hc => y1 c j (by omega))) y2) (fun q z => ?_)
          rw [hQ]
          exact Or.inr ⟨⟨n12, by omega, hc⟩, W, hW, z⟩
      · have w1 : w < 2 ^ n := by omega
        refine p_gK (p_call (v_isWorld (w := w) ok hn n12 w1 hF K8 (by omega) rw') (fun v m5 y => ?_))
        obtain ⟨y8, y9, _⟩ := y
        replace y8 : FI m4 m5 := y8
        replace y9 : v = b2i (WDr S P K (tvb M) (knR S M) n w) := y9
        rw [← hWD] at y9
        have r5 := rw'.fi y8
        have e165 : ∀ j : Int, mG m5 165 j = mG m4 165 j := fun j => y8 165 j (fun w => absurd w.1 (by decide)) (by decide) (by decide) (by decide)
        refine p_if (fun c2 => ?_) (fun c2 => ?_)
        · have wf : WD w = false := b2i_0.mp (y9.symm.trans c2)
          unfold mX9_questions_58
          rw [wI_s (p := w) (by omega)]
          have i := ih (w + 1) m5 (by omega)
          rw [ctn_s, wf, show ctn WD w + false.toNat = ctn WD w from rfl] at i
          refine i hc r5 (fun u hu hwu => ?_)
          rw [e165]
          by_cases e : u = w
          · rw [e, wf] at hwu; cases hwu
          · exact hx u (by omega) hwu
        · have wt : WD w = true := by
            cases e : WD w with
            | true => rfl
            | false => rw [e] at y9; exact absurd y9 c2
          refine p_if (fun c3 => p_ret ?_) (fun c3 => ?_)
          · rw [hQ]
            refine Or.inl ⟨fun z => ?_, rfl⟩
            have := ctn_lt w1 wt
            omega
          · refine p_gFc (ji := 58) rfl r5.1.1.c58 (p_aS (fun m6 h6 => ?_))
            unfold mX9_questions_58
            rw [wI_s (p := w) (by omega), wI_s (p := ctn WD w) (by omega)]
            have i := ih (w + 1) m6 (by omega)
            rw [ctn_s, wt, show ctn WD w + true.toNat = ctn WD w + 1 from rfl] at i
            refine i (by omega) (r5.go (fun c j hc => st_ne h6 (fun z => by omega))) (fun u hu hwu => ?_)
            by_cases e : u = w
            · rw [e]; exact st_eq h6
            · have := ctn_lt (show u < w by omega) hwu
              rw [st_ne h6 (fun z => by omega), e165]
              exact hx u (by omega) hwu
  exact loop FU 0 m3 (Nat.zero_le _) (by show 0 ≤ 16; omega) rw' (fun u hu => absurd hu (by omega))
end
theorem eq_questions {M : Mem} (h : J3 M) : pw (mX8_questions 1 M) (fun q1 => pw (mX9_questions 126 q1.2) (fun q2 => EQ q1 q2)) := by
  have iM := h.1.1.1
  obtain ⟨P, n, ok, hn, k2, sh, tp, rf, ve, vlt, h1, hl⟩ := look h
  refine p_mono (q_questions iM ok hn k2 sh h1.1 hl) (fun q1 y => ?_)
  obtain ⟨g, y⟩ := y
  obtain ⟨rf2, e1, e2, e3⟩ := rf.f9 (M' := q1.2) (fun c j c0 _ => g c j (by omega))
  obtain ⟨K, hK⟩ := Int.eq_ofNat_of_zero_le rf.2.2.2.1.1
  have h8 := rf.2.2.2.1
  rw [hK, Int.toNat_natCast] at vlt
  refine p_mono (v_questions ok hn rf2 (e3.trans hK)) (fun q2 z => ?_)
  rw [e1, e2, ve] at z
  have fe : ∀ w, w < 2 ^ n → WDw (shp M) P (vwb M) (knR (shp M) M) w = WDr (shp M) P K (vwb M) (knR (shp M) M) n w := fun w hw => wd_eq hn vlt (by omega) hw
  have ce := ctn_congr _ fe
  rw [ce] at y
  show q1.1 = q2.1
  rcases y with ⟨u, v⟩ | ⟨u, v⟩
  · rcases z with ⟨w, x⟩ | ⟨w, x⟩
    · rw [v, x]
    · exact absurd w u
  · rcases z with ⟨w, x⟩ | ⟨w, W, x1, x2⟩
    · exact absurd u w
    · have hW : WKS (WDw (shp M) P (vwb M) (knR (shp M) M)) (2 ^ n) (ctn (WDr (shp M) P K (vwb M) (knR (shp M) M) n) (2 ^ n)) W := fun k hk => by
        obtain ⟨a, b, c⟩ := x1 k hk
        refine ⟨a, by rw [fe _ a]; exact b, ?_⟩
        rw [ctn_congr _ (fun x hx => fe x (by omega))]
        exact c
      have Xl : 2 ^ (ctn (WDr (shp M) P K (vwb M) (knR (shp M) M) n) (2 ^ n)) - 1 < 65536 := by
        have : 2 ^ (ctn (WDr (shp M) P K (vwb M) (knR (shp M) M) n) (2 ^ n)) ≤ 2 ^ 16 := Nat.pow_le_pow_right (n := 2) (by decide) u.2.2
        omega
      exact QST.eq (fun d => ys_eq u.1 Xl d) (v W hW) x2
theorem j3_questionsE {M : Mem} (h : J3 M) : wp (mX8_questions 1 M) (fun q1 => wp (mX9_questions 126 q1.2) (fun q2 => J3 q2.2 ∧ EQ q1 q2)) := J3.e (M := M) (j3_questions h) (eq_questions h)
