/-! ===== sets of worlds: one of them, the k-th ===== -/
section
variable {l n : Int} {f : Nat → Bool} {M : Mem}
theorem q_most (hn : 0 ≤ n ∧ n ≤ 12) (h : WS l n f M) : pw (mX7_most l M) (fun q => q.2 = M ∧ q.1 = ((2 ^ n.toNat : Nat) : Int)) := by
  unfold mX7_most
  refine p_gFc (ji := 2) rfl h.1.2.2 (p_ret ⟨rfl, ?_⟩)
  show ishl 1 n = _
  obtain ⟨k, rfl⟩ := Int.eq_ofNat_of_zero_le hn.1
  rw [ishl1 k (by omega), Int.toNat_natCast]; simp
theorem wd_at {w : Nat} (hn : 0 ≤ n ∧ n ≤ 12) (h : w < 2 ^ n.toNat) : w / 64 < uw n ∧ w < 4096 ∧ 64 * (w / 64) + w % 64 = w ∧ ishr (w : Int) 6 = ((w / 64 : Nat) : Int) := by
  have ub := uw_b hn
  have p12 : 2 ^ n.toNat ≤ 2 ^ 12 := Nat.pow_le_pow_right (n := 2) (by decide) (by omega)
  refine ⟨by omega, by omega, by omega, ?_⟩
  have e := ishr_e (x := (w : Int)) (k := 6) (by omega) (by omega) (by decide)
  have e2 : ishr (w : Int) 6 = (w : Int) / 2 ^ 6 := e
  rw [e2, show (2 : Int) ^ 6 = ((64 : Nat) : Int) from rfl]
  exact (Int.natCast_ediv _ _).symm
theorem q_has {w : Nat} (hn : 0 ≤ n ∧ n ≤ 12) (h : WS l n f M) : pw (mX7_has l (w : Int) M) (fun q => q.2 = M ∧ q.1 = b2i (decide (w < 2 ^ n.toNat) && f w)) := by
  unfold mX7_has
  refine p_it0 (by omega) (p_gK (p_call (q_most hn h) (fun v m y => ?_)))
  obtain ⟨y1, y2⟩ := y
  replace y1 : m = M := y1
  replace y2 : v = ((2 ^ n.toNat : Nat) : Int) := y2
  subst y1; subst y2
  refine p_if (fun c => p_ret ⟨rfl, ?_⟩) (fun c => ?_)
  · have c : ((2 ^ n.toNat : Nat) : Int) ≤ (w : Int) := c
    rw [decide_eq_false (by omega)]; rfl
  · have c : ¬ ((2 ^ n.toNat : Nat) : Int) ≤ (w : Int) := c
    have wl : w < 2 ^ n.toNat := by omega
    obtain ⟨a1, a2, a3, a4⟩ := wd_at hn wl
    rw [a4]
    obtain ⟨v1, v2⟩ := h.2 (w / 64) a1
    have v3 := v2 (w % 64) (Nat.mod_lt _ (by decide))
    rw [a3] at v3
    refine p_gFc (ji := 0) rfl h.1.1 (p_aG (fun x hx => ?_))
    rw [hx] at v3
    rw [lshr_mod x a2]
    rw [decide_eq_true wl, Bool.true_and]
    refine p_if (fun d => p_ret ⟨rfl, ?_⟩) (fun d => p_ret ⟨rfl, ?_⟩)
    · rw [← v3, (l_bitc (Nat.mod_lt _ (by decide))).mp d]; rfl
    · have : lb x (w % 64) = true := by
        cases e : lb x (w % 64) with
        | true => rfl
        | false => exact absurd ((l_bitc (Nat.mod_lt _ (by decide))).mpr e) d
      rw [← v3, this]; rfl
theorem q_add {w : Nat} (hn : 0 ≤ n ∧ n ≤ 12) (h : WS l n f M) (wl : w < 2 ^ n.toNat) : pw (mX7_add l (w : Int) M) (fun q => WS l n (fun x => f x || decide (x = w)) q.2 ∧ FX (l + 1) M q.2) := by
  unfold mX7_add
  obtain ⟨a1, a2, a3, a4⟩ := wd_at hn wl
  refine p_it0 (by omega) (p_gK (p_call (q_most hn h) (fun v m y => ?_)))
  obtain ⟨y1, y2⟩ := y
  replace y1 : m = M := y1
  replace y2 : v = ((2 ^ n.toNat : Nat) : Int) := y2
  subst y1; subst y2
  refine p_it0 (show ¬ ((2 ^ n.toNat : Nat) : Int) ≤ (w : Int) by omega) ?_
  rw [a4]
  obtain ⟨v1, v2⟩ := h.2 (w / 64) a1
  refine p_gFc (ji := 0) rfl h.1.1 (p_aG (fun x hx => p_aS (fun m2 h2 => p_ret ⟨⟨⟨(st_ne h2 (fun z => by omega)).trans h.1.1, (st_ne h2 (fun z => by omega)).trans h.1.2.1, (st_ne h2 (fun z => by omega)).trans h.1.2.2⟩, fun a ha => ?_⟩, fun c j z => st_ne h2 (fun y => z y.1)⟩)))
  rw [hx] at v1 v2
  by_cases e : a = w / 64
  · rw [e, st_eq h2]
    refine ⟨lor_L _ _, fun b hb => ?_⟩
    rw [lb_or, v2 b hb, lshl_mod 1 a2, lb_one (w % 64) (Nat.mod_lt _ (by decide)) b hb]
    show (f _ || _) = (f _ || _)
    congr 1
    by_cases c : b = w % 64
    · rw [decide_eq_true c, decide_eq_true (by omega)]
    · rw [decide_eq_false c, decide_eq_false (by omega)]
  · rw [st_ne h2 (fun y => e (by have := y.2; omega))]
    obtain ⟨u1, u2⟩ := h.2 a ha
    refine ⟨u1, fun b hb => ?_⟩
    rw [u2 b hb]
    show f _ = (f _ || _)
    rw [decide_eq_false (fun z => e (by omega)), Bool.or_false]
/-- the k-th of the first N that are so -/
def NTH (f : Nat → Bool) (N : Nat) (k r : Int) : Prop := (r = -1 ∧ ∀ w, w < N → f w = true → ¬ k = ((ctn f w : Nat) : Int)) ∨ (∃ w : Nat, w < N ∧ r = (w : Int) ∧ f w = true ∧ k = ((ctn f w : Nat) : Int))
theorem ctn_mono (f : Nat → Bool) {a : Nat} : ∀ d : Nat, ctn f a ≤ ctn f (a + d) := by
  intro d
  induction d with
  | zero => exact Nat.le_refl _
  | succ d ih =>
    show ctn f a ≤ ctn f (a + d) + (f (a + d)).toNat
    omega
theorem ctn_lt {f : Nat → Bool} {a b : Nat} (h : a < b) (hf : f a = true) : ctn f a < ctn f b := by
  have := ctn_mono f (a := a + 1) (b - (a + 1))
  rw [show a + 1 + (b - (a + 1)) = b by omega, ctn_s, hf] at this
  have : true.toNat = 1 := rfl
  omega
theorem NTH.uniq {f g : Nat → Bool} {N : Nat} {k r r' : Int} (h : ∀ w, w < N → f w = g w) (a : NTH f N k r) (b : NTH g N k r') : r = r' := by
  have ec : ∀ w, w ≤ N → ctn f w = ctn g w := fun w hw => ctn_congr _ (fun x hx => h x (by omega))
  rcases a with ⟨a1, a2⟩ | ⟨w, a1, a2, a3, a4⟩
  · rcases b with ⟨b1, b2⟩ | ⟨x, b1, b2, b3, b4⟩
    · rw [a1, b1]
    · exact absurd (by rw [ec x (by omega)]; exact b4) (a2 x b1 (by rw [h x b1]; exact b3))
  · rcases b with ⟨b1, b2⟩ | ⟨x, b1, b2, b3, b4⟩
    · exact absurd (by rw [← ec w (by omega)]; exact a4) (b2 w a1 (by rw [← h w a1]; exact a3))
    · have : w = x := by
        apply Classical.byContradiction
        intro hne
        rw [← ec x (by omega)] at b4
        by_cases c : w < x
        · have := ctn_lt c a3; omega
        · have := ctn_lt (f := f) (show x < w by omega) (by rw [h x b1]; exact b3); omega
      rw [a2, b2, this]
theorem q_nth {k : Int} (hk : (-2147483648) ≤ k ∧ k ≤ 2147483647) (hn : 0 ≤ n ∧ n ≤ 12) (h : WS l n f M) : pw (mX7_nth l k M) (fun q => q.2 = M ∧ NTH f (2 ^ n.toNat) k q.1) := by
  have p12 : 2 ^ n.toNat ≤ 2 ^ 12 := Nat.pow_le_pow_right (n := 2) (by decide) (by omega)
  obtain ⟨Q, hQ⟩ : ∃ Q : Int × Mem → Prop, Q = fun q => q.2 = M ∧ NTH f (2 ^ n.toNat) k q.1 := ⟨_, rfl⟩
  rw [← hQ]
  have loop : ∀ (fu w : Nat) (left : Int), w ≤ 2 ^ n.toNat → ((0 ≤ k ∧ left = k - ((ctn f w : Nat) : Int)) ∨ (k < 0 ∧ left < 0)) → (∀ u, u < w → f u = true → ¬ k = ((ctn f u : Nat) : Int)) → pw (mX7_nth_4 fu l left (w : Int) M) Q := by
    intro fu
    induction fu with
    | zero => intro w left _ _ _; exact p_none
    | succ fu ih =>
      intro w left hw hl hu
      show pw (bX7_nth_4 (mX7_nth_4 fu) l left (w : Int) M) _
      have cl := ctn_le f w
      unfold bX7_nth_4
      refine p_gK (p_call (q_most hn h) (fun v m y => ?_))
      obtain ⟨y1, y2⟩ := y
      replace y1 : m = M := y1
      replace y2 : v = ((2 ^ n.toNat : Nat) : Int) := y2
      subst y1; subst y2
      refine p_if (fun c => p_ret ?_) (fun c => ?_)
      · have c : ((2 ^ n.toNat : Nat) : Int) ≤ (w : Int) := c
        rw [hQ]
        exact ⟨rfl, Or.inl ⟨rfl, fun u h1 h2 => hu u (by omega) h2⟩⟩
      have c : ¬ ((2 ^ n.toNat : Nat) : Int) ≤ (w : Int) := c
      refine p_if (fun c2 => p_ret ?_) (fun c2 => ?_)
      · rw [hQ]
        refine ⟨rfl, Or.inl ⟨rfl, fun u h1 h2 e => ?_⟩⟩
        by_cases d : u < w
        · exact hu u d h2 e
        · have := ctn_mono f (a := w) (u - w)
          rw [show w + (u - w) = u by omega] at this
          omega
      have hk0 : 0 ≤ k ∧ left = k - ((ctn f w : Nat) : Int) := by
        rcases hl with hl | hl
        · exact hl
        · omega
      refine p_gK (p_call (q_has (w := w) hn h) (fun v m2 y => ?_))
      obtain ⟨y3, y4⟩ := y
      replace y3 : m2 = m := y3
      replace y4 : v = b2i (decide (w < 2 ^ n.toNat) && f w) := y4
      subst y3
      rw [decide_eq_true (show w < 2 ^ n.toNat by omega), Bool.true_and] at y4
      refine p_if (fun d => ?_) (fun d => p_if (fun d2 => p_ret ?_) (fun d2 => ?_))
      · have ff := b2i_0.mp (y4.symm.trans d)
        unfold mX7_nth_33
        rw [wI_s (p := w) (by omega)]
        refine ih (w + 1) left (by omega) (Or.inl ⟨hk0.1, ?_⟩) (fun u h1 h2 => ?_)
        · rw [ctn_s, ff]
          have : false.toNat = 0 := rfl
          omega
        · by_cases e : u = w
          · rw [e, ff] at h2; cases h2
          · exact hu u (by omega) h2
      all_goals
        have ft : f w = true := by
          cases e : f w with
          | true => rfl
          | false => rw [e] at y4; exact absurd y4 d
      · rw [hQ]
        exact ⟨rfl, Or.inr ⟨w, by omega, rfl, ft, by omega⟩⟩
      · unfold mX7_nth_33
        rw [wI_s (p := w) (by omega), wI_id (x := left + (-1)) (by omega) (by omega)]
        refine ih (w + 1) (left + (-1)) (by omega) (Or.inl ⟨hk0.1, ?_⟩) (fun u h1 h2 => ?_)
        · rw [ctn_s, ft]
          have : true.toNat = 1 := rfl
          omega
        · by_cases e : u = w
          · rw [e]; omega
          · exact hu u (by omega) h2
  unfold mX7_nth
  refine loop FU 0 k (Nat.zero_le _) ?_ (fun u hu => absurd hu (by omega))
  by_cases c : 0 ≤ k
  · refine Or.inl ⟨c, ?_⟩
    have : ctn f 0 = 0 := rfl
    omega
  · exact Or.inr ⟨by omega, by omega⟩
end
/-! how many bits an int has -/
def pop16 (x : Nat) : Nat := pop8 (x % 256) + pop8 (x / 256)
def bcN (x : Nat) : Nat :=
  let b9 := x - ((x >>> 1) &&& 1431655765)
  let b23 := (b9 &&& 858993459) + ((b9 >>> 2) &&& 858993459)
  let b33 := (b23 + (b23 >>> 4)) &&& 252645135
  let b40 := b33 + (b33 >>> 8)
  let b47 := b40 + (b40 >>> 16)
  b47 &&& 63
theorem bcN_t : ∀ a : Nat, a < 256 → ∀ b : Nat, b < 256 → bcN (256 * a + b) = pop8 b + pop8 a := by decide +kernel
theorem iushr_n (x : Nat) (hx : x < 2147483648) (n : Nat) (v : UInt32) (hv : ((Int32.ofInt (n : Int)).toUInt32 &&& Int32.toUInt32 31) = v) (hn : v.toNat % 32 = n) : iushr (x : Int) (n : Int) = ((x >>> n : Nat) : Int) := by
  unfold iushr
  rw [hv]
  have e : ((Int32.ofInt (x : Int)).toUInt32 >>> v).toNat = x >>> n := by
    rw [UInt32.toNat_shiftRight, hn]
    have : (Int32.ofInt (x : Int)).toUInt32.toNat = x := by
      show (Int32.ofInt (x : Int)).toBitVec.toNat = x
      rw [nonneg_bv (by omega) (by omega), Int.toNat_natCast]
    rw [this]
  have l : x >>> n ≤ x := Nat.shiftRight_le x n
  have e2 : ((Int32.ofInt (x : Int)).toUInt32 >>> v).toInt32.toBitVec.toNat = x >>> n := e
  rw [toInt_small _ (by rw [e2]; omega), e2]
theorem q_bc16 {x : Nat} {M : Mem} (hx : x < 65536) : pw (mJ6_bitCount_0f7a4 (x : Int) M) (fun q => q.2 = M ∧ q.1 = ((pop16 x : Nat) : Int)) := by
  have e := bcN_t (x / 256) (by omega) (x % 256) (by omega)
  rw [show 256 * (x / 256) + x % 256 = x by omega] at e
  have s1 : ∀ y : Nat, y < 2147483648 → iushr (y : Int) 1 = ((y >>> 1 : Nat) : Int) := fun y hy => iushr_n y hy 1 1 (by decide +kernel) (by decide +kernel)
  have s2 : ∀ y : Nat, y < 2147483648 → iushr (y : Int) 2 = ((y >>> 2 : Nat) : Int) := fun y hy => iushr_n y hy 2 2 (by decide +kernel) (by decide +kernel)
  have s4 : ∀ y : Nat, y < 2147483648 → iushr (y : Int) 4 = ((y >>> 4 : Nat) : Int) := fun y hy => iushr_n y hy 4 4 (by decide +kernel) (by decide +kernel)
  have s8 : ∀ y : Nat, y < 2147483648 → iushr (y : Int) 8 = ((y >>> 8 : Nat) : Int) := fun y hy => iushr_n y hy 8 8 (by decide +kernel) (by decide +kernel)
  have s16 : ∀ y : Nat, y < 2147483648 → iushr (y : Int) 16 = ((y >>> 16 : Nat) : Int) := fun y hy => iushr_n y hy 16 16 (by decide +kernel) (by decide +kernel)
  have le : ∀ y k : Nat, y >>> k ≤ y := fun y k => Nat.shiftRight_le y k
  have an : ∀ y m : Nat, y &&& m ≤ y := fun y m => Nat.and_le_left
  unfold mJ6_bitCount_0f7a4
  refine p_some (fun b9 h9 => p_some (fun b23 h23 => p_some (fun b33 h33 => p_some (fun b40 h40 => p_some (fun b47 h47 => p_ret ⟨rfl, ?_⟩)))))
  show iand b47 63 = _
  obtain ⟨n9, e9⟩ : ∃ n9, n9 = x - ((x >>> 1) &&& 1431655765) := ⟨_, rfl⟩
  have a1 := an (x >>> 1) 1431655765
  have a2 := le x 1
  rw [s1 x (by omega), show (1431655765 : Int) = ((1431655765 : Nat) : Int) from rfl, iand_c _ _ (by omega) (by decide), wI_id (by omega) (by omega), show (x : Int) - (((x >>> 1) &&& 1431655765 : Nat) : Int) = ((x - ((x >>> 1) &&& 1431655765) : Nat) : Int) by omega, ← e9] at h9
  subst h9
  have l9 : n9 ≤ x := by omega
  obtain ⟨n23, e23⟩ : ∃ n23, n23 = (n9 &&& 858993459) + ((n9 >>> 2) &&& 858993459) := ⟨_, rfl⟩
  have a3 := an n9 858993459
  have a4 := an (n9 >>> 2) 858993459
  have a5 := le n9 2
  rw [s2 n9 (by omega), show (858993459 : Int) = ((858993459 : Nat) : Int) from rfl, iand_c _ _ (by omega) (by decide), iand_c _ _ (by omega) (by decide), ← Int.natCast_add, ← e23, wI_id (by omega) (by omega)] at h23
  subst h23
  obtain ⟨n33, e33⟩ : ∃ n33, n33 = (n23 + (n23 >>> 4)) &&& 252645135 := ⟨_, rfl⟩
  have a6 := le n23 4
  have a7 := an (n23 + (n23 >>> 4)) 252645135
  rw [s4 n23 (by omega), ← Int.natCast_add, wI_id (by omega) (by omega), show (252645135 : Int) = ((252645135 : Nat) : Int) from rfl, iand_c _ _ (by omega) (by decide), ← e33] at h33
  subst h33
  obtain ⟨n40, e40⟩ : ∃ n40, n40 = n33 + (n33 >>> 8) := ⟨_, rfl⟩
  have a8 := le n33 8
  rw [s8 n33 (by omega), ← Int.natCast_add, ← e40, wI_id (by omega) (by omega)] at h40
  subst h40
  obtain ⟨n47, e47⟩ : ∃ n47, n47 = n40 + (n40 >>> 16) := ⟨_, rfl⟩
  have a9 := le n40 16
  rw [s16 n40 (by omega), ← Int.natCast_add, ← e47, wI_id (by omega) (by omega)] at h47
  subst h47
  rw [show (63 : Int) = ((63 : Nat) : Int) from rfl, iand_c _ _ (by omega) (by decide)]
  have : bcN x = n47 &&& 63 := by
    show _ = _
    rw [e47, e40, e33, e23, e9]
    rfl
  rw [← this, e]
  unfold pop16
  omega
