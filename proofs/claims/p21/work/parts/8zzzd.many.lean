/-! ===== many: alike ===== -/
theorem cnt8 {g : Int → Int} {n : Nat} (n36 : n ≤ 36) (hg : ∀ f : Int, 0 ≤ g f ∧ g f ≤ 1) (hz : ∀ f : Int, (n : Int) ≤ f → f < 36 → g f = 0) : ctn (fun b => lb ((wn g n : Nat) : Int) b) 64 = ctn (fun x => !decide ((0 : Int) = g (x : Int))) 36 := by
  have e := dst_e (w := 0) n36 (Nat.two_pow_pos n) hg
  have e1 : dst ((wn g n : Nat) : Int) 0 = ctn (fun b => lb ((wn g n : Nat) : Int) b) 64 := by
    unfold dst
    refine ctn_congr 64 (fun b hb => ?_)
    rw [lb_xor, lb_nat 0 hb, Nat.zero_testBit, Bool.xor_false]
  obtain ⟨F, hF⟩ : ∃ F : Nat → Bool, F = fun (x : Nat) => !decide ((0 : Int) = g (x : Int)) := ⟨_, rfl⟩
  have e2 : ctn (fun x => !decide (b2i (phw (n : Int) 0 (x : Int)) = g (x : Int))) n = ctn F n := ctn_congr n (fun x hx => by
    have z : b2i (phw (n : Int) 0 (x : Int)) = 0 := by
      unfold phw
      rw [Nat.zero_testBit]; rfl
    rw [hF, z])
  have e3 : ctn F 36 = ctn (fun x => F x && decide (x < n)) 36 := ctn_congr 36 (fun x hx => by
    show F x = (F x && decide (x < n))
    by_cases c : x < n
    · rw [decide_eq_true c, Bool.and_true]
    · have : F x = false := by
        rw [hF]
        show (!decide ((0 : Int) = g (x : Int))) = false
        rw [decide_eq_true (hz (x : Int) (by omega) (by omega)).symm]; rfl
      rw [this]; rfl)
  have e4 : ctn (fun x => F x && decide (x < n)) 36 = ctn (fun x => F x && decide (x < n)) n := by
    have := ctn_cut (f := fun x => F x && decide (x < n)) (a := n) (fun w hw => by
      show (F w && decide (w < n)) = false
      rw [decide_eq_false hw, Bool.and_false]) (36 - n)
    rw [show n + (36 - n) = 36 by omega] at this
    exact this
  have e5 : ctn (fun x => F x && decide (x < n)) n = ctn F n := ctn_congr n (fun x hx => by
    show (F x && decide (x < n)) = F x
    rw [decide_eq_true hx, Bool.and_true])
  rw [← hF, ← e1, e, e2, e3, e4, e5]
/-- what is counted -/
def MA (l : Int) (M : Mem) : Int := if l = 0 ∨ l = 1 ∨ l = 2 then mG M 133 l else if l = 3 then mG M 134 0 else if l = 4 then mG M 138 0 else if l = 5 then mG M 131 0 else if l = 6 then mG M 132 0 else if l = 7 then ((tvb M : Nat) : Int) else if l = 8 then ((ctn (fun x => !decide ((0 : Int) = mG M 137 (x : Int))) 36 : Nat) : Int) else if l = 9 then mG M 141 8 else if l = 10 then mG M 146 0 else -2
theorem MA_o {l : Int} {M : Mem} (c0 : ¬ l = 0) (c1 : ¬ l = 1) (c2 : ¬ l = 2) (c3 : ¬ l = 3) (c4 : ¬ l = 4) (c5 : ¬ l = 5) (c6 : ¬ l = 6) (c7 : ¬ l = 7) (c8 : ¬ l = 8) (c9 : ¬ l = 9) (c10 : ¬ l = 10) : MA l M = -2 := by
  unfold MA
  rw [if_neg (by omega), if_neg c3, if_neg c4, if_neg c5, if_neg c6, if_neg c7, if_neg c8, if_neg c9, if_neg c10]
section
variable {M : Mem} {l : Int}
theorem q_many8 (h : J4 M) : pw (mX8_many 1 l M) (fun q => q.2 = M ∧ q.1 = MA l M) := by
  obtain ⟨P, n, ok, hn, k2, sh, tp, rf, ve, vlt, h1, hl⟩ := look h.1.1
  obtain ⟨en, n36, w0⟩ := h.n hn sh
  have iM := h.1.1.1.1.1
  obtain ⟨s1, s2, _, _, _, s6, s7, s8⟩ := h.1.1.1.1.2.2.1 0 (by decide) (by decide) (Or.inl rfl)
  obtain ⟨_, sb, _, _, _⟩ := h.1.1.1.2 0 (by decide) (by decide) (Or.inl rfl)
  have sb1 := sb.1
  rw [sOf_0] at s1 s2 s6 s7 s8 sb1
  have z : ∀ k : Int, 0 ≤ k → k < 3 → mG M 5 k = mG M 133 k := fun k k0 k1 => by
    have := s1 k k0 k1
    rw [show 3 * (0 : Int) + k = k by omega] at this
    exact this
  unfold mX8_many
  refine p_if (fun c0 => ?_) (fun c0 => p_if (fun c1 => ?_) (fun c1 => p_if (fun c2 => ?_) (fun c2 => p_if (fun c3 => ?_) (fun c3 => p_if (fun c4 => ?_) (fun c4 => p_if (fun c5 => ?_) (fun c5 => p_if (fun c6 => ?_) (fun c6 => p_if (fun c7 => ?_) (fun c7 => p_if (fun c8 => ?_) (fun c8 => p_if (fun c9 => ?_) (fun c9 => p_if (fun c10 => ?_) (fun c10 => p_ret ⟨rfl, (MA_o c0 c1 c2 c3 c4 c5 c6 c7 c8 c9 c10).symm⟩)))))))))))
  · subst c0
    exact p_gFc (ji := 1) rfl h1.2 (p_gFc (ji := 0) rfl k2.c3_0 (p_gFc (ji := 0) rfl k2.c4_0 (p_aGc (z 0 (by decide) (by decide)) (p_ret ⟨rfl, rfl⟩))))
  · subst c1
    exact p_gFc (ji := 1) rfl h1.2 (p_gFc (ji := 0) rfl k2.c3_0 (p_gFc (ji := 0) rfl k2.c4_0 (p_aGc (z 1 (by decide) (by decide)) (p_ret ⟨rfl, rfl⟩))))
  · subst c2
    exact p_gFc (ji := 1) rfl h1.2 (p_gFc (ji := 0) rfl k2.c3_0 (p_gFc (ji := 0) rfl k2.c4_0 (p_aGc (z 2 (by decide) (by decide)) (p_ret ⟨rfl, rfl⟩))))
  · subst c3
    exact p_gFc (ji := 1) rfl h1.2 (p_gFc (ji := 0) rfl k2.c3_0 (p_gFc (ji := 6) rfl s2 (p_ret ⟨rfl, rfl⟩)))
  · subst c4
    exact p_gFc (ji := 1) rfl h1.2 (p_gFc (ji := 11) rfl sb1 (p_ret ⟨rfl, rfl⟩))
  · subst c5
    exact p_gFc (ji := 1) rfl h1.2 (p_gFc (ji := 13) rfl s6 (p_ret ⟨rfl, rfl⟩))
  · subst c6
    exact p_gFc (ji := 1) rfl h1.2 (p_gFc (ji := 14) rfl s7 (p_ret ⟨rfl, rfl⟩))
  · subst c7
    refine p_gFc (ji := 1) rfl h1.2 (p_gK (p_call (q_viewed k2 (rd_Told_11 iM (a := 3) rfl)) (fun v m y => p_ret ⟨y.1, ?_⟩)))
    have y2 : v = ((vwb M : Nat) : Int) := y.2
    rw [← ve] at y2
    exact y2
  · subst c8
    refine p_gFc (ji := 1) rfl h1.2 (p_gFc (ji := 1) rfl w0.1.1 (p_call (q_bitCount _ M) (fun v m y => p_ret ⟨y.1, ?_⟩)))
    have y2 : v = ((ctn (fun b => lb ((wn (mG M 137) n : Nat) : Int) b) 64 : Nat) : Int) := y.2
    rw [cnt8 n36 (fun f => rd_Mworld iM (a := 137) (i := f) rfl) w0.1.2] at y2
    exact y2
  · subst c9
    rcases guess_P h.1.1 with ⟨a, b⟩ | ⟨g0, ps, tt, rt, hty⟩
    · exact p_gFc (ji := 1) rfl h1.2 (p_gFc (ji := 12) rfl a (p_it1 rfl (p_ret ⟨rfl, b.symm⟩)))
    · exact p_gFc (ji := 1) rfl h1.2 (p_gFc (ji := 12) rfl rfl (p_it0 g0.1 (p_gFc (ji := 1) rfl h1.2 (p_gFc (ji := 12) rfl rfl (p_gFc (ji := 5) rfl tt.1.2.2.2.2.2.2 (p_ret ⟨rfl, rt.1.symm⟩))))))
  · subst c10
    exact p_gFc (ji := 1) rfl h1.2 (p_gFc (ji := 18) rfl s8 (p_ret ⟨rfl, rfl⟩))
theorem v_many9 {n : Nat} (iM : I n M) : pw (mX9_many 126 l M) (fun q => q.1 = MA l M) := by
  unfold mX9_many
  refine p_pF (ji := 0) rfl (fun m1 h1 => ?_)
  have g1 : ∀ c j : Int, ¬ c = 126 → mG m1 c j = mG M c j := fun c j x => st_ne h1 (fun w => x w.1)
  have k1 : K9 m1 := (K9.of iM).kp (fun j hj => st_ne h1 (fun w => by omega))
  refine p_if (fun c0 => ?_) (fun c0 => p_if (fun c1 => ?_) (fun c1 => p_if (fun c2 => ?_) (fun c2 => p_if (fun c3 => ?_) (fun c3 => p_if (fun c4 => ?_) (fun c4 => p_if (fun c5 => ?_) (fun c5 => p_if (fun c6 => ?_) (fun c6 => p_if (fun c7 => ?_) (fun c7 => p_if (fun c8 => ?_) (fun c8 => p_if (fun c9 => ?_) (fun c9 => p_if (fun c10 => ?_) (fun c10 => p_ret (MA_o c0 c1 c2 c3 c4 c5 c6 c7 c8 c9 c10).symm)))))))))))
  · subst c0
    exact p_gFc (ji := 7) rfl k1.c7 (p_aGc (g1 133 0 (by decide)) (p_ret rfl))
  · subst c1
    exact p_gFc (ji := 7) rfl k1.c7 (p_aGc (g1 133 1 (by decide)) (p_ret rfl))
  · subst c2
    exact p_gFc (ji := 7) rfl k1.c7 (p_aGc (g1 133 2 (by decide)) (p_ret rfl))
  · subst c3
    exact p_gFc (ji := 8) rfl k1.c8 (p_aGc (g1 134 0 (by decide)) (p_ret rfl))
  · subst c4
    exact p_gFc (ji := 12) rfl k1.c12 (p_aGc (g1 138 0 (by decide)) (p_ret rfl))
  · subst c5
    exact p_gFc (ji := 5) rfl k1.c5 (p_aGc (g1 131 0 (by decide)) (p_ret rfl))
  · subst c6
    exact p_gFc (ji := 6) rfl k1.c6 (p_aGc (g1 132 0 (by decide)) (p_ret rfl))
  · subst c7
    have et : tvb m1 = tvb M := by
      unfold tvb
      rw [g1 131 0 (by decide), g1 132 0 (by decide), g1 138 0 (by decide), show mG m1 139 = mG M 139 from funext (fun j => g1 139 j (by decide)), show mG m1 140 = mG M 140 from funext (fun j => g1 140 j (by decide))]
    refine p_gK (p_call (v_told k1 (by rw [g1 138 0 (by decide)]; exact rd_Mstories iM (a := 138) (i := 0) rfl)) (fun v m y => p_ret ?_))
    have y2 : v = ((tvb m1 : Nat) : Int) := y.2
    rw [et] at y2
    exact y2
  · subst c8
    obtain ⟨F, hF⟩ : ∃ F : Nat → Bool, F = fun (x : Nat) => !decide ((0 : Int) = mG M 137 (x : Int)) := ⟨_, rfl⟩
    have loop : ∀ (fu f : Nat), f ≤ 36 → pw (mX9_many_110 fu 126 ((ctn F f : Nat) : Int) (f : Int) m1) (fun q => q.1 = ((ctn F 36 : Nat) : Int)) := by
      intro fu
      induction fu with
      | zero => intro f _; exact p_none
      | succ fu ih =>
        intro f hf
        show pw (bX9_many_110 (mX9_many_110 fu) 126 _ (f : Int) m1) _
        unfold bX9_many_110
        have cle := ctn_le F f
        refine p_if (fun c => p_ret ?_) (fun c => ?_)
        · show ((ctn F f : Nat) : Int) = _
          rw [show f = 36 by omega]
        have go : ∀ x : Int, x = b2i (F f) → pw (mX9_many_131 (mX9_many_110 fu) 126 (f : Int) ((ctn F f : Nat) : Int) x m1) (fun q => q.1 = ((ctn F 36 : Nat) : Int)) := fun x hx => by
          unfold mX9_many_131
          have bb := b2i_b (F f)
          rw [wI_s (p := f) (by omega), wI_id (x := ((ctn F f : Nat) : Int) + x) (by omega) (by omega), hx, b2i_n, ← Int.natCast_add, ← ctn_s]
          exact ih (f + 1) (by omega)
        refine p_gFc (ji := 11) rfl k1.c11 (p_aGc (g1 137 (f : Int) (by decide)) (p_if (fun c2 => go 0 ?_) (fun c2 => go 1 ?_)))
        · rw [hF]
          show (0 : Int) = b2i (!decide ((0 : Int) = mG M 137 (f : Int)))
          rw [decide_eq_true c2.symm]; rfl
        · rw [hF]
          show (1 : Int) = b2i (!decide ((0 : Int) = mG M 137 (f : Int)))
          rw [decide_eq_false (fun z => c2 z.symm)]; rfl
    refine p_mono (loop FU 0 (Nat.zero_le _)) (fun q y => ?_)
    rw [hF] at y
    exact y
  · subst c9
    exact p_gFc (ji := 15) rfl k1.c15 (p_aGc (g1 141 8 (by decide)) (p_ret rfl))
  · subst c10
    exact p_gFc (ji := 20) rfl k1.c20 (p_aGc (g1 146 0 (by decide)) (p_ret rfl))
theorem eq_many (h : J4 M) : pw (mX8_many 1 l M) (fun q1 => pw (mX9_many 126 l q1.2) (fun q2 => EQ q1 q2)) :=
  p_mono (q_many8 h) (fun q1 y => by
    rw [y.1]
    exact p_mono (v_many9 (l := l) h.1.1.1.1.1) (fun q2 z => y.2.trans z.symm))
theorem j4_manyE (r1 : (-2147483648) ≤ l ∧ l ≤ 2147483647) (h : J4 M) : wp (mX8_many 1 l M) (fun q1 => wp (mX9_many 126 l q1.2) (fun q2 => J4 q2.2 ∧ EQ q1 q2)) := w_and3 (M := M) (j4_many r1 h) (eq_many h)
end
