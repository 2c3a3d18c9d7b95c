/-! ===== breaks: the reference ===== -/
theorem remN : ∀ b : Nat, b < 4 → 0 < b → ∀ a : Nat, a < 100 → irem (a : Int) (b : Int) = ((a % b : Nat) : Int) := by decide +kernel
theorem ibs : ∀ l : Nat, l < 16 → ∀ y : Nat, y < 4 → (∀ x : Nat, x < 4 → (l ||| 2 ^ y).testBit x = (l.testBit x || decide (y = x))) ∧ l ||| 2 ^ y < 16 := by decide +kernel
/-- which variables the last j alls bind -/
def BD (ps : List Row) (A : Nat) : Nat → Int → Bool
  | 0, _ => false
  | j + 1, x => BD ps A j x || decide (vrf ps (A - 1 - j) = x)
theorem BD_f {ps : List Row} {A : Nat} {x : Int} : ∀ j : Nat, BD ps A j x = false → ∀ p, p < A → A - 1 - p < j → ¬ vrf ps p = x := by
  intro j
  induction j with
  | zero => intro _ p _ h; omega
  | succ j ih =>
    intro h p hp hj e
    have h' : (BD ps A j x || decide (vrf ps (A - 1 - j) = x)) = false := h
    obtain ⟨h1, h2⟩ := Bool.or_eq_false_iff.mp h'
    by_cases c : A - 1 - p = j
    · have := of_decide_eq_false h2
      rw [show A - 1 - j = p by omega] at this
      exact this e
    · exact ih h1 p hp (by omega) e
section
variable {S : SH} {M : Mem} {n : Nat} {ps : List Row} {φ : Int → Bool}
/-- the index of the variables' values, as far as it is found -/
def AX (ps : List Row) (A : Nat) (d : Nat → Int) (j all bits : Nat) : Prop := all < 81 ∧ bits < 16 ∧ (∀ x : Nat, x < 4 → bits.testBit x = BD ps A j (x : Int)) ∧ ∀ x : Int, 0 ≤ x → x ≤ 3 → (BD ps A j x = true → envOf all x = FWv ps d A x) ∧ (BD ps A j x = false → envOf all x = 0)
theorem AX.z {A : Nat} {d : Nat → Int} : AX ps A d 0 0 0 := ⟨by decide, by decide, fun x _ => Nat.zero_testBit x, fun x _ _ => ⟨fun h => absurd (show false = true from h) (by decide), fun _ => env0 x⟩⟩
theorem AX.fin {A all bits : Nat} {d : Nat → Int} (h : AX ps A d A all bits) (hv : ∀ p, p < A → 0 ≤ vrf ps p ∧ vrf ps p ≤ 3) : envOf all = FWv ps d A := by
  funext x
  by_cases c : 0 ≤ x ∧ x ≤ 3
  · obtain ⟨h1, h2⟩ := h.2.2.2 x c.1 c.2
    cases b : BD ps A A x with
    | true => exact h1 b
    | false =>
      rw [h2 b, FW_no A (fun q hq => BD_f A b q hq (by omega))]
  · have e0 : envOf all x = 0 := by unfold envOf; rw [if_neg c]
    rw [e0, FW_no A (fun q hq e => c (by rw [← e]; exact hv q hq))]
theorem AX.step {A j all bits : Nat} {d : Nat → Int} {y v : Nat} (h : AX ps A d j all bits) (hj : j < A) (hy : vrf ps (A - 1 - j) = (y : Int)) (y4 : y < 4) (hv : d (A - 1 - j) = (v : Int)) (v3 : v < 3) : (bits.testBit y = true → AX ps A d (j + 1) all (bits ||| 2 ^ y)) ∧ (bits.testBit y = false → all + v * 3 ^ y < 81 ∧ AX ps A d (j + 1) (all + v * 3 ^ y) (bits ||| 2 ^ y)) := by
  obtain ⟨h1, h2, h3, h4⟩ := h
  obtain ⟨b1, b2⟩ := ibs bits h2 y y4
  have bs : ∀ x : Nat, x < 4 → (bits ||| 2 ^ y).testBit x = BD ps A (j + 1) (x : Int) := fun x hx => by
    show _ = (BD ps A j (x : Int) || decide (vrf ps (A - 1 - j) = (x : Int)))
    rw [b1 x hx, h3 x hx, hy]
    by_cases e : y = x
    · rw [decide_eq_true e, decide_eq_true (show (y : Int) = (x : Int) by omega)]
    · rw [decide_eq_false e, decide_eq_false (show ¬ (y : Int) = (x : Int) by omega)]
  refine ⟨fun t => ⟨h1, b2, bs, fun x x0 x1 => ?_⟩, fun t => ?_⟩
  · have by' : BD ps A j (y : Int) = true := by rw [← h3 y y4]; exact t
    have e : BD ps A (j + 1) x = BD ps A j x := by
      show (BD ps A j x || decide (vrf ps (A - 1 - j) = x)) = _
      rw [hy]
      by_cases c : (y : Int) = x
      · rw [← c, by']; rfl
      · rw [decide_eq_false c, Bool.or_false]
    rw [e]
    exact h4 x x0 x1
  · have by' : BD ps A j (y : Int) = false := by rw [← h3 y y4]; exact t
    have z := (h4 (y : Int) (by omega) (by omega)).2 by'
    have dz : dg all y = 0 := by
      unfold envOf at z
      rw [if_pos ⟨by omega, by omega⟩, Int.toNat_natCast] at z
      omega
    have ea := env_add h1 y4 v3 dz
    refine ⟨ad_lt all h1 y y4 v v3 dz, ad_lt all h1 y y4 v v3 dz, b2, bs, fun x x0 x1 => ?_⟩
    rw [ea]
    show (BD ps A (j + 1) x = true → (if x = (y : Int) then (v : Int) else envOf all x) = _) ∧ (BD ps A (j + 1) x = false → (if x = (y : Int) then (v : Int) else envOf all x) = 0)
    by_cases c : x = (y : Int)
    · rw [if_pos c]
      refine ⟨fun _ => ?_, fun w => ?_⟩
      · rw [c, ← hy]
        rw [← hy] at by'
        rw [FW_last A (by omega) (fun q q0 q1 => BD_f j by' q q1 (by omega)), hv]
      · have w' : (BD ps A j x || decide (vrf ps (A - 1 - j) = x)) = false := w
        rw [hy, decide_eq_true c.symm, Bool.or_true] at w'
        cases w'
    · rw [if_neg c]
      have e : BD ps A (j + 1) x = BD ps A j x := by
        show (BD ps A j x || decide (vrf ps (A - 1 - j) = x)) = _
        rw [hy, decide_eq_false (fun w => c w.symm), Bool.or_false]
      rw [e]
      exact h4 x x0 x1
theorem v_break103 {s k : Nat} (ok : S.ok) (hs : s < 8) (hty : ty S.nr S.k1 S.k2 [(0, 255)] ps) (hk : k < lead ps) (rm : RM S ps (s : Int) φ M) (rd : RDl (sm S (S.fa φ) (ps.drop (lead ps))) M) : ∀ (fu c : Nat), c ≤ RWn (zf S ps) (lead ps) → (∀ x, x < c → TBk S φ ps x = true) → pw (mX9_breaks_103 fu 126 (s : Int) (k : Int) ((lead ps : Nat) : Int) ((RWn (zf S ps) (lead ps) : Nat) : Int) (c : Int) M) (fun q => BR (TBk S φ ps) (RWn (zf S ps) (lead ps)) (fun c => ((dgp (zf S ps) (lead ps) k c : Nat) : Int)) q.1) := by
  obtain ⟨sc, bo, t1, _, _, l4, _⟩ := lead_ty hty (lead ps) (Nat.le_refl _)
  have len := (lead_behind (S := S) hty).1
  have sn := sm_len (S := S) (A := S.fa φ) (ps.drop (lead ps)) _ t1
  obtain ⟨A, hA⟩ : ∃ A, A = lead ps := ⟨_, rfl⟩
  have zz : ∀ p, p < lead ps → 1 ≤ zf S ps p ∧ zf S ps p ≤ 3 := fun p hp => by
    obtain ⟨_, _, _, _, _, _, _, _, _, _, zz⟩ := lead_row ok hty hp
    exact zz
  have rb := RW_b l4 zz (lead ps) (Nat.le_refl _)
  -- what is ready
  have ready : ∀ a : Nat, a < 81 → mG M 160 (a : Int) = b2i (hd (sm S (S.fa φ) (ps.drop (lead ps))) (envOf a)) := fun a ha => by
    cases hs' : sm S (S.fa φ) (ps.drop (lead ps)) with
    | nil => rw [hs'] at sn; simp only [List.length_cons, List.length_nil] at sn; omega
    | cons f L =>
      rw [hs'] at rd sn
      have l0 : L.length = 0 := by simp only [List.length_cons, List.length_nil] at sn; omega
      have v0 := rd.1 a ha
      rw [l0] at v0
      have e : (81 * ((0 : Nat) : Int) + (a : Int)) = (a : Int) := by omega
      rw [e] at v0
      exact v0
  intro fu
  induction fu with
  | zero => intro c _ _; exact p_none
  | succ fu ih =>
    intro c hc no
    show pw (bX9_breaks_103 (mX9_breaks_103 fu) 126 (s : Int) (k : Int) _ _ (c : Int) M) _
    unfold bX9_breaks_103
    refine p_if (fun c1 => p_ret (Or.inl ⟨rfl, fun x hx => no x (by omega)⟩)) (fun c1 => ?_)
    have c81 : c < 81 := by omega
    obtain ⟨d, hd⟩ : ∃ d : Nat → Int, d = fun p => ((dgp (zf S ps) (lead ps) p c : Nat) : Int) := ⟨_, rfl⟩
    have loop : ∀ (fu2 j all bits : Nat) (mine : Int), j ≤ lead ps → AX ps (lead ps) d j all bits → (lead ps - 1 - k < j → mine = ((dgp (zf S ps) (lead ps) k c : Nat) : Int)) → pw (mX9_breaks_128 (mX9_breaks_103 fu) fu2 126 (s : Int) (k : Int) ((lead ps : Nat) : Int) ((RWn (zf S ps) (lead ps) : Nat) : Int) (c : Int) ((c / PR (zf S ps) (lead ps) j : Nat) : Int) (all : Int) mine (bits : Int) (((lead ps : Nat) : Int) - 1 - (j : Int)) M) (fun q => BR (TBk S φ ps) (RWn (zf S ps) (lead ps)) (fun c => ((dgp (zf S ps) (lead ps) k c : Nat) : Int)) q.1) := by
      intro fu2
      induction fu2 with
      | zero => intro j all bits mine _ _ _; exact p_none
      | succ fu2 ih2 =>
        intro j all bits mine hj ax hm
        show pw (bX9_breaks_128 (mX9_breaks_103 fu) (mX9_breaks_128 (mX9_breaks_103 fu) fu2) 126 (s : Int) (k : Int) _ _ (c : Int) _ (all : Int) mine (bits : Int) (((lead ps : Nat) : Int) - 1 - (j : Int)) M) _
        unfold bX9_breaks_128
        obtain ⟨⟨_, _, _, r16, r17, r18, _, r26, _, _, r45, _⟩, rsz, _, _, rt⟩ := id rm
        refine p_if (fun c2 => ?_) (fun c2 => ?_)
        · have ej : j = lead ps := by omega
          rw [ej] at ax
          have ef := ax.fin (fun p hp => by
            obtain ⟨r, _, _, _, _, _, _, e, vb, _⟩ := lead_row ok hty hp
            rw [← e]; exact vb)
          have tv : mG M 160 (all : Int) = b2i (TBk S φ ps c) := by
            rw [ready all ax.1, ef, hd]; rfl
          refine p_gFc (ji := 45) rfl r45 (p_aGc tv (p_if (fun c3 => p_ret (Or.inr ⟨c, by omega, b2i_0.mp c3, no, hm (by omega)⟩)) (fun c3 => ?_)))
          rw [wI_s (p := c) (by omega)]
          refine ih (c + 1) (by omega) (fun x hx => ?_)
          by_cases e : x = c
          · rw [e]
            cases t : TBk S φ ps c with
            | true => rfl
            | false => rw [t] at c3; exact absurd rfl c3
          · exact no x (by omega)
        · have j1 : j < lead ps := by omega
          obtain ⟨p, hp⟩ : ∃ p, p = lead ps - 1 - j := ⟨_, rfl⟩
          obtain ⟨r, g1, g2, g3, g4, g5, g6, g7, g8, g9, g10⟩ := lead_row ok hty (p := p) (by omega)
          have rx := rt.2 p r g1
          obtain ⟨y, hy⟩ := Int.eq_ofNat_of_zero_le g8.1
          have e143 : mG M 143 (40 * (s : Int) + (p : Int)) = (y : Int) := by rw [rx.2.1 (Or.inl (by omega)), hy]
          have e144 : mG M 144 (40 * (s : Int) + (p : Int)) = r.c3 := by rw [rx.2.2.1 (Or.inl (by omega)), g6]
          have esz : mG M 152 r.c3 = (zf S ps p : Int) := (rsz r.c3 g5.1 (by omega)).trans g9
          have ql : c / PR (zf S ps) (lead ps) j ≤ c := Nat.div_le_self _ _
          have e_r : irem ((c / PR (zf S ps) (lead ps) j : Nat) : Int) (zf S ps p : Int) = ((dgp (zf S ps) (lead ps) p c : Nat) : Int) := by
            rw [remN (zf S ps p) (by omega) (by omega) _ (by omega)]
            unfold dgp dj
            rw [show lead ps - 1 - p = j by omega, show lead ps - 1 - j = p by omega]
          have e_q : idiv ((c / PR (zf S ps) (lead ps) j : Nat) : Int) (zf S ps p : Int) = ((c / PR (zf S ps) (lead ps) (j + 1) : Nat) : Int) := by
            rw [quoN (by omega) (by omega) (by omega), Nat.div_div_eq_div_mul, hp]; rfl
          have db := dgp_b zz (p := p) (c := c) (by omega)
          have hdp : d p = ((dgp (zf S ps) (lead ps) p c : Nat) : Int) := by rw [hd]
          have st := ax.step (y := y) (v := dgp (zf S ps) (lead ps) p c) j1 (by rw [← hp, ← g7, hy]) (by omega) (by rw [← hp]; exact hdp) (by omega)
          have hb := ax.2.1
          have ha := ax.1
          have eP : ((lead ps : Nat) : Int) - 1 - (j : Int) = (p : Int) := by omega
          rw [eP]
          have eI : wI (wI (40 * (s : Int)) + (p : Int)) = 40 * (s : Int) + (p : Int) := by
            rw [wI_id (x := 40 * (s : Int)) (by omega) (by omega), wI_id (by omega) (by omega)]
          -- the step goes on
          have go : ∀ (all2 : Nat) (x : Int), all2 < 81 → wI ((all : Int) + x) = (all2 : Int) → AX ps (lead ps) d (j + 1) all2 (bits ||| 2 ^ y) → pw (mX9_breaks_204 (mX9_breaks_103 fu) (mX9_breaks_128 (mX9_breaks_103 fu) fu2) 126 (s : Int) (k : Int) ((lead ps : Nat) : Int) ((RWn (zf S ps) (lead ps) : Nat) : Int) (c : Int) ((c / PR (zf S ps) (lead ps) (j + 1) : Nat) : Int) mine (bits : Int) (p : Int) (40 * (s : Int) + (p : Int)) ((dgp (zf S ps) (lead ps) p c : Nat) : Int) (all : Int) x M) (fun q => BR (TBk S φ ps) (RWn (zf S ps) (lead ps)) (fun c => ((dgp (zf S ps) (lead ps) k c : Nat) : Int)) q.1) := fun all2 x a81 ex ax2 => by
            unfold mX9_breaks_204 mX9_breaks_234
            have b16 := ax2.2.1
            have py : (2 : Nat) ^ y < 1073741824 := Nat.lt_of_le_of_lt (Nat.pow_le_pow_right (n := 2) (m := 3) (by decide) (by omega)) (by decide)
            refine p_gFc (ji := 17) rfl r17 (p_aGc e143 ?_)
            rw [ex, ishl1 y (by omega), show (2 : Int) ^ y = ((2 ^ y : Nat) : Int) by simp, ior_nn (by omega) py, wI_id (x := (p : Int) + -1) (by omega) (by omega), show (p : Int) + -1 = ((lead ps : Nat) : Int) - 1 - ((j + 1 : Nat) : Int) by omega]
            refine p_if (fun ck => ?_) (fun ck => ?_)
            · refine ih2 (j + 1) all2 _ _ (by omega) ax2 (fun _ => ?_)
              rw [show p = k by omega]
            · refine ih2 (j + 1) all2 _ _ (by omega) ax2 (fun w => hm ?_)
              omega
          refine p_some (fun b hb2 => ?_)
          rw [eI] at hb2
          subst hb2
          refine p_gFc (ji := 26) rfl r26 (p_gFc (ji := 18) rfl r18 (p_aGc e144 (p_aGc esz (p_dMc e_r (p_dQc e_q (p_gFc (ji := 17) rfl r17 (p_aGc e143 ?_)))))))
          have ib := ibit (x := bits) (k := y) (by omega) (by omega)
          refine p_if (fun c3 => ?_) (fun c3 => ?_)
          · have tb := ib.mp c3
            obtain ⟨s1, s2⟩ := st.2 tb
            have p3 := p3_b y (by omega)
            refine p_gFc (ji := 17) rfl r17 (p_aGc e143 (p_call (w_unit (n := y) (by omega)) (fun u m2 yy => ?_)))
            obtain ⟨u1, u2⟩ := yy
            replace u1 : m2 = M := u1
            replace u2 : u = ((3 ^ y : Nat) : Int) := u2
            subst u1; subst u2
            dsimp only
            have em : ((dgp (zf S ps) (lead ps) p c : Nat) : Int) * ((3 ^ y : Nat) : Int) = ((dgp (zf S ps) (lead ps) p c * 3 ^ y : Nat) : Int) := (Int.natCast_mul _ _).symm
            rw [em]
            refine go (all + dgp (zf S ps) (lead ps) p c * 3 ^ y) _ s1 ?_ s2
            rw [wI_id (x := ((dgp (zf S ps) (lead ps) p c * 3 ^ y : Nat) : Int)) (by omega) (by omega), ← Int.natCast_add, wI_id (by omega) (by omega)]
          · have tb : bits.testBit y = true := by
              cases e : bits.testBit y with
              | true => rfl
              | false => exact absurd (ib.mpr e) c3
            exact go all 0 ha (by rw [Int.add_zero, wI_id (by omega) (by omega)]) (st.1 tb)
    have e0 : c / PR (zf S ps) (lead ps) 0 = c := Nat.div_one c
    have l0 := loop FU 0 0 0 0 (Nat.zero_le _) AX.z (fun w => by omega)
    rw [e0] at l0
    rw [wI_id (x := ((lead ps : Nat) : Int) - 1) (by omega) (by omega), show ((lead ps : Nat) : Int) - 1 = ((lead ps : Nat) : Int) - 1 - ((0 : Nat) : Int) by omega]
    exact l0
theorem v_break32 {s : Nat} {k : Int} (ok : S.ok) (hs : s < 8) (hl : ps.length ≤ 40) (hty : ty S.nr S.k1 S.k2 [(0, 255)] ps) (rm : RM S ps (s : Int) φ M) : ∀ (fu p : Nat), p ≤ lead ps → pw (mX9_breaks_32 fu 126 (s : Int) k (p : Int) ((RWn (zf S ps) p : Nat) : Int) M) (fun q => BKk S φ ps k q.1) := by
  obtain ⟨_, _, _, _, _, l4, _⟩ := lead_ty hty (lead ps) (Nat.le_refl _)
  obtain ⟨len, r0, q1, q2, q3⟩ := lead_behind (S := S) hty
  have zz : ∀ p, p < lead ps → 1 ≤ zf S ps p ∧ zf S ps p ≤ 3 := fun p hp => by
    obtain ⟨_, _, _, _, _, _, _, _, _, _, zz⟩ := lead_row ok hty hp
    exact zz
  obtain ⟨⟨_, _, _, r16, r17, r18, _, r26, _, _, r45, _⟩, rsz, _, _, rt⟩ := id rm
  intro fu
  induction fu with
  | zero => intro p _; exact p_none
  | succ fu ih =>
    intro p hp
    show pw (bX9_breaks_32 (mX9_breaks_32 fu) 126 (s : Int) k (p : Int) _ M) _
    unfold bX9_breaks_32
    have eI : wI (wI (40 * (s : Int)) + (p : Int)) = 40 * (s : Int) + (p : Int) := by
      rw [wI_id (x := 40 * (s : Int)) (by omega) (by omega), wI_id (by omega) (by omega)]
    rw [eI]
    by_cases c : p < lead ps
    · obtain ⟨r, g1, g2, g3, g4, g5, g6, g7, g8, g9, g10⟩ := lead_row ok hty c
      have rx := rt.2 p r g1
      have rb := RW_b l4 zz (p + 1) (by omega)
      have e144 : mG M 144 (40 * (s : Int) + (p : Int)) = r.c3 := by rw [rx.2.2.1 (Or.inl (by omega)), g6]
      have esz : mG M 152 r.c3 = (zf S ps p : Int) := (rsz r.c3 g5.1 (by omega)).trans g9
      refine p_gFc (ji := 16) rfl r16 (p_aGc rx.1 (p_it1 g4 (p_gFc (ji := 26) rfl r26 (p_gFc (ji := 18) rfl r18 (p_aGc e144 (p_aGc esz ?_))))))
      have em : ((RWn (zf S ps) p : Nat) : Int) * ((zf S ps p : Nat) : Int) = ((RWn (zf S ps) (p + 1) : Nat) : Int) := (Int.natCast_mul _ _).symm
      rw [em, wI_id (x := ((RWn (zf S ps) (p + 1) : Nat) : Int)) (by omega) (by omega), wI_s (p := p) (by omega)]
      exact ih (p + 1) (by omega)
    · have ep : p = lead ps := by omega
      rw [ep]
      have rx := rt.2 (lead ps) r0 q1
      refine p_gFc (ji := 16) rfl r16 (p_aGc rx.1 (p_it0 q3 ?_))
      rw [wI_id (x := ((lead ps : Nat) : Int) - 1) (by omega) (by omega)]
      refine p_call pr_in (fun b m2 y => ?_)
      obtain ⟨y1, y2⟩ := y
      replace y1 : m2 = M := y1
      subst y1
      rcases y2 with ⟨b1, b2, b3⟩ | ⟨b1, b2⟩
      · replace b1 : b = 1 := b1
        obtain ⟨kn, rfl⟩ := Int.eq_ofNat_of_zero_le b2
        refine p_it0 (show ¬ b = 0 by omega) (p_gK (p_call (w_means ok rm ⟨by omega, by omega⟩ hl hty) (fun v m3 y => ?_)))
        obtain ⟨⟨rm3, _⟩, y3⟩ := y
        replace rm3 : RM S ps (s : Int) φ m3 := rm3
        replace y3 : v = b2i (hd (sm S (S.fa φ) ps) (envOf 0)) := y3
        refine p_if (fun c2 => ?_) (fun c2 => p_ret (Or.inr ⟨kn, rfl, by omega, Or.inl ⟨rfl, fun x hx => ?_⟩⟩))
        · refine p_gK (p_call (w_work (f := lead ps) ok rm3 ⟨by omega, by omega⟩ hl hty (by omega)) (fun _ m4 y => ?_))
          obtain ⟨rm4, rd4, _, _⟩ := y
          exact p_mono (v_break103 ok hs hty (k := kn) (by omega) rm4 rd4 FU 0 (Nat.zero_le _) (fun x hx => absurd hx (by omega))) (fun q y => Or.inr ⟨kn, rfl, by omega, y⟩)
        · have t : hd (sm S (S.fa φ) ps) (envOf 0) = true := by
            cases e : hd (sm S (S.fa φ) ps) (envOf 0) with
            | true => rfl
            | false => rw [e] at y3; exact absurd y3 c2
          refine lead_all ok hty t (d := fun p => ((dgp (zf S ps) (lead ps) p x : Nat) : Int)) (fun p hp => ?_) (lead ps) (Nat.le_refl _)
          have db := dgp_b zz (p := p) (c := x) hp
          exact ⟨by omega, by omega⟩
      · exact p_it1 b1 (p_ret (Or.inl ⟨fun w => b2 ⟨w.1, by omega⟩, rfl⟩))
end
