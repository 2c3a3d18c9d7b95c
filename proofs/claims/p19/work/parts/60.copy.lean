/-! ===== the reference's copies: a slot of every row to another slot ===== -/
def rlen (b : Int) : Int := match b.toNat with | 127 => 400 | 128 => 1 | 129 => 1 | 130 => 1 | 131 => 1 | 132 => 1 | 133 => 3 | 134 => 1 | 135 => 4 | 136 => 4 | 137 => 36 | 138 => 1 | 139 => 8 | 140 => 8 | 141 => 9 | 142 => 360 | 143 => 360 | 144 => 360 | 145 => 360 | 146 => 1 | 147 => 40 | 148 => 40 | 149 => 40 | 150 => 144 | 151 => 4 | _ => 0
def CpS (L : List Int) (l1 l2 : Int) (M M' : Mem) : Prop := (∀ b, mK M' b = mK M b) ∧ mN M' = mN M ∧ ∀ b j, mG M' b j = if b ∈ L ∧ rlen b * l2 ≤ j ∧ j < rlen b * l2 + rlen b then mG M b (rlen b * l1 + (j - rlen b * l2)) else mG M b j
def CpU (a N l1 l2 u : Int) (M M' : Mem) : Prop := (∀ b, mK M' b = mK M b) ∧ mN M' = mN M ∧ ∀ b j, mG M' b j = if b = a ∧ N * l2 ≤ j ∧ j < N * l2 + u then mG M a (N * l1 + (j - N * l2)) else mG M b j
theorem CpS.step {L : List Int} {a N l1 l2 : Int} {M M1 M2 : Mem} (h : CpS L l1 l2 M M1) (u : CpU a N l1 l2 N M1 M2) (ha : a ∉ L) (hN : rlen a = N) : CpS (a :: L) l1 l2 M M2 := by
  subst hN
  refine ⟨fun b => (u.1 b).trans (h.1 b), u.2.1.trans h.2.1, fun b j => ?_⟩
  rw [u.2.2 b j]
  by_cases e : b = a
  · subst e
    by_cases e2 : rlen b * l2 ≤ j ∧ j < rlen b * l2 + rlen b
    · rw [if_pos ⟨rfl, e2⟩, if_pos ⟨List.mem_cons_self, e2⟩, h.2.2, if_neg (fun z => ha z.1)]
    · rw [if_neg (fun z => e2 z.2), if_neg (fun z => e2 z.2), h.2.2, if_neg (fun z => e2 z.2)]
  · rw [if_neg (fun z => e z.1), h.2.2]
    by_cases e2 : b ∈ L ∧ rlen b * l2 ≤ j ∧ j < rlen b * l2 + rlen b
    · rw [if_pos e2, if_pos ⟨List.mem_cons_of_mem _ e2.1, e2.2⟩]
    · rw [if_neg e2, if_neg (fun z => e2 ⟨(List.mem_cons.mp z.1).resolve_left e, z.2⟩)]
theorem CpS.at {L : List Int} {l1 l2 : Int} {M M' : Mem} {b j : Int} (h : CpS L l1 l2 M M') (hb : b ∉ L) : mG M' b j = mG M b j := by rw [h.2.2, if_neg (fun z => hb z.1)]
theorem CpU.z {a N l1 l2 : Int} {M : Mem} : CpU a N l1 l2 0 M M := ⟨fun _ => rfl, rfl, fun b j => by rw [if_neg (fun z => by omega)]⟩
theorem CpU.src {a N l1 l2 u k : Int} {M M' : Mem} (h : CpU a N l1 l2 u M M') (hd : N * l1 + N ≤ N * l2 ∨ N * l2 + N ≤ N * l1) (hu : u ≤ N) (h0 : 0 ≤ k) (h1 : k < N) : mG M' a (N * l1 + k) = mG M a (N * l1 + k) := by
  rw [h.2.2, if_neg (fun z => by omega)]
theorem CpU.st {a N l1 l2 u x : Int} {M M' M2 : Mem} (h : CpU a N l1 l2 u M M') (hd : N * l1 + N ≤ N * l2 ∨ N * l2 + N ≤ N * l1) (h0 : 0 ≤ u) (h1 : u < N) (hx : mG M' a (N * l1 + u) = x) (hM : M2 = mS M' a (N * l2 + u) x) : CpU a N l1 l2 (u + 1) M M2 := by
  refine ⟨fun b => (st_k hM b).trans (h.1 b), (st_n hM).trans h.2.1, fun b j => ?_⟩
  by_cases e : b = a ∧ j = N * l2 + u
  · obtain ⟨e1, e2⟩ := e
    subst e1; subst e2
    rw [st_eq hM, if_pos ⟨rfl, by omega, by omega⟩, ← hx, h.src hd (by omega) h0 h1]
    congr 1; omega
  · rw [st_ne hM e, h.2.2]
    by_cases e2 : b = a ∧ N * l2 ≤ j ∧ j < N * l2 + u
    · rw [if_pos e2, if_pos ⟨e2.1, e2.2.1, by omega⟩]
    · rw [if_neg e2, if_neg (fun z => e2 ⟨z.1, z.2.1, by have : ¬ j = N * l2 + u := fun y => e ⟨z.1, y⟩; omega⟩)]
theorem x_move {a N l1 l2 : Int} {len : Nat} {M : Mem} (hk : mK M a = (10, len)) (hN : 0 ≤ N ∧ N ≤ 400) (hl : N * 4 ≤ (len : Int)) (r1 : 0 ≤ l1 ∧ l1 ≤ 3) (r2 : 0 ≤ l2 ∧ l2 ≤ 3) (hd : N * l1 + N ≤ N * l2 ∨ N * l2 + N ≤ N * l1) : wp (mX9_move a N l1 l2 M) (fun q => CpU a N l1 l2 N M q.2) := by
  have p1 := mul_b (x := N) (y := l1) (a := 400) (b := 3) hN.1 hN.2 r1.1 r1.2
  have p2 := mul_b (x := N) (y := l2) (a := 400) (b := 3) hN.1 hN.2 r2.1 r2.2
  have p3 := mul_3 (x := N) (y := l1) hN.1 r1.2
  have p4 := mul_3 (x := N) (y := l2) hN.1 r2.2
  have w1 := wI_id (x := N * l1) (by omega) (by omega)
  have w2 := wI_id (x := N * l2) (by omega) (by omega)
  have key : ∀ (fu : Nat) (l4 : Int) (M' : Mem), 0 ≤ l4 → l4 ≤ N → N - l4 < (fu : Int) → CpU a N l1 l2 l4 M M' → wp (mX9_move_3 fu a N l1 l2 l4 M') (fun q => CpU a N l1 l2 N M q.2) := by
    intro fu
    induction fu with
    | zero => intro l4 M' b0 b1 hf; exfalso; omega
    | succ fu ih =>
      intro l4 M' b0 b1 hf hc
      show wp (bX9_move_3 (mX9_move_3 fu) a N l1 l2 l4 M') _
      unfold bX9_move_3
      refine w_if (fun c => ?_) (fun c => ?_)
      · have e : l4 = N := by omega
        subst e
        exact w_ret hc
      · have w3 := wI_id (x := N * l1 + l4) (by omega) (by omega)
        have w4 := wI_id (x := N * l2 + l4) (by omega) (by omega)
        have w5 := wI_id (x := l4 + 1) (by omega) (by omega)
        rw [w1, w2, w3, w4, w5]
        have hk' := (hc.1 a).trans hk
        refine w_aG hk' (by omega) (by omega) (fun x hx => ?_)
        refine w_aS hk' (by omega) (by omega) (fun M2 hM2 => ?_)
        exact ih _ M2 (by omega) (by omega) (by have : ((fu + 1 : Nat) : Int) = (fu : Int) + 1 := rfl; omega) (hc.st hd b0 (by omega) hx.e hM2)
  unfold mX9_move
  exact key FU 0 M (by decide) hN.1 (by show _ < (70000 : Int); omega) CpU.z
section
variable {n : Nat} {l1 l2 : Int} {M : Mem}
def L25 : List Int := [145, 144, 143, 142, 141, 140, 139, 138, 136, 135, 134, 133, 132, 131, 130, 129, 128, 149, 148, 147, 146, 151, 150, 137, 127]
theorem x_cp_116 (r_l1 : 0 ≤ l1 ∧ l1 ≤ 3) (r_l2 : 0 ≤ l2 ∧ l2 ≤ 3) (hne : ¬ l1 = l2) (iM : I n M) : ∀ (fu : Nat) (l3 : Int) (M1 M' : Mem), CpS [150, 137, 127] l1 l2 M M1 → CpU 151 4 l1 l2 l3 M1 M' → 0 ≤ l3 → l3 ≤ 4 → 4 - l3 < (fu : Int) → wp (mX9_copy_116 fu 126 l1 l2 l3 M') (fun q => CpS L25 l1 l2 M q.2) := by
  intro fu
  induction fu with
  | zero => intro l3 M1 M' _ _ b0 b1 hf; exfalso; omega
  | succ fu ih =>
    intro l3 M1 M' c u b0 b1 hf
    show wp (bX9_copy_116 (mX9_copy_116 fu) 126 l1 l2 l3 M') _
    unfold bX9_copy_116
    refine w_if (fun d => ?_) (fun d => ?_)
    · have e : l3 = 4 := by omega
      subst e
      have c0 : CpS [151, 150, 137, 127] l1 l2 M M' := c.step u (by decide) rfl
      refine w_gFc (ji := 20) rfl (congrArg Prod.fst ((c0.1 126).trans (kl_126 iM))) ((c0.at (by decide)).trans (rd_Model_20 iM rfl)) ?_
      refine w_call (x_move (len := 4) ((c0.1 146).trans (kl_146 iM)) (by decide) (by decide) r_l1 r_l2 (by omega)) ?_
      rintro v0 m0 u0
      have c1 : CpS [146, 151, 150, 137, 127] l1 l2 M m0 := c0.step u0 (by decide) rfl
      dsimp only
      refine w_gFc (ji := 21) rfl (congrArg Prod.fst ((c1.1 126).trans (kl_126 iM))) ((c1.at (by decide)).trans (rd_Model_21 iM rfl)) ?_
      refine w_call (x_move (len := 160) ((c1.1 147).trans (kl_147 iM)) (by decide) (by decide) r_l1 r_l2 (by omega)) ?_
      rintro v1 m1 u1
      have c2 : CpS [147, 146, 151, 150, 137, 127] l1 l2 M m1 := c1.step u1 (by decide) rfl
      dsimp only
      refine w_gFc (ji := 22) rfl (congrArg Prod.fst ((c2.1 126).trans (kl_126 iM))) ((c2.at (by decide)).trans (rd_Model_22 iM rfl)) ?_
      refine w_call (x_move (len := 160) ((c2.1 148).trans (kl_148 iM)) (by decide) (by decide) r_l1 r_l2 (by omega)) ?_
      rintro v2 m2 u2
      have c3 : CpS [148, 147, 146, 151, 150, 137, 127] l1 l2 M m2 := c2.step u2 (by decide) rfl
      dsimp only
      refine w_gFc (ji := 23) rfl (congrArg Prod.fst ((c3.1 126).trans (kl_126 iM))) ((c3.at (by decide)).trans (rd_Model_23 iM rfl)) ?_
      refine w_call (x_move (len := 160) ((c3.1 149).trans (kl_149 iM)) (by decide) (by decide) r_l1 r_l2 (by omega)) ?_
      rintro v3 m3 u3
      have c4 : CpS [149, 148, 147, 146, 151, 150, 137, 127] l1 l2 M m3 := c3.step u3 (by decide) rfl
      dsimp only
      refine w_gFc (ji := 2) rfl (congrArg Prod.fst ((c4.1 126).trans (kl_126 iM))) ((c4.at (by decide)).trans (rd_Model_2 iM rfl)) ?_
      refine w_call (x_move (len := 4) ((c4.1 128).trans (kl_128 iM)) (by decide) (by decide) r_l1 r_l2 (by omega)) ?_
      rintro v4 m4 u4
      have c5 : CpS [128, 149, 148, 147, 146, 151, 150, 137, 127] l1 l2 M m4 := c4.step u4 (by decide) rfl
      dsimp only
      refine w_gFc (ji := 3) rfl (congrArg Prod.fst ((c5.1 126).trans (kl_126 iM))) ((c5.at (by decide)).trans (rd_Model_3 iM rfl)) ?_
      refine w_call (x_move (len := 4) ((c5.1 129).trans (kl_129 iM)) (by decide) (by decide) r_l1 r_l2 (by omega)) ?_
      rintro v5 m5 u5
      have c6 : CpS [129, 128, 149, 148, 147, 146, 151, 150, 137, 127] l1 l2 M m5 := c5.step u5 (by decide) rfl
      dsimp only
      refine w_gFc (ji := 4) rfl (congrArg Prod.fst ((c6.1 126).trans (kl_126 iM))) ((c6.at (by decide)).trans (rd_Model_4 iM rfl)) ?_
      refine w_call (x_move (len := 4) ((c6.1 130).trans (kl_130 iM)) (by decide) (by decide) r_l1 r_l2 (by omega)) ?_
      rintro v6 m6 u6
      have c7 : CpS [130, 129, 128, 149, 148, 147, 146, 151, 150, 137, 127] l1 l2 M m6 := c6.step u6 (by decide) rfl
      dsimp only
      refine w_gFc (ji := 5) rfl (congrArg Prod.fst ((c7.1 126).trans (kl_126 iM))) ((c7.at (by decide)).trans (rd_Model_5 iM rfl)) ?_
      refine w_call (x_move (len := 4) ((c7.1 131).trans (kl_131 iM)) (by decide) (by decide) r_l1 r_l2 (by omega)) ?_
      rintro v7 m7 u7
      have c8 : CpS [131, 130, 129, 128, 149, 148, 147, 146, 151, 150, 137, 127] l1 l2 M m7 := c7.step u7 (by decide) rfl
      dsimp only
      refine w_gFc (ji := 6) rfl (congrArg Prod.fst ((c8.1 126).trans (kl_126 iM))) ((c8.at (by decide)).trans (rd_Model_6 iM rfl)) ?_
      refine w_call (x_move (len := 4) ((c8.1 132).trans (kl_132 iM)) (by decide) (by decide) r_l1 r_l2 (by omega)) ?_
      rintro v8 m8 u8
      have c9 : CpS [132, 131, 130, 129, 128, 149, 148, 147, 146, 151, 150, 137, 127] l1 l2 M m8 := c8.step u8 (by decide) rfl
      dsimp only
      refine w_gFc (ji := 7) rfl (congrArg Prod.fst ((c9.1 126).trans (kl_126 iM))) ((c9.at (by decide)).trans (rd_Model_7 iM rfl)) ?_
      refine w_call (x_move (len := 12) ((c9.1 133).trans (kl_133 iM)) (by decide) (by decide) r_l1 r_l2 (by omega)) ?_
      rintro v9 m9 u9
      have c10 : CpS [133, 132, 131, 130, 129, 128, 149, 148, 147, 146, 151, 150, 137, 127] l1 l2 M m9 := c9.step u9 (by decide) rfl
      dsimp only
      refine w_gFc (ji := 8) rfl (congrArg Prod.fst ((c10.1 126).trans (kl_126 iM))) ((c10.at (by decide)).trans (rd_Model_8 iM rfl)) ?_
      refine w_call (x_move (len := 4) ((c10.1 134).trans (kl_134 iM)) (by decide) (by decide) r_l1 r_l2 (by omega)) ?_
      rintro v10 m10 u10
      have c11 : CpS [134, 133, 132, 131, 130, 129, 128, 149, 148, 147, 146, 151, 150, 137, 127] l1 l2 M m10 := c10.step u10 (by decide) rfl
      dsimp only
      refine w_gFc (ji := 9) rfl (congrArg Prod.fst ((c11.1 126).trans (kl_126 iM))) ((c11.at (by decide)).trans (rd_Model_9 iM rfl)) ?_
      refine w_call (x_move (len := 16) ((c11.1 135).trans (kl_135 iM)) (by decide) (by decide) r_l1 r_l2 (by omega)) ?_
      rintro v11 m11 u11
      have c12 : CpS [135, 134, 133, 132, 131, 130, 129, 128, 149, 148, 147, 146, 151, 150, 137, 127] l1 l2 M m11 := c11.step u11 (by decide) rfl
      dsimp only
      refine w_gFc (ji := 10) rfl (congrArg Prod.fst ((c12.1 126).trans (kl_126 iM))) ((c12.at (by decide)).trans (rd_Model_10 iM rfl)) ?_
      refine w_call (x_move (len := 16) ((c12.1 136).trans (kl_136 iM)) (by decide) (by decide) r_l1 r_l2 (by omega)) ?_
      rintro v12 m12 u12
      have c13 : CpS [136, 135, 134, 133, 132, 131, 130, 129, 128, 149, 148, 147, 146, 151, 150, 137, 127] l1 l2 M m12 := c12.step u12 (by decide) rfl
      dsimp only
      refine w_gFc (ji := 12) rfl (congrArg Prod.fst ((c13.1 126).trans (kl_126 iM))) ((c13.at (by decide)).trans (rd_Model_12 iM rfl)) ?_
      refine w_call (x_move (len := 4) ((c13.1 138).trans (kl_138 iM)) (by decide) (by decide) r_l1 r_l2 (by omega)) ?_
      rintro v13 m13 u13
      have c14 : CpS [138, 136, 135, 134, 133, 132, 131, 130, 129, 128, 149, 148, 147, 146, 151, 150, 137, 127] l1 l2 M m13 := c13.step u13 (by decide) rfl
      dsimp only
      refine w_gFc (ji := 13) rfl (congrArg Prod.fst ((c14.1 126).trans (kl_126 iM))) ((c14.at (by decide)).trans (rd_Model_13 iM rfl)) ?_
      refine w_call (x_move (len := 32) ((c14.1 139).trans (kl_139 iM)) (by decide) (by decide) r_l1 r_l2 (by omega)) ?_
      rintro v14 m14 u14
      have c15 : CpS [139, 138, 136, 135, 134, 133, 132, 131, 130, 129, 128, 149, 148, 147, 146, 151, 150, 137, 127] l1 l2 M m14 := c14.step u14 (by decide) rfl
      dsimp only
      refine w_gFc (ji := 14) rfl (congrArg Prod.fst ((c15.1 126).trans (kl_126 iM))) ((c15.at (by decide)).trans (rd_Model_14 iM rfl)) ?_
      refine w_call (x_move (len := 32) ((c15.1 140).trans (kl_140 iM)) (by decide) (by decide) r_l1 r_l2 (by omega)) ?_
      rintro v15 m15 u15
      have c16 : CpS [140, 139, 138, 136, 135, 134, 133, 132, 131, 130, 129, 128, 149, 148, 147, 146, 151, 150, 137, 127] l1 l2 M m15 := c15.step u15 (by decide) rfl
      dsimp only
      refine w_gFc (ji := 15) rfl (congrArg Prod.fst ((c16.1 126).trans (kl_126 iM))) ((c16.at (by decide)).trans (rd_Model_15 iM rfl)) ?_
      refine w_call (x_move (len := 36) ((c16.1 141).trans (kl_141 iM)) (by decide) (by decide) r_l1 r_l2 (by omega)) ?_
      rintro v16 m16 u16
      have c17 : CpS [141, 140, 139, 138, 136, 135, 134, 133, 132, 131, 130, 129, 128, 149, 148, 147, 146, 151, 150, 137, 127] l1 l2 M m16 := c16.step u16 (by decide) rfl
      dsimp only
      refine w_gFc (ji := 16) rfl (congrArg Prod.fst ((c17.1 126).trans (kl_126 iM))) ((c17.at (by decide)).trans (rd_Model_16 iM rfl)) ?_
      refine w_call (x_move (len := 1440) ((c17.1 142).trans (kl_142 iM)) (by decide) (by decide) r_l1 r_l2 (by omega)) ?_
      rintro v17 m17 u17
      have c18 : CpS [142, 141, 140, 139, 138, 136, 135, 134, 133, 132, 131, 130, 129, 128, 149, 148, 147, 146, 151, 150, 137, 127] l1 l2 M m17 := c17.step u17 (by decide) rfl
      dsimp only
      refine w_gFc (ji := 17) rfl (congrArg Prod.fst ((c18.1 126).trans (kl_126 iM))) ((c18.at (by decide)).trans (rd_Model_17 iM rfl)) ?_
      refine w_call (x_move (len := 1440) ((c18.1 143).trans (kl_143 iM)) (by decide) (by decide) r_l1 r_l2 (by omega)) ?_
      rintro v18 m18 u18
      have c19 : CpS [143, 142, 141, 140, 139, 138, 136, 135, 134, 133, 132, 131, 130, 129, 128, 149, 148, 147, 146, 151, 150, 137, 127] l1 l2 M m18 := c18.step u18 (by decide) rfl
      dsimp only
      refine w_gFc (ji := 18) rfl (congrArg Prod.fst ((c19.1 126).trans (kl_126 iM))) ((c19.at (by decide)).trans (rd_Model_18 iM rfl)) ?_
      refine w_call (x_move (len := 1440) ((c19.1 144).trans (kl_144 iM)) (by decide) (by decide) r_l1 r_l2 (by omega)) ?_
      rintro v19 m19 u19
      have c20 : CpS [144, 143, 142, 141, 140, 139, 138, 136, 135, 134, 133, 132, 131, 130, 129, 128, 149, 148, 147, 146, 151, 150, 137, 127] l1 l2 M m19 := c19.step u19 (by decide) rfl
      dsimp only
      refine w_gFc (ji := 19) rfl (congrArg Prod.fst ((c20.1 126).trans (kl_126 iM))) ((c20.at (by decide)).trans (rd_Model_19 iM rfl)) ?_
      refine w_call (x_move (len := 1440) ((c20.1 145).trans (kl_145 iM)) (by decide) (by decide) r_l1 r_l2 (by omega)) ?_
      rintro v20 m20 u20
      have c21 : CpS [145, 144, 143, 142, 141, 140, 139, 138, 136, 135, 134, 133, 132, 131, 130, 129, 128, 149, 148, 147, 146, 151, 150, 137, 127] l1 l2 M m20 := c20.step u20 (by decide) rfl
      dsimp only
      exact w_ret c21
    · have w1 := wI_id (x := 4 * l1) (by omega) (by omega)
      have w2 := wI_id (x := 4 * l2) (by omega) (by omega)
      have w3 := wI_id (x := 4 * l1 + l3) (by omega) (by omega)
      have w4 := wI_id (x := 4 * l2 + l3) (by omega) (by omega)
      have w5 := wI_id (x := l3 + 1) (by omega) (by omega)
      rw [w1, w2, w3, w4, w5]
      have k6 : mK M' 126 = (9, 0) := ((u.1 126).trans (c.1 126)).trans (kl_126 iM)
      have k7 : mK M' 151 = (11, 16) := ((u.1 151).trans (c.1 151)).trans (kl_151 iM)
      have k8 : mG M' 126 25 = 151 := by rw [u.2.2, if_neg (fun z => absurd z.1 (by decide)), c.at (by decide)]; exact rd_Model_25 iM rfl
      refine w_gFc (ji := 25) rfl (congrArg Prod.fst k6) k8 ?_
      refine w_gFc (ji := 25) rfl (congrArg Prod.fst k6) k8 ?_
      refine w_aG k7 (by omega) (by omega) (fun x hx => ?_)
      have rx := rd_MholdsPlace (i := 4 * l1 + l3) iM (a := 151) rfl
      have sx : mG M' 151 (4 * l1 + l3) = mG M 151 (4 * l1 + l3) := (u.src (by omega) (by omega) b0 (by omega)).trans (c.at (by decide))
      rw [← sx, hx.e] at rx
      refine w_aSZ k7 (by omega) (by omega) (by omega) (fun M2 hM2 => ?_)
      exact ih _ M1 M2 c (u.st (by omega) b0 (by omega) hx.e hM2) (by omega) (by omega) (by have : ((fu + 1 : Nat) : Int) = (fu : Int) + 1 := rfl; omega)
theorem x_cp_77 (r_l1 : 0 ≤ l1 ∧ l1 ≤ 3) (r_l2 : 0 ≤ l2 ∧ l2 ≤ 3) (hne : ¬ l1 = l2) (iM : I n M) : ∀ (fu : Nat) (l3 : Int) (M1 M' : Mem), CpS [137, 127] l1 l2 M M1 → CpU 150 144 l1 l2 l3 M1 M' → 0 ≤ l3 → l3 ≤ 144 → 144 - l3 < (fu : Int) → wp (mX9_copy_77 fu 126 l1 l2 l3 M') (fun q => CpS L25 l1 l2 M q.2) := by
  intro fu
  induction fu with
  | zero => intro l3 M1 M' _ _ b0 b1 hf; exfalso; omega
  | succ fu ih =>
    intro l3 M1 M' c u b0 b1 hf
    show wp (bX9_copy_77 (mX9_copy_77 fu) 126 l1 l2 l3 M') _
    unfold bX9_copy_77
    refine w_if (fun d => ?_) (fun d => ?_)
    · have e : l3 = 144 := by omega
      subst e
      have c0 : CpS [150, 137, 127] l1 l2 M M' := c.step u (by decide) rfl
      exact x_cp_116 r_l1 r_l2 hne iM FU 0 M' M' c0 CpU.z (by decide) (by decide) (by show _ < (70000 : Int); omega)
    · have w1 := wI_id (x := 144 * l1) (by omega) (by omega)
      have w2 := wI_id (x := 144 * l2) (by omega) (by omega)
      have w3 := wI_id (x := 144 * l1 + l3) (by omega) (by omega)
      have w4 := wI_id (x := 144 * l2 + l3) (by omega) (by omega)
      have w5 := wI_id (x := l3 + 1) (by omega) (by omega)
      rw [w1, w2, w3, w4, w5]
      have k6 : mK M' 126 = (9, 0) := ((u.1 126).trans (c.1 126)).trans (kl_126 iM)
      have k7 : mK M' 150 = (11, 576) := ((u.1 150).trans (c.1 150)).trans (kl_150 iM)
      have k8 : mG M' 126 24 = 150 := by rw [u.2.2, if_neg (fun z => absurd z.1 (by decide)), c.at (by decide)]; exact rd_Model_24 iM rfl
      refine w_gFc (ji := 24) rfl (congrArg Prod.fst k6) k8 ?_
      refine w_gFc (ji := 24) rfl (congrArg Prod.fst k6) k8 ?_
      refine w_aG k7 (by omega) (by omega) (fun x hx => ?_)
      have rx := rd_Mheld (i := 144 * l1 + l3) iM (a := 150) rfl
      have sx : mG M' 150 (144 * l1 + l3) = mG M 150 (144 * l1 + l3) := (u.src (by omega) (by omega) b0 (by omega)).trans (c.at (by decide))
      rw [← sx, hx.e] at rx
      refine w_aSZ k7 (by omega) (by omega) (by omega) (fun M2 hM2 => ?_)
      exact ih _ M1 M2 c (u.st (by omega) b0 (by omega) hx.e hM2) (by omega) (by omega) (by have : ((fu + 1 : Nat) : Int) = (fu : Int) + 1 := rfl; omega)
theorem x_cp_41 (r_l1 : 0 ≤ l1 ∧ l1 ≤ 3) (r_l2 : 0 ≤ l2 ∧ l2 ≤ 3) (hne : ¬ l1 = l2) (iM : I n M) : ∀ (fu : Nat) (l3 : Int) (M1 M' : Mem), CpS [127] l1 l2 M M1 → CpU 137 36 l1 l2 l3 M1 M' → 0 ≤ l3 → l3 ≤ 36 → 36 - l3 < (fu : Int) → wp (mX9_copy_41 fu 126 l1 l2 l3 M') (fun q => CpS L25 l1 l2 M q.2) := by
  intro fu
  induction fu with
  | zero => intro l3 M1 M' _ _ b0 b1 hf; exfalso; omega
  | succ fu ih =>
    intro l3 M1 M' c u b0 b1 hf
    show wp (bX9_copy_41 (mX9_copy_41 fu) 126 l1 l2 l3 M') _
    unfold bX9_copy_41
    refine w_if (fun d => ?_) (fun d => ?_)
    · have e : l3 = 36 := by omega
      subst e
      have c0 : CpS [137, 127] l1 l2 M M' := c.step u (by decide) rfl
      exact x_cp_77 r_l1 r_l2 hne iM FU 0 M' M' c0 CpU.z (by decide) (by decide) (by show _ < (70000 : Int); omega)
    · have w1 := wI_id (x := 36 * l1) (by omega) (by omega)
      have w2 := wI_id (x := 36 * l2) (by omega) (by omega)
      have w3 := wI_id (x := 36 * l1 + l3) (by omega) (by omega)
      have w4 := wI_id (x := 36 * l2 + l3) (by omega) (by omega)
      have w5 := wI_id (x := l3 + 1) (by omega) (by omega)
      rw [w1, w2, w3, w4, w5]
      have k6 : mK M' 126 = (9, 0) := ((u.1 126).trans (c.1 126)).trans (kl_126 iM)
      have k7 : mK M' 137 = (11, 144) := ((u.1 137).trans (c.1 137)).trans (kl_137 iM)
      have k8 : mG M' 126 11 = 137 := by rw [u.2.2, if_neg (fun z => absurd z.1 (by decide)), c.at (by decide)]; exact rd_Model_11 iM rfl
      refine w_gFc (ji := 11) rfl (congrArg Prod.fst k6) k8 ?_
      refine w_gFc (ji := 11) rfl (congrArg Prod.fst k6) k8 ?_
      refine w_aG k7 (by omega) (by omega) (fun x hx => ?_)
      have rx := rd_Mworld (i := 36 * l1 + l3) iM (a := 137) rfl
      have sx : mG M' 137 (36 * l1 + l3) = mG M 137 (36 * l1 + l3) := (u.src (by omega) (by omega) b0 (by omega)).trans (c.at (by decide))
      rw [← sx, hx.e] at rx
      refine w_aSZ k7 (by omega) (by omega) (by omega) (fun M2 hM2 => ?_)
      exact ih _ M1 M2 c (u.st (by omega) b0 (by omega) hx.e hM2) (by omega) (by omega) (by have : ((fu + 1 : Nat) : Int) = (fu : Int) + 1 := rfl; omega)
theorem x_cp_2 (r_l1 : 0 ≤ l1 ∧ l1 ≤ 3) (r_l2 : 0 ≤ l2 ∧ l2 ≤ 3) (hne : ¬ l1 = l2) (iM : I n M) : ∀ (fu : Nat) (l3 : Int) (M1 M' : Mem), CpS [] l1 l2 M M1 → CpU 127 400 l1 l2 l3 M1 M' → 0 ≤ l3 → l3 ≤ 400 → 400 - l3 < (fu : Int) → wp (mX9_copy_2 fu 126 l1 l2 l3 M') (fun q => CpS L25 l1 l2 M q.2) := by
  intro fu
  induction fu with
  | zero => intro l3 M1 M' _ _ b0 b1 hf; exfalso; omega
  | succ fu ih =>
    intro l3 M1 M' c u b0 b1 hf
    show wp (bX9_copy_2 (mX9_copy_2 fu) 126 l1 l2 l3 M') _
    unfold bX9_copy_2
    refine w_if (fun d => ?_) (fun d => ?_)
    · have e : l3 = 400 := by omega
      subst e
      have c0 : CpS [127] l1 l2 M M' := c.step u (by decide) rfl
      exact x_cp_41 r_l1 r_l2 hne iM FU 0 M' M' c0 CpU.z (by decide) (by decide) (by show _ < (70000 : Int); omega)
    · have w1 := wI_id (x := 400 * l1) (by omega) (by omega)
      have w2 := wI_id (x := 400 * l2) (by omega) (by omega)
      have w3 := wI_id (x := 400 * l1 + l3) (by omega) (by omega)
      have w4 := wI_id (x := 400 * l2 + l3) (by omega) (by omega)
      have w5 := wI_id (x := l3 + 1) (by omega) (by omega)
      rw [w1, w2, w3, w4, w5]
      have k6 : mK M' 126 = (9, 0) := ((u.1 126).trans (c.1 126)).trans (kl_126 iM)
      have k7 : mK M' 127 = (12, 1600) := ((u.1 127).trans (c.1 127)).trans (kl_127 iM)
      have k8 : mG M' 126 1 = 127 := by rw [u.2.2, if_neg (fun z => absurd z.1 (by decide)), c.at (by decide)]; exact rd_Model_1 iM rfl
      refine w_gFc (ji := 1) rfl (congrArg Prod.fst k6) k8 ?_
      refine w_gFc (ji := 1) rfl (congrArg Prod.fst k6) k8 ?_
      refine w_aG k7 (by omega) (by omega) (fun x hx => ?_)
      have rx := rd_Mtape (i := 400 * l1 + l3) iM (a := 127) rfl
      have sx : mG M' 127 (400 * l1 + l3) = mG M 127 (400 * l1 + l3) := (u.src (by omega) (by omega) b0 (by omega)).trans (c.at (by decide))
      rw [← sx, hx.e] at rx
      refine w_aSB k7 (by omega) (by omega) (by omega) (fun M2 hM2 => ?_)
      exact ih _ M1 M2 c (u.st (by omega) b0 (by omega) hx.e hM2) (by omega) (by omega) (by have : ((fu + 1 : Nat) : Int) = (fu : Int) + 1 := rfl; omega)
theorem x_copy (r_l1 : 0 ≤ l1 ∧ l1 ≤ 3) (r_l2 : 0 ≤ l2 ∧ l2 ≤ 3) (hne : ¬ l1 = l2) (iM : I n M) : wp (mX9_copy 126 l1 l2 M) (fun q => CpS L25 l1 l2 M q.2) := by
  unfold mX9_copy
  exact x_cp_2 r_l1 r_l2 hne iM FU 0 M M ⟨fun _ => rfl, rfl, fun b j => by rw [if_neg (fun z => absurd z.1 (List.not_mem_nil))]⟩ CpU.z (by decide) (by decide) (by show _ < (70000 : Int); omega)
theorem L25_m {b : Int} (h : b ∈ L25) : 127 ≤ b ∧ b ≤ 151 := by
  have : ∀ b ∈ L25, 127 ≤ b ∧ b ≤ 151 := by decide
  exact this b h
theorem CpS.keep {W : Int → Int → Prop} {M0 M' : Mem} (c : CpS L25 l1 l2 M M') (k : Keep n W M0 M) (hw : ∀ b j, 127 ≤ b → b ≤ 151 → W b j) : Keep n W M0 M' :=
  ⟨fun b hb => (c.1 b).trans (k.1 b hb), by rw [c.2.1]; exact k.2.1, fun b j hb hn => by
    rw [c.at (fun z => hn (hw b j (L25_m z).1 (L25_m z).2))]; exact k.2.2 b j hb hn⟩
theorem L25_c {b : Int} {P : Int → Prop} (h : b ∈ L25) (h127 : P 127) (h128 : P 128) (h129 : P 129) (h130 : P 130) (h131 : P 131) (h132 : P 132) (h133 : P 133) (h134 : P 134) (h135 : P 135) (h136 : P 136) (h137 : P 137) (h138 : P 138) (h139 : P 139) (h140 : P 140) (h141 : P 141) (h142 : P 142) (h143 : P 143) (h144 : P 144) (h145 : P 145) (h146 : P 146) (h147 : P 147) (h148 : P 148) (h149 : P 149) (h150 : P 150) (h151 : P 151) : P b := by
  unfold L25 at h
  simp only [List.mem_cons, List.not_mem_nil, or_false] at h
  rcases h with rfl | rfl | rfl | rfl | rfl | rfl | rfl | rfl | rfl | rfl | rfl | rfl | rfl | rfl | rfl | rfl | rfl | rfl | rfl | rfl | rfl | rfl | rfl | rfl | rfl <;> assumption
theorem CpS.inv {M' : Mem} (c : CpS L25 l1 l2 M M') (r_l1 : 0 ≤ l1 ∧ l1 ≤ 3) (r_l2 : 0 ≤ l2 ∧ l2 ≤ 3) (iM : I n M) (hs : ∀ j : Int, 0 ≤ j → j < 3 → 1 ≤ mG M 133 (3 * l1 + j)) : I n M' := by
  obtain ⟨h1, h2, ⟨h3, h4, h5⟩, h6, h7, h8⟩ := id iM
  have g : ∀ b j : Int, b < 127 ∨ 151 < b → mG M' b j = mG M b j := fun b j hb => c.at (fun z => by have := L25_m z; omega)
  have tx : ∀ t : Int, TX n M t → TX n M' t := fun t ht => ht.of (Nat.le_refl _) (fun b _ _ => c.1 b) (fun b j hb _ => g b j (by omega))
  refine ⟨fun b hb => by rw [c.1]; exact h1 b hb, fun b j => ?_, ⟨fun t j ht hj hj2 => ?_, fun t ht => ?_, ?_⟩, by rw [c.2.1]; exact h6, h7, ?_⟩
  · rw [c.2.2]
    split
    · rename_i z
      obtain ⟨z1, z2, z3⟩ := z
      revert z2 z3
      refine L25_c (P := fun b => rlen b * l2 ≤ j → j < rlen b * l2 + rlen b → okf (fam b) b j (mG M b (rlen b * l1 + (j - rlen b * l2)))) z1 (fun _ _ => rd_Mtape iM (a := 127) rfl) (fun _ _ => rd_Msize iM (a := 128) rfl) (fun _ _ => rd_Mfault iM (a := 129) rfl) (fun _ _ => rd_MfaultPlace iM (a := 130) rfl) (fun _ _ => rd_Mdays iM (a := 131) rfl) (fun _ _ => rd_Mviewed iM (a := 132) rfl) (fun z2 z3 => ?_) (fun _ _ => rd_Mrelations iM (a := 134) rfl) (fun _ _ => rd_MfirstKind iM (a := 135) rfl) (fun _ _ => rd_MsecondKind iM (a := 136) rfl) (fun _ _ => rd_Mworld iM (a := 137) rfl) (fun _ _ => rd_Mstories iM (a := 138) rfl) (fun _ _ => rd_MstoryDay iM (a := 139) rfl) (fun _ _ => rd_MstruckDay iM (a := 140) rfl) (fun _ _ => rd_Mparts iM (a := 141) rfl) (fun _ _ => rd_Mact iM (a := 142) rfl) (fun _ _ => rd_Mone iM (a := 143) rfl) (fun _ _ => rd_Mtwo iM (a := 144) rfl) (fun _ _ => rd_Mthree iM (a := 145) rfl) (fun _ _ => rd_Mknowns iM (a := 146) rfl) (fun _ _ => rd_MknownOf iM (a := 147) rfl) (fun _ _ => rd_MknownIs iM (a := 148) rfl) (fun _ _ => rd_MknownDay iM (a := 149) rfl) (fun _ _ => rd_Mheld iM (a := 150) rfl) (fun _ _ => rd_MholdsPlace iM (a := 151) rfl)
      have z2 : 3 * l2 ≤ j := z2
      have z3 : j < 3 * l2 + 3 := z3
      have r := rd_Msizes (i := 3 * l1 + (j - 3 * l2)) iM (a := 133) rfl
      refine (show 0 ≤ mG M 133 (3 * l1 + (j - 3 * l2)) ∧ mG M 133 (3 * l1 + (j - 3 * l2)) ≤ 3 ∧ (0 ≤ j → j < 3 → 1 ≤ mG M 133 (3 * l1 + (j - 3 * l2))) from ⟨r.1, r.2.1, fun y0 y1 => hs _ (by omega) (by omega)⟩)
    · exact h2 b j
  · have : t ≤ 109 := by unfold isTold at ht; omega
    rw [g _ _ (by omega)]; exact tx _ (h3 t j ht hj hj2)
  · have : t ≤ 109 := by unfold isTold at ht; omega
    rw [g _ _ (by omega)]; exact tx _ (h4 t ht)
  · rw [g _ _ (by omega)]; exact tx _ h5
  · intro k k0 k1 hk j j0 j1
    rw [g _ _ (by omega)] at hk
    have rl : rlen 133 = 3 := rfl
    rw [c.2.2, rl]
    split
    · rename_i z
      have e : k + 1 = l2 := by omega
      subst e
      rw [show 3 * l1 + (3 * (k + 1) + j - 3 * (k + 1)) = 3 * l1 + j by omega]
      exact hs j j0 j1
    · exact h8 k k0 k1 hk j j0 j1
theorem CpS.get {M' : Mem} (c : CpS L25 l1 l2 M M') {b N j : Int} (hb : b ∈ L25) (hN : rlen b = N) (h0 : 0 ≤ j) (h1 : j < N) : mG M' b (N * l2 + j) = mG M b (N * l1 + j) := by
  subst hN
  rw [c.2.2, if_pos ⟨hb, by omega, by omega⟩]
  congr 1; omega
theorem CpS.oth {M' : Mem} (c : CpS L25 l1 l2 M M') {b N j : Int} (hN : rlen b = N) (h : j < N * l2 ∨ N * l2 + N ≤ j) : mG M' b j = mG M b j := by
  subst hN
  rw [c.2.2, if_neg (fun z => by omega)]
theorem CpS.wf {M' : Mem} (c : CpS L25 l1 l2 M M') (r_l1 : 0 ≤ l1 ∧ l1 ≤ 3) (r_l2 : 0 ≤ l2 ∧ l2 ≤ 3) (iM : I n M) (wf : WF M) : WF M' := by
  have rp : ∀ t, 0 ≤ mG M 141 t ∧ mG M 141 t ≤ 40 := fun t => rd_Mparts iM (a := 141) rfl
  have rs : ∀ t, 0 ≤ mG M 138 t ∧ mG M 138 t ≤ 8 := fun t => rd_Mstories iM (a := 138) rfl
  refine ⟨fun t t0 t1 => ?_, fun i i0 i1 s s0 s1 => ?_⟩
  · by_cases e : 9 * l2 ≤ t ∧ t < 9 * l2 + 9
    · obtain ⟨d, rfl⟩ : ∃ d, t = 9 * l2 + d := ⟨t - 9 * l2, by omega⟩
      have h := wf.1 (9 * l1 + d) (by omega) (by omega)
      have p := rp (9 * l1 + d)
      refine WFt_of h (c.get (by decide) rfl (by omega) (by omega)) (fun k hk => ?_)
      have z : ∀ b : Int, b ∈ L25 → rlen b = 360 → mG M' b (40 * (9 * l2 + d) + k) = mG M b (40 * (9 * l1 + d) + k) := fun b hb hN => by
        have y := c.get (j := 40 * d + k) hb hN (by omega) (by omega)
        rw [show 40 * (9 * l2 + d) + (k : Int) = 360 * l2 + (40 * d + k) by omega, show 40 * (9 * l1 + d) + (k : Int) = 360 * l1 + (40 * d + k) by omega]
        exact y
      exact ⟨z 142 (by decide) rfl, z 143 (by decide) rfl, z 144 (by decide) rfl⟩
    · have p := rp t
      refine WFt_of (wf.1 t t0 t1) (c.oth (N := 9) rfl (by omega)) (fun k hk => ⟨c.oth (N := 360) rfl (by omega), c.oth (N := 360) rfl (by omega), c.oth (N := 360) rfl (by omega)⟩)
  · by_cases e : i = l2
    · subst e
      have g := c.get (b := 138) (N := 1) (j := 0) (by decide) rfl (by decide) (by decide)
      rw [show 1 * i + 0 = i by omega, show 1 * l1 + 0 = l1 by omega] at g
      rw [g] at s1
      have q := rs l1
      rw [c.get (b := 141) (N := 9) (by decide) rfl s0 (by omega)]
      exact wf.2 l1 r_l1.1 (by omega) s s0 s1
    · rw [c.oth (b := 138) (N := 1) rfl (by omega)] at s1
      have q := rs i
      rw [c.oth (b := 141) (N := 9) rfl (by omega)]
      exact wf.2 i i0 i1 s s0 s1
/-- what an image of the reference's is -/
theorem x_image (iM : I n M) : wp (mX9_image 126 l1 M) (fun q => ∃ M1, M1 = mS M 126 0 0 ∧ ((q.1 = 0 ∧ ¬ (0 ≤ l1 ∧ l1 ≤ 2) ∧ q.2 = M1) ∨ (q.1 = 1 ∧ (0 ≤ l1 ∧ l1 ≤ 2) ∧ ∃ M2, CpS L25 0 (l1 + 1) M1 M2 ∧ q.2 = mS M2 169 l1 1))) := by
  unfold mX9_image
  refine w_pF (ji := 0) rfl (congrArg Prod.fst (kl_126 iM)) (fun M2 hM2 => ?_)
  have iM2 : I n M2 := wr_Model_0 iM rfl ⟨by omega, by omega⟩ hM2
  refine w_call x_in ?_
  rintro v8 m8 ⟨e8, q8⟩
  have e8 : m8 = M2 := e8
  have q8 : (v8 = 1 ∧ 0 ≤ l1 ∧ l1 ≤ 2) ∨ (v8 = 0 ∧ ¬ (0 ≤ l1 ∧ l1 ≤ 2)) := q8
  subst e8
  dsimp only
  refine w_if (fun c => ?_) (fun c => ?_)
  · exact w_ret ⟨m8, hM2, Or.inl ⟨rfl, by omega, rfl⟩⟩
  · have w1 := wI_id (x := l1 + 1) (by omega) (by omega)
    rw [w1]
    refine w_gK (congrArg Prod.fst (kl_126 iM2)) ?_
    refine w_call (x_copy (by omega) (by omega) (by omega) iM2) ?_
    rintro v21 m21 c21
    have c21 : CpS L25 0 (l1 + 1) m8 m21 := c21
    dsimp only
    refine w_gFc (ji := 62) rfl (congrArg Prod.fst ((c21.1 126).trans (kl_126 iM2))) ((c21.at (by decide)).trans (rd_Model_62 iM2 rfl)) ?_
    refine w_aSZ ((c21.1 169).trans (kl_169 iM2)) (by omega) (by omega) (Or.inr rfl) (fun M30 hM30 => ?_)
    exact w_ret ⟨m8, hM2, Or.inr ⟨rfl, by omega, m21, c21, hM30⟩⟩
theorem x_again (iM : I n M) : wp (mX9_again 126 l1 M) (fun q => ∃ M1, M1 = mS M 126 0 0 ∧ ((q.1 = 0 ∧ ¬ (0 ≤ l1 ∧ l1 ≤ 2 ∧ mG M 169 l1 = 1) ∧ q.2 = M1) ∨ (q.1 = 1 ∧ (0 ≤ l1 ∧ l1 ≤ 2 ∧ mG M 169 l1 = 1) ∧ CpS L25 (l1 + 1) 0 M1 q.2))) := by
  unfold mX9_again
  refine w_pF (ji := 0) rfl (congrArg Prod.fst (kl_126 iM)) (fun M2 hM2 => ?_)
  have iM2 : I n M2 := wr_Model_0 iM rfl ⟨by omega, by omega⟩ hM2
  refine w_call x_in ?_
  rintro v8 m8 ⟨e8, q8⟩
  have e8 : m8 = M2 := e8
  have q8 : (v8 = 1 ∧ 0 ≤ l1 ∧ l1 ≤ 2) ∨ (v8 = 0 ∧ ¬ (0 ≤ l1 ∧ l1 ≤ 2)) := q8
  subst e8
  dsimp only
  refine w_if (fun c => ?_) (fun c => ?_)
  · exact w_ret ⟨m8, hM2, Or.inl ⟨rfl, by omega, rfl⟩⟩
  · have w1 := wI_id (x := l1 + 1) (by omega) (by omega)
    rw [w1]
    refine w_gFc (ji := 62) rfl (congrArg Prod.fst (kl_126 iM2)) (rd_Model_62 iM2 rfl) ?_
    refine w_aG (kl_169 iM2) (by omega) (by omega) (fun a19 h19 => ?_)
    have r19 := h19.tr (P := fun z => 0 ≤ z ∧ z ≤ 1) (rd_Mkept iM2 rfl)
    have e19 : mG M 169 l1 = a19 := by rw [← h19.e]; exact (st_ne hM2 (fun z => absurd z.1 (by decide))).symm
    refine w_if (fun c2 => ?_) (fun c2 => ?_)
    · exact w_ret ⟨m8, hM2, Or.inl ⟨rfl, by omega, rfl⟩⟩
    · refine w_gK (congrArg Prod.fst (kl_126 iM2)) ?_
      refine w_call (x_copy (by omega) (by omega) (by omega) iM2) ?_
      rintro v30 m30 c30
      have c30 : CpS L25 (l1 + 1) 0 m8 m30 := c30
      exact w_ret ⟨m8, hM2, Or.inr ⟨rfl, by omega, c30⟩⟩
theorem s_X9_image (iM : I n M) (wf : WF M) : wp (mX9_image 126 l1 M) (fun q => I n q.2 ∧ Keep n W_X9_image M q.2 ∧ WF q.2) := by
  refine w_mono (x_image iM) ?_
  rintro ⟨r, M'⟩ ⟨M1, h1, h⟩
  have i1 : I n M1 := wr_Model_0 iM rfl ⟨by omega, by omega⟩ h1
  have k1 : Keep n W_X9_image M M1 := Keep.rf.st h1 (Or.inl (Or.inr (Or.inr ⟨rfl, rfl⟩)))
  have g1 : ∀ b j : Int, ¬ b = 126 → mG M1 b j = mG M b j := fun b j hb => st_ne h1 (fun z => hb z.1)
  have wf1 : WF M1 := WF_of wf (fun j => g1 _ _ (by decide)) (fun j => g1 _ _ (by decide)) (fun j => g1 _ _ (by decide)) (fun j => g1 _ _ (by decide)) (fun j => g1 _ _ (by decide))
  rcases h with ⟨e0, e1, e2⟩ | ⟨e0, e1, M2, c, e2⟩
  · have e2 : M' = M1 := e2
    subst e2
    exact ⟨i1, k1, wf1⟩
  · have e2 : M' = mS M2 169 l1 1 := e2
    have hs : ∀ j : Int, 0 ≤ j → j < 3 → 1 ≤ mG M1 133 (3 * 0 + j) := fun j j0 j1 => (rd_Msizes (i := 3 * 0 + j) i1 (a := 133) rfl).2.2 (by omega) (by omega)
    have i2 : I n M2 := c.inv (by decide) (by omega) i1 hs
    have k2 : Keep n W_X9_image M M2 := c.keep k1 (fun b j b0 b1 => Or.inl ⟨b0, b1⟩)
    have w2 : WF M2 := c.wf (by decide) (by omega) i1 wf1
    have g2 : ∀ b j : Int, ¬ b = 169 → mG M' b j = mG M2 b j := fun b j hb => st_ne e2 (fun z => hb z.1)
    refine ⟨wr_Mkept i2 rfl (by decide) ?_ e2, k2.st e2 (Or.inl (Or.inr (Or.inl rfl))), WF_of w2 (fun j => g2 _ _ (by decide)) (fun j => g2 _ _ (by decide)) (fun j => g2 _ _ (by decide)) (fun j => g2 _ _ (by decide)) (fun j => g2 _ _ (by decide))⟩
    intro k k0 k1 hk j j0 j1
    rw [g2 _ _ (by decide)]
    by_cases e : k = l1
    · subst e
      rw [c.get (b := 133) (N := 3) (by decide) rfl j0 j1]
      exact hs j j0 j1
    · rw [st_ne e2 (fun z => e z.2)] at hk
      exact i2.2.2.2.2.2 k k0 k1 hk j j0 j1
theorem s_X9_again (iM : I n M) (wf : WF M) : wp (mX9_again 126 l1 M) (fun q => I n q.2 ∧ Keep n W_X9_again M q.2 ∧ WF q.2) := by
  refine w_mono (x_again iM) ?_
  rintro ⟨r, M'⟩ ⟨M1, h1, h⟩
  have i1 : I n M1 := wr_Model_0 iM rfl ⟨by omega, by omega⟩ h1
  have k1 : Keep n W_X9_again M M1 := Keep.rf.st h1 (Or.inl (Or.inr ⟨rfl, rfl⟩))
  have g1 : ∀ b j : Int, ¬ b = 126 → mG M1 b j = mG M b j := fun b j hb => st_ne h1 (fun z => hb z.1)
  have wf1 : WF M1 := WF_of wf (fun j => g1 _ _ (by decide)) (fun j => g1 _ _ (by decide)) (fun j => g1 _ _ (by decide)) (fun j => g1 _ _ (by decide)) (fun j => g1 _ _ (by decide))
  rcases h with ⟨e0, e1, e2⟩ | ⟨e0, e1, c⟩
  · have e2 : M' = M1 := e2
    subst e2
    exact ⟨i1, k1, wf1⟩
  · have c : CpS L25 (l1 + 1) 0 M1 M' := c
    have hs : ∀ j : Int, 0 ≤ j → j < 3 → 1 ≤ mG M1 133 (3 * (l1 + 1) + j) := fun j j0 j1 => i1.2.2.2.2.2 l1 e1.1 (by omega) (by rw [g1 _ _ (by decide)]; exact e1.2.2) j j0 j1
    exact ⟨c.inv (by omega) (by decide) i1 hs, c.keep k1 (fun b j b0 b1 => Or.inl ⟨b0, b1⟩), c.wf (by omega) (by decide) i1 wf1⟩
end
