theorem p_aC {β : Type} {Q : β → Prop} {M : Mem} {t : Nat} {a0 sp a dp n : Int} {f : Mem → Option β} (k : ∀ M', M' = mC M a0 sp a dp n → pw (f M') Q) : pw ((aC t M a0 sp a dp n).bind f) Q := by
  unfold aC; split
  · exact k _ rfl
  · exact p_none
theorem p_aCZ {β : Type} {Q : β → Prop} {M : Mem} {t : Nat} {a0 sp a dp n : Int} {f : Mem → Option β} (k : ∀ M', M' = mC M a0 sp a dp n → pw (f M') Q) : pw ((aCZ t M a0 sp a dp n).bind f) Q := by
  unfold aCZ; split
  · exact k _ rfl
  · exact p_none
theorem p_aSR {β : Type} {Q : β → Prop} {M : Mem} {t : Nat} {a i x : Int} {f : Mem → Option β} (k : ∀ M', M' = mS M a i x → pw (f M') Q) : pw ((aSR t M a i x).bind f) Q := by
  unfold aSR; split
  · exact k _ rfl
  · exact p_none
/-! ===== the class: copies, the tape, days ===== -/
theorem pl_scopy {a b : Int} {M : Mem} (ga : SG a M) (gb : SG b M) (hab : a + 6 < b ∨ b + 6 < a) : pw (mX3_copy a b M) (fun q => LO a q.2 ∧ (∀ j : Int, 0 ≤ j → j < 3 → mG q.2 (a + 1) j = mG M (b + 1) j) ∧ (∀ j : Int, 0 ≤ j → j < 4 → mG q.2 (a + 2) j = mG M (b + 2) j ∧ mG q.2 (a + 3) j = mG M (b + 3) j) ∧ mG q.2 a 6 = mG M b 6 ∧ ∀ c j : Int, ¬ (a ≤ c ∧ c ≤ a + 6) → mG q.2 c j = mG M c j) := by
  have c0 := (ga.1 0 (by decide) (by decide)).trans (show a + 1 + 0 = a + 1 by omega)
  have c1 := (ga.1 1 (by decide) (by decide)).trans (show a + 1 + 1 = a + 2 by omega)
  have c2 := (ga.1 2 (by decide) (by decide)).trans (show a + 1 + 2 = a + 3 by omega)
  have b0 := (gb.1 0 (by decide) (by decide)).trans (show b + 1 + 0 = b + 1 by omega)
  have b1 := (gb.1 1 (by decide) (by decide)).trans (show b + 1 + 1 = b + 2 by omega)
  have b2 := (gb.1 2 (by decide) (by decide)).trans (show b + 1 + 2 = b + 3 by omega)
  have d (k : Int) (h : ¬ k = 0) : ¬ a = a + k := by omega
  have e0 (k l : Int) (h : ¬ k = l) : ¬ a + k = a + l := by omega
  have n0 (k : Int) (h0 : 0 ≤ k) (h1 : k ≤ 6) : ¬ b = a + k := by omega
  have n1 (k l : Int) (h0 : 0 ≤ k ∧ k ≤ 6) (h1 : 0 ≤ l ∧ l ≤ 6) : ¬ b + l = a + k := by omega
  unfold mX3_copy
  refine p_gFc (ji := 0) rfl b0 (p_gFc (ji := 0) rfl c0 (p_aC (fun M1 h1 => ?_)))
  have ga1 : ∀ j, mG M1 a j = mG M a j := fun j => cp_ne h1 (d 1 (by decide))
  have gb1 : ∀ j, mG M1 b j = mG M b j := fun j => cp_ne h1 (n0 1 (by decide) (by decide))
  refine p_gFc (ji := 1) rfl ((gb1 _).trans b1) (p_gFc (ji := 1) rfl ((ga1 _).trans c1) (p_aC (fun M2 h2 => ?_)))
  have ga2 : ∀ j, mG M2 a j = mG M a j := fun j => (cp_ne h2 (d 2 (by decide))).trans (ga1 j)
  have gb2 : ∀ j, mG M2 b j = mG M b j := fun j => (cp_ne h2 (n0 2 (by decide) (by decide))).trans (gb1 j)
  refine p_gFc (ji := 2) rfl ((gb2 _).trans b2) (p_gFc (ji := 2) rfl ((ga2 _).trans c2) (p_aC (fun M3 h3 => ?_)))
  have ga3 : ∀ j, mG M3 a j = mG M a j := fun j => (cp_ne h3 (d 3 (by decide))).trans (ga2 j)
  have gb3 : ∀ j, mG M3 b j = mG M b j := fun j => (cp_ne h3 (n0 3 (by decide) (by decide))).trans (gb2 j)
  refine p_gFc (ji := 6) rfl (gb3 6) (p_pF (ji := 6) rfl (fun M4 h4 => p_gK ?_))
  have v1 : ∀ j, mG M4 (a + 1) j = if 0 ≤ j ∧ j < 3 then mG M (b + 1) j else mG M (a + 1) j := fun j => by
    rw [st_ne h4 (fun z => d 1 (by decide) z.1.symm), cp_ne h3 (e0 1 3 (by decide)), cp_ne h2 (e0 1 2 (by decide)), cp_g h1]
    by_cases e : 0 ≤ j ∧ j < 3
    · rw [if_pos ⟨rfl, e.1, by omega⟩, if_pos e]; congr 1; omega
    · rw [if_neg (fun z => e ⟨z.2.1, by omega⟩), if_neg e]
  have v2 : ∀ j, mG M4 (a + 2) j = if 0 ≤ j ∧ j < 4 then mG M (b + 2) j else mG M (a + 2) j := fun j => by
    rw [st_ne h4 (fun z => d 2 (by decide) z.1.symm), cp_ne h3 (e0 2 3 (by decide)), cp_g h2]
    by_cases e : 0 ≤ j ∧ j < 4
    · rw [if_pos ⟨rfl, e.1, by omega⟩, if_pos e, cp_ne h1 (n1 1 2 (by decide) (by decide))]; congr 1; omega
    · rw [if_neg (fun z => e ⟨z.2.1, by omega⟩), if_neg e, cp_ne h1 (e0 2 1 (by decide))]
  have v3 : ∀ j, mG M4 (a + 3) j = if 0 ≤ j ∧ j < 4 then mG M (b + 3) j else mG M (a + 3) j := fun j => by
    rw [st_ne h4 (fun z => d 3 (by decide) z.1.symm), cp_g h3]
    by_cases e : 0 ≤ j ∧ j < 4
    · rw [if_pos ⟨rfl, e.1, by omega⟩, if_pos e, cp_ne h2 (n1 2 3 (by decide) (by decide)), cp_ne h1 (n1 1 3 (by decide) (by decide))]; congr 1; omega
    · rw [if_neg (fun z => e ⟨z.2.1, by omega⟩), if_neg e, cp_ne h2 (e0 3 2 (by decide)), cp_ne h1 (e0 3 1 (by decide))]
  have g4 : ∀ j, ¬ j = 6 → mG M4 a j = mG M a j := fun j hj => (st_ne h4 (fun z => hj z.2)).trans (ga3 j)
  have sg : SG a M4 := by
    refine ⟨fun k k0 k1 => (g4 k (by omega)).trans (ga.1 k k0 k1), by rw [st_eq h4]; exact gb.2.1, fun k k0 k1 => ?_, fun r => ?_, fun r => ?_⟩
    · rw [v1, if_pos ⟨k0, k1⟩]; exact gb.2.2.1 k k0 k1
    · rw [v2]; split
      · exact gb.2.2.2.1 r
      · exact ga.2.2.2.1 r
    · rw [v3]; split
      · exact gb.2.2.2.2 r
      · exact ga.2.2.2.2 r
  refine p_call (pl_layOut sg) ?_
  rintro r m ⟨lo, fr⟩
  have fr : FrL a M4 m := fr
  refine p_ret ⟨lo, fun j j0 j1 => ?_, fun j j0 j1 => ⟨?_, ?_⟩, ?_, fun c j hc => ?_⟩
  · show mG m (a + 1) j = _
    rw [fr _ _ (fun z => by omega) (fun z => by omega), v1, if_pos ⟨j0, j1⟩]
  · show mG m (a + 2) j = _
    rw [fr _ _ (fun z => by omega) (fun z => by omega), v2, if_pos ⟨j0, j1⟩]
  · show mG m (a + 3) j = _
    rw [fr _ _ (fun z => by omega) (fun z => by omega), v3, if_pos ⟨j0, j1⟩]
  · show mG m a 6 = _
    rw [fr _ _ (fun z => by omega) (fun z => by omega), st_eq h4]
  · show mG m c j = _
    rw [fr _ _ (fun z => hc ⟨by omega, by omega⟩) (fun z => hc ⟨by omega, by omega⟩), st_ne h4 (fun z => hc ⟨by omega, by omega⟩), cp_ne h3 (fun z => hc ⟨by omega, by omega⟩), cp_ne h2 (fun z => hc ⟨by omega, by omega⟩), cp_ne h1 (fun z => hc ⟨by omega, by omega⟩)]
/-- what a copy of all that is told is -/
def tlen (d : Int) : Int := match d with | 2 => 3 | 3 => 4 | 4 => 4 | 8 => 4 | 9 => 4 | 10 => 400 | 11 => 8 | 12 => 8 | 13 => 8 | 14 => 40 | 15 => 40 | 16 => 40 | _ => 0
def tfld (j : Int) : Bool := match j with | 1 => true | 5 => true | 6 => true | 7 => true | 11 => true | 12 => true | 13 => true | 14 => true | 18 => true | _ => false
def CPT (t f : Int) (M M' : Mem) : Prop := LO (t + 1) M' ∧ mG M' (t + 1) 6 = mG M (f + 1) 6 ∧ (∀ j : Int, tfld j = true → mG M' t j = mG M f j) ∧ (∀ d j : Int, 0 ≤ j → j < tlen d → mG M' (t + d) j = mG M (f + d) j) ∧ ∀ b j : Int, ¬ (t ≤ b ∧ b ≤ t + 16) → mG M' b j = mG M b j
/-- how far the copy is: fields done, rows done -/
def CPD (t f : Int) (F : List Int) (D : List Int) (M M' : Mem) : Prop := LO (t + 1) M' ∧ mG M' (t + 1) 6 = mG M (f + 1) 6 ∧ (∀ j : Int, j ∈ F → mG M' t j = mG M f j) ∧ (∀ j : Int, j ∉ F → mG M' t j = mG M t j) ∧ (∀ d j : Int, d ∈ D → 0 ≤ j → j < tlen d → mG M' (t + d) j = mG M (f + d) j) ∧ (∀ d j : Int, 8 ≤ d → d ≤ 16 → d ∉ D → mG M' (t + d) j = mG M (t + d) j) ∧ ∀ b j : Int, ¬ (t ≤ b ∧ b ≤ t + 16) → mG M' b j = mG M b j
theorem CPD.fld {t f i x : Int} {F D : List Int} {M M1 M2 : Mem} (h : CPD t f F D M M1) (hx : x = mG M f i) (hM : M2 = mS M1 t i x) : CPD t f (i :: F) D M M2 := by
  obtain ⟨a1, a2, a3, a4, a5, a6, a7⟩ := h
  have g : ∀ b j : Int, ¬ b = t → mG M2 b j = mG M1 b j := fun b j hb => st_ne hM (fun z => hb z.1)
  refine ⟨a1.of (fun b j b0 b1 => g b j (by omega)), by rw [g _ _ (by omega)]; exact a2, fun j hj => ?_, fun j hj => ?_, fun d j hd j0 j1 => ?_, fun d j d0 d1 hd => by rw [g _ _ (by omega)]; exact a6 d j d0 d1 hd, fun b j hb => by rw [g _ _ (fun z => hb ⟨by omega, by omega⟩)]; exact a7 b j hb⟩
  · by_cases e : j = i
    · subst e; rw [st_eq hM, hx]
    · rw [st_ne hM (fun z => e z.2)]; exact a3 j ((List.mem_cons.mp hj).resolve_left e)
  · have e : ¬ j = i := fun e => hj (by rw [e]; exact List.mem_cons_self)
    rw [st_ne hM (fun z => e z.2)]; exact a4 j (fun z => hj (List.mem_cons_of_mem _ z))
  · by_cases e : d = 0
    · subst e; exact absurd j1 (by show ¬ j < 0; omega)
    · rw [g _ _ (by omega)]; exact a5 d j hd j0 j1
theorem CPD.row {t f d N a0 a : Int} {F D : List Int} {M M1 M2 : Mem} (h : CPD t f F D M M1) (hd : 8 ≤ d ∧ d ≤ 16) (hft : f + 16 < t ∨ t + 16 < f) (hl : tlen d = N) (e0 : a0 = f + d) (e1 : a = t + d) (hM : M2 = mC M1 a0 0 a 0 N) : CPD t f F (d :: D) M M2 := by
  subst e0; subst e1; subst hl
  obtain ⟨a1, a2, a3, a4, a5, a6, a7⟩ := h
  have g : ∀ b j : Int, ¬ b = t + d → mG M2 b j = mG M1 b j := fun b j hb => cp_ne hM hb
  refine ⟨a1.of (fun b j b0 b1 => g b j (by omega)), by rw [g _ _ (by omega)]; exact a2, fun j hj => by rw [g _ _ (by omega)]; exact a3 j hj, fun j hj => by rw [g _ _ (by omega)]; exact a4 j hj, fun c j hc j0 j1 => ?_, fun c j c0 c1 hc => ?_, fun b j hb => by rw [g _ _ (fun z => hb ⟨by omega, by omega⟩)]; exact a7 b j hb⟩
  · by_cases e : c = d
    · subst e
      rw [cp_g hM, if_pos ⟨rfl, j0, by omega⟩, a7 _ _ (by omega)]
      congr 1; omega
    · rw [g _ _ (by omega)]; exact a5 c j ((List.mem_cons.mp hc).resolve_left e) j0 j1
  · have e : ¬ c = d := fun e => hc (by rw [e]; exact List.mem_cons_self)
    rw [g _ _ (by omega)]; exact a6 c j c0 c1 (fun z => hc (List.mem_cons_of_mem _ z))
theorem isTold_in {t : Int} (h : isTold t) : 3 ≤ t ∧ t ≤ 109 := by unfold isTold at h; omega
theorem isTold_ne {t f : Int} (h : isTold t) (h2 : isTold f) (hn : ¬ t = f) : f + 16 < t ∨ t + 16 < f := by
  rcases h with rfl | rfl | rfl | rfl <;> rcases h2 with rfl | rfl | rfl | rfl <;> first | exact absurd rfl hn | (left; decide) | (right; decide)
theorem pl_tcopy {n : Nat} {t f : Int} {M : Mem} (iM : I n M) (ht : isTold t) (hf : isTold f) (hn : ¬ t = f) : pw (mX6_copy t f M) (fun q => CPT t f M q.2) := by
  have hft := isTold_ne ht hf hn
  have K (k : Int) (h : tfld k = false) : ∀ F : List Int, (∀ x, x ∈ F → tfld x = true) → k ∉ F := fun F hF z => by rw [hF k z] at h; cases h
  have t2 : mG M t 2 = t + 8 := rd_Told_2 iM (f_Told ht)
  have t3 : mG M t 3 = t + 9 := rd_Told_3 iM (f_Told ht)
  have t4 : mG M t 4 = t + 10 := rd_Told_4 iM (f_Told ht)
  have t8 : mG M t 8 = t + 11 := rd_Told_8 iM (f_Told ht)
  have t9 : mG M t 9 = t + 12 := rd_Told_9 iM (f_Told ht)
  have t10 : mG M t 10 = t + 13 := rd_Told_10 iM (f_Told ht)
  have t15 : mG M t 15 = t + 14 := rd_Told_15 iM (f_Told ht)
  have t16 : mG M t 16 = t + 15 := rd_Told_16 iM (f_Told ht)
  have t17 : mG M t 17 = t + 16 := rd_Told_17 iM (f_Told ht)
  have f2 : mG M f 2 = f + 8 := rd_Told_2 iM (f_Told hf)
  have f3 : mG M f 3 = f + 9 := rd_Told_3 iM (f_Told hf)
  have f4 : mG M f 4 = f + 10 := rd_Told_4 iM (f_Told hf)
  have f8 : mG M f 8 = f + 11 := rd_Told_8 iM (f_Told hf)
  have f9 : mG M f 9 = f + 12 := rd_Told_9 iM (f_Told hf)
  have f10 : mG M f 10 = f + 13 := rd_Told_10 iM (f_Told hf)
  have f15 : mG M f 15 = f + 14 := rd_Told_15 iM (f_Told hf)
  have f16 : mG M f 16 = f + 15 := rd_Told_16 iM (f_Told hf)
  have f17 : mG M f 17 = f + 16 := rd_Told_17 iM (f_Told hf)
  unfold mX6_copy
  refine p_gFc (ji := 0) (r := t + 1) rfl (rd_Told_0 iM (f_Told ht)) (p_gFc (ji := 0) (r := f + 1) rfl (rd_Told_0 iM (f_Told hf)) (p_gK ?_))
  refine p_call (pl_scopy (iM.sg (shape_told ht)) (iM.sg (shape_told hf)) (by omega)) ?_
  rintro r0 m0 ⟨lo, z1, z2, z6, zf⟩
  have c0 : CPD t f [] [4, 3, 2] M m0 := by
    refine ⟨lo, z6, fun j hj => (by cases hj), fun j _ => zf t j (by omega), fun d j hd j0 j1 => ?_, fun d j d0 d1 _ => zf _ j (by omega), fun b j hb => zf b j (fun z => hb ⟨by omega, by omega⟩)⟩
    rcases List.mem_cons.mp hd with rfl | hd
    · have z := (z2 j j0 j1).2
      rw [show t + 1 + 3 = t + 4 by omega, show f + 1 + 3 = f + 4 by omega] at z; exact z
    · rcases List.mem_cons.mp hd with rfl | hd
      · have z := (z2 j j0 j1).1
        rw [show t + 1 + 2 = t + 3 by omega, show f + 1 + 2 = f + 3 by omega] at z; exact z
      · rcases List.mem_cons.mp hd with rfl | hd
        · have z := z1 j j0 j1
          rw [show t + 1 + 1 = t + 2 by omega, show f + 1 + 1 = f + 2 by omega] at z; exact z
        · cases hd
  refine p_gK ?_
  unfold mX6_copyWorlds
  dsimp only
  refine p_call (P := fun q => CPD t f [1] [9, 8, 4, 3, 2] M q.2) ?_ ?_
  · skip
    refine p_gFc (ji := 1) rfl (c0.2.2.2.2.2.2 f 1 (by omega)) (p_pF (ji := 1) rfl (fun M1 h1 => ?_))
    have c1 : CPD t f [1] [4, 3, 2] M M1 := c0.fld rfl h1
    refine p_gFc (ji := 2) (r := f + 8) rfl ((c1.2.2.2.2.2.2 f 2 (by omega)).trans f2) (p_gFc (ji := 2) (r := t + 8) rfl ((c1.2.2.2.1 2 (by decide)).trans t2) (p_aC (fun M2 h2 => ?_)))
    have c2 : CPD t f [1] [8, 4, 3, 2] M M2 := c1.row (by decide) hft rfl rfl rfl h2
    refine p_gFc (ji := 3) (r := f + 9) rfl ((c2.2.2.2.2.2.2 f 3 (by omega)).trans f3) (p_gFc (ji := 3) (r := t + 9) rfl ((c2.2.2.2.1 3 (by decide)).trans t3) (p_aCZ (fun M3 h3 => ?_)))
    have c3 : CPD t f [1] [9, 8, 4, 3, 2] M M3 := c2.row (by decide) hft rfl rfl rfl h3
    exact p_ret c3
  intro r1 m1 c3
  have c3 : CPD t f [1] [9, 8, 4, 3, 2] M m1 := c3
  dsimp only
  refine p_gFc (ji := 4) (r := f + 10) rfl ((c3.2.2.2.2.2.2 f 4 (by omega)).trans f4) (p_gFc (ji := 4) (r := t + 10) rfl ((c3.2.2.2.1 4 (by decide)).trans t4) (p_aC (fun M4 h4 => ?_)))
  have c4 : CPD t f [1] [10, 9, 8, 4, 3, 2] M M4 := c3.row (by decide) hft rfl rfl rfl h4
  refine p_gFc (ji := 5) rfl (c4.2.2.2.2.2.2 f 5 (by omega)) (p_pF (ji := 5) rfl (fun M5 h5 => ?_))
  have c5 : CPD t f [5, 1] [10, 9, 8, 4, 3, 2] M M5 := c4.fld rfl h5
  refine p_gFc (ji := 6) rfl (c5.2.2.2.2.2.2 f 6 (by omega)) (p_pF (ji := 6) rfl (fun M6 h6 => ?_))
  have c6 : CPD t f [6, 5, 1] [10, 9, 8, 4, 3, 2] M M6 := c5.fld rfl h6
  refine p_gFc (ji := 7) rfl (c6.2.2.2.2.2.2 f 7 (by omega)) (p_pF (ji := 7) rfl (fun M7 h7 => ?_))
  have c7 : CPD t f [7, 6, 5, 1] [10, 9, 8, 4, 3, 2] M M7 := c6.fld rfl h7
  refine p_gK ?_
  refine p_call (P := fun q => CPD t f [11, 7, 6, 5, 1] [13, 12, 11, 10, 9, 8, 4, 3, 2] M q.2) ?_ ?_
  · unfold mX6_copyStories
    have key : ∀ (fu : Nat) (l : Int) (M' : Mem), 0 ≤ l → l ≤ 8 → (∀ j : Int, 0 ≤ j → j < l → mG M' (t + 11) j = mG M (f + 11) j ∧ mG M' (t + 12) j = mG M (f + 12) j ∧ mG M' (t + 13) j = mG M (f + 13) j) → (∀ b j : Int, ¬ (t + 11 ≤ b ∧ b ≤ t + 13) → mG M' b j = mG M7 b j) → pw (mX6_copyStories_2 fu t f l M') (fun q => CPD t f [11, 7, 6, 5, 1] [13, 12, 11, 10, 9, 8, 4, 3, 2] M q.2) := by
      intro fu
      induction fu with
      | zero => intro l M' _ _ _ _; exact p_none
      | succ fu ih =>
        intro l M' b0 b1 hr hg
        have gf : ∀ b j : Int, ¬ (t ≤ b ∧ b ≤ t + 16) → mG M' b j = mG M b j := fun b j hb => (hg b j (fun z => hb ⟨by omega, by omega⟩)).trans (c7.2.2.2.2.2.2 b j hb)
        have gt : ∀ j : Int, j ∉ [7, 6, 5, 1] → mG M' t j = mG M t j := fun j hj => (hg t j (fun z => by omega)).trans (c7.2.2.2.1 j hj)
        show pw (bX6_copyStories_2 (mX6_copyStories_2 fu) t f l M') _
        unfold bX6_copyStories_2
        refine p_if (fun c => ?_) (fun c => ?_)
        · have el : l = 8 := by omega
          subst el
          refine p_gFc (ji := 11) rfl (gf f 11 (by omega)) (p_pF (ji := 11) rfl (fun M2 h2 => ?_))
          have c1 : CPD t f [7, 6, 5, 1] [13, 12, 11, 10, 9, 8, 4, 3, 2] M M' := by
            obtain ⟨a1, a2, a3, a4, a5, a6, a7⟩ := c7
            refine ⟨a1.of (fun b j b0 b1 => hg b j (fun z => by omega)), by rw [hg _ _ (fun z => by omega)]; exact a2, fun j hj => by rw [hg _ _ (fun z => by omega)]; exact a3 j hj, gt, fun d j hd j0 j1 => ?_, fun d j d0 d1 hd => ?_, gf⟩
            · by_cases e : d = 11 ∨ d = 12 ∨ d = 13
              · rcases e with e | e | e
                · subst e; exact (hr j j0 j1).1
                · subst e; exact (hr j j0 j1).2.1
                · subst e; exact (hr j j0 j1).2.2
              · rw [hg _ _ (fun z => by omega)]
                refine a5 d j ?_ j0 j1
                rcases List.mem_cons.mp hd with z | hd
                · omega
                · rcases List.mem_cons.mp hd with z | hd
                  · omega
                  · rcases List.mem_cons.mp hd with z | hd
                    · omega
                    · exact hd
            · have d11 : ¬ d = 11 := fun e => hd (by rw [e]; decide)
              have d12 : ¬ d = 12 := fun e => hd (by rw [e]; decide)
              have d13 : ¬ d = 13 := fun e => hd (by rw [e]; decide)
              rw [hg _ _ (fun z => by omega)]
              exact a6 d j d0 d1 (fun z => hd (List.mem_cons_of_mem _ (List.mem_cons_of_mem _ (List.mem_cons_of_mem _ z))))
          exact p_ret (c1.fld rfl h2)
        · have w1 := wI_id (x := l + 1) (by omega) (by omega)
          rw [w1]
          refine p_gFc (ji := 8) rfl ((gt 8 (by decide)).trans t8) (p_gFc (ji := 8) rfl ((gf f 8 (by omega)).trans f8) (p_aGc (gf (f + 11) l (by omega)) (p_aSR (fun M1 h1 => ?_))))
          have x1 : ∀ b j : Int, ¬ b = t + 11 → mG M1 b j = mG M' b j := fun b j hb => st_ne h1 (fun z => hb z.1)
          refine p_gFc (ji := 9) rfl ((x1 t 9 (by omega)).trans ((gt 9 (by decide)).trans t9)) (p_gFc (ji := 9) rfl ((x1 f 9 (by omega)).trans ((gf f 9 (by omega)).trans f9)) (p_aGc ((x1 (f + 12) l (by omega)).trans (gf (f + 12) l (by omega))) (p_aS (fun M2 h2 => ?_))))
          have x2 : ∀ b j : Int, ¬ b = t + 12 → mG M2 b j = mG M1 b j := fun b j hb => st_ne h2 (fun z => hb z.1)
          refine p_gFc (ji := 10) rfl ((x2 t 10 (by omega)).trans ((x1 t 10 (by omega)).trans ((gt 10 (by decide)).trans t10))) (p_gFc (ji := 10) rfl ((x2 f 10 (by omega)).trans ((x1 f 10 (by omega)).trans ((gf f 10 (by omega)).trans f10))) (p_aGc ((x2 (f + 13) l (by omega)).trans ((x1 (f + 13) l (by omega)).trans (gf (f + 13) l (by omega)))) (p_aS (fun M3 h3 => ?_))))
          have x3 : ∀ b j : Int, ¬ b = t + 13 → mG M3 b j = mG M2 b j := fun b j hb => st_ne h3 (fun z => hb z.1)
          refine ih (l + 1) M3 (by omega) (by omega) (fun j j0 j1 => ?_) (fun b j hb => ?_)
          · by_cases e : j = l
            · subst e
              exact ⟨by rw [x3 _ _ (by omega), x2 _ _ (by omega)]; exact st_eq h1, by rw [x3 _ _ (by omega)]; exact st_eq h2, st_eq h3⟩
            · obtain ⟨y1, y2, y3⟩ := hr j j0 (by omega)
              refine ⟨?_, ?_, ?_⟩
              · rw [x3 _ _ (by omega), x2 _ _ (by omega), st_ne h1 (fun z => e z.2)]; exact y1
              · rw [x3 _ _ (by omega), st_ne h2 (fun z => e z.2), x1 _ _ (by omega)]; exact y2
              · rw [st_ne h3 (fun z => e z.2), x2 _ _ (by omega), x1 _ _ (by omega)]; exact y3
          · rw [x3 _ _ (fun z => hb ⟨by omega, by omega⟩), x2 _ _ (fun z => hb ⟨by omega, by omega⟩), x1 _ _ (fun z => hb ⟨by omega, by omega⟩)]; exact hg b j hb
    exact key FU 0 M7 (by decide) (by decide) (fun j j0 j1 => by omega) (fun _ _ _ => rfl)
  intro r2 m2 c8
  have c8 : CPD t f [11, 7, 6, 5, 1] [13, 12, 11, 10, 9, 8, 4, 3, 2] M m2 := c8
  dsimp only
  refine p_gFc (ji := 12) rfl (c8.2.2.2.2.2.2 f 12 (by omega)) (p_pF (ji := 12) rfl (fun M9 h9 => ?_))
  have c9 : CPD t f [12, 11, 7, 6, 5, 1] [13, 12, 11, 10, 9, 8, 4, 3, 2] M M9 := c8.fld rfl h9
  refine p_gFc (ji := 13) rfl (c9.2.2.2.2.2.2 f 13 (by omega)) (p_pF (ji := 13) rfl (fun M10 h10 => ?_))
  have c10 : CPD t f [13, 12, 11, 7, 6, 5, 1] [13, 12, 11, 10, 9, 8, 4, 3, 2] M M10 := c9.fld rfl h10
  refine p_gFc (ji := 14) rfl (c10.2.2.2.2.2.2 f 14 (by omega)) (p_pF (ji := 14) rfl (fun M11 h11 => ?_))
  have c11 : CPD t f [14, 13, 12, 11, 7, 6, 5, 1] [13, 12, 11, 10, 9, 8, 4, 3, 2] M M11 := c10.fld rfl h11
  refine p_gFc (ji := 15) (r := f + 14) rfl ((c11.2.2.2.2.2.2 f 15 (by omega)).trans f15) (p_gFc (ji := 15) (r := t + 14) rfl ((c11.2.2.2.1 15 (by decide)).trans t15) (p_aC (fun M12 h12 => ?_)))
  have c12 : CPD t f [14, 13, 12, 11, 7, 6, 5, 1] [14, 13, 12, 11, 10, 9, 8, 4, 3, 2] M M12 := c11.row (by decide) hft rfl rfl rfl h12
  refine p_gFc (ji := 16) (r := f + 15) rfl ((c12.2.2.2.2.2.2 f 16 (by omega)).trans f16) (p_gFc (ji := 16) (r := t + 15) rfl ((c12.2.2.2.1 16 (by decide)).trans t16) (p_aCZ (fun M13 h13 => ?_)))
  have c13 : CPD t f [14, 13, 12, 11, 7, 6, 5, 1] [15, 14, 13, 12, 11, 10, 9, 8, 4, 3, 2] M M13 := c12.row (by decide) hft rfl rfl rfl h13
  refine p_gFc (ji := 17) (r := f + 16) rfl ((c13.2.2.2.2.2.2 f 17 (by omega)).trans f17) (p_gFc (ji := 17) (r := t + 16) rfl ((c13.2.2.2.1 17 (by decide)).trans t17) (p_aC (fun M14 h14 => ?_)))
  have c14 : CPD t f [14, 13, 12, 11, 7, 6, 5, 1] [16, 15, 14, 13, 12, 11, 10, 9, 8, 4, 3, 2] M M14 := c13.row (by decide) hft rfl rfl rfl h14
  refine p_gFc (ji := 18) rfl (c14.2.2.2.2.2.2 f 18 (by omega)) (p_pF (ji := 18) rfl (fun M15 h15 => ?_))
  have c15 : CPD t f [18, 14, 13, 12, 11, 7, 6, 5, 1] [16, 15, 14, 13, 12, 11, 10, 9, 8, 4, 3, 2] M M15 := c14.fld rfl h15
  obtain ⟨a1, a2, a3, a4, a5, a6, a7⟩ := c15
  have mf : ∀ j : Int, tfld j = true → j ∈ [18, 14, 13, 12, 11, 7, 6, 5, 1] := by
    intro j hj
    unfold tfld at hj
    split at hj <;> first | decide | cases hj
  have md : ∀ d j : Int, 0 ≤ j → j < tlen d → d ∈ [16, 15, 14, 13, 12, 11, 10, 9, 8, 4, 3, 2] := by
    intro d j j0 j1
    unfold tlen at j1
    split at j1 <;> first | decide | omega
  exact p_ret ⟨a1, a2, fun j hj => a3 j (mf j hj), fun d j j0 j1 => a5 d j (md d j j0 j1) j0 j1, a7⟩
