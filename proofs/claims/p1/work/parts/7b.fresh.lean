/-! ===== the answers of the class on the fresh memory ===== -/
def sp_form (k v : Int) : Prop := (k = 0 → v = 1) ∧ (¬ k = 0 → v = 0)
def sp_least (k v : Int) : Prop := (0 ≤ k ∧ k ≤ 2 → v = 1) ∧ (k < 0 → v = -1) ∧ (2 < k → v = -1)
def sp_fault (k v : Int) : Prop := (k = 0 → v = 0) ∧ (¬ k = 0 → v = -1)
def sp_many (k v : Int) : Prop := (0 ≤ k ∧ k ≤ 2 → v = 2) ∧ (3 ≤ k ∧ k ≤ 5 → v = 0) ∧ (k = 6 → v = -1) ∧ (7 ≤ k ∧ k ≤ 10 → v = 0) ∧ (k < 0 → v = -2) ∧ (10 < k → v = -2)
theorem fx8_tell {l1 l2 l3 l4 : Int} {M : Mem} (t0 : TR 0 1 125 [] M) (r_l1 : (-2147483648) ≤ l1 ∧ l1 ≤ 2147483647) (r_l2 : (-2147483648) ≤ l2 ∧ l2 ≤ 2147483647) (r_l3 : (-2147483648) ≤ l3 ∧ l3 ≤ 2147483647) (r_l4 : (-2147483648) ≤ l4 ∧ l4 ≤ 2147483647) : pw (mX8_tell 1 l1 l2 l3 l4 M) (fun q => q.1 = 0) := by
  unfold mX8_tell
  refine p_gFc (ji := 1) (r := 3) rfl (t0.v (by decide +kernel) (by decide +kernel)) ?_
  refine p_gFc (ji := 0) (r := 4) rfl (t0.v (by decide +kernel) (by decide +kernel)) ?_
  refine p_gK ?_
  refine p_bindg (fun Q1 hQ1 => ?_)
  unfold mX3_place
  refine p_iflt_r (r := 0) (by decide +kernel) (fun c2 => ?_) (fun c2 => ?_)
  · skip
    refine p_rc (r := (-1)) (by decide +kernel) (hQ1 _ ?_)
    dsimp only
    refine p_it1 (by decide +kernel) ?_
    exact p_rc (r := 0) (by decide +kernel) rfl
  · skip
    refine p_gFc (ji := 6) (r := 0) rfl (t0.v (by decide +kernel) (by decide +kernel)) ?_
    refine p_iflt_r (r := 0) (by decide +kernel) (fun c3 => absurd c3 (by omega)) (fun c3 => ?_)
    refine p_rc (r := (-1)) (by decide +kernel) (hQ1 _ ?_)
    dsimp only
    refine p_it1 (by decide +kernel) ?_
    exact p_rc (r := 0) (by decide +kernel) rfl
theorem fx8_fact {l1 l2 l3 : Int} {M : Mem} (t0 : TR 0 1 125 [] M) (r_l1 : (-2147483648) ≤ l1 ∧ l1 ≤ 2147483647) (r_l2 : (-2147483648) ≤ l2 ∧ l2 ≤ 2147483647) (r_l3 : (-2147483648) ≤ l3 ∧ l3 ≤ 2147483647) : pw (mX8_fact 1 l1 l2 l3 M) (fun q => q.1 = (-1)) := by
  unfold mX8_fact
  refine p_gFc (ji := 1) (r := 3) rfl (t0.v (by decide +kernel) (by decide +kernel)) ?_
  refine p_gFc (ji := 0) (r := 4) rfl (t0.v (by decide +kernel) (by decide +kernel)) ?_
  refine p_gK ?_
  refine p_bindg (fun Q1 hQ1 => ?_)
  unfold mX3_place
  refine p_iflt_r (r := 0) (by decide +kernel) (fun c2 => ?_) (fun c2 => ?_)
  · skip
    refine p_rc (r := (-1)) (by decide +kernel) (hQ1 _ ?_)
    dsimp only
    refine p_it1 (by decide +kernel) ?_
    exact p_rc (r := (-1)) (by decide +kernel) rfl
  · skip
    refine p_gFc (ji := 6) (r := 0) rfl (t0.v (by decide +kernel) (by decide +kernel)) ?_
    refine p_iflt_r (r := 0) (by decide +kernel) (fun c3 => absurd c3 (by omega)) (fun c3 => ?_)
    refine p_rc (r := (-1)) (by decide +kernel) (hQ1 _ ?_)
    dsimp only
    refine p_it1 (by decide +kernel) ?_
    exact p_rc (r := (-1)) (by decide +kernel) rfl
theorem fx8_apart {l1 : Int} {M : Mem} (t0 : TR 0 1 125 [] M) (r_l1 : (-2147483648) ≤ l1 ∧ l1 ≤ 2147483647) : pw (mX8_apart 1 l1 M) (fun q => q.1 = (-1)) := by
  unfold mX8_apart
  refine p_iflt_r (r := 0) (by decide +kernel) (fun c1 => ?_) (fun c1 => ?_)
  · skip
    exact p_rc (r := (-1)) (by decide +kernel) rfl
  · skip
    refine p_ifle_l (r := 4) (by decide +kernel) (fun c2 => ?_) (fun c2 => ?_)
    · skip
      exact p_rc (r := (-1)) (by decide +kernel) rfl
    · skip
      refine p_gFc (ji := 1) (r := 3) rfl (t0.v (by decide +kernel) (by decide +kernel)) ?_
      refine p_gFc (ji := 3) (r := 12) rfl (t0.v (by decide +kernel) (by decide +kernel)) ?_
      rcases (by omega : l1 = 0 ∨ l1 = 1 ∨ l1 = 2 ∨ l1 = 3) with e3 | e3 | e3 | e3
      · subst e3
        refine p_aGc (r := 0) (t0.v (by decide +kernel) (by decide +kernel)) ?_
        refine p_it1 (by decide +kernel) ?_
        exact p_rc (r := (-1)) (by decide +kernel) rfl
      · subst e3
        refine p_aGc (r := 0) (t0.v (by decide +kernel) (by decide +kernel)) ?_
        refine p_it1 (by decide +kernel) ?_
        exact p_rc (r := (-1)) (by decide +kernel) rfl
      · subst e3
        refine p_aGc (r := 0) (t0.v (by decide +kernel) (by decide +kernel)) ?_
        refine p_it1 (by decide +kernel) ?_
        exact p_rc (r := (-1)) (by decide +kernel) rfl
      · subst e3
        refine p_aGc (r := 0) (t0.v (by decide +kernel) (by decide +kernel)) ?_
        refine p_it1 (by decide +kernel) ?_
        exact p_rc (r := (-1)) (by decide +kernel) rfl
theorem fx8_story {M : Mem} (t0 : TR 0 1 125 [] M) : pw (mX8_story 1 M) (fun q => q.1 = (-1)) := by
  unfold mX8_story
  refine p_gFc (ji := 1) (r := 3) rfl (t0.v (by decide +kernel) (by decide +kernel)) ?_
  refine p_gFc (ji := 11) (r := 0) rfl (t0.v (by decide +kernel) (by decide +kernel)) ?_
  refine p_it1 (by decide +kernel) ?_
  refine p_gFc (ji := 2) (r := 65) rfl (t0.v (by decide +kernel) (by decide +kernel)) ?_
  refine p_gFc (ji := 1) (r := 3) rfl (t0.v (by decide +kernel) (by decide +kernel)) ?_
  refine p_gK ?_
  refine p_bindg (fun Q1 hQ1 => ?_)
  unfold mX2_read
  refine p_pF (ji := 0) rfl (fun M2 h2 => ?_)
  replace h2 := t0.st (al := 65) (il := 0) (xl := 3) h2 (by decide +kernel) (by decide +kernel) (by decide +kernel)
  refine p_gFc (ji := 0) (r := 3) rfl (h2.v (by decide +kernel) (by decide +kernel)) ?_
  refine p_gFc (ji := 4) (r := 13) rfl (h2.v (by decide +kernel) (by decide +kernel)) ?_
  refine p_pF (ji := 1) rfl (fun M3 h3 => ?_)
  replace h3 := h2.st (al := 65) (il := 1) (xl := 13) h3 (by decide +kernel) (by decide +kernel) (by decide +kernel)
  refine p_gFc (ji := 0) (r := 3) rfl (h3.v (by decide +kernel) (by decide +kernel)) ?_
  refine p_gFc (ji := 5) (r := 0) rfl (h3.v (by decide +kernel) (by decide +kernel)) ?_
  refine p_pF (ji := 2) rfl (fun M4 h4 => ?_)
  replace h4 := h3.st (al := 65) (il := 2) (xl := 0) h4 (by decide +kernel) (by decide +kernel) (by decide +kernel)
  refine p_gFc (ji := 0) (r := 3) rfl (h4.v (by decide +kernel) (by decide +kernel)) ?_
  refine p_gFc (ji := 0) (r := 4) rfl (h4.v (by decide +kernel) (by decide +kernel)) ?_
  refine p_pF (ji := 3) rfl (fun M5 h5 => ?_)
  replace h5 := h4.st (al := 65) (il := 3) (xl := 4) h5 (by decide +kernel) (by decide +kernel) (by decide +kernel)
  refine p_gFc (ji := 0) (r := 3) rfl (h5.v (by decide +kernel) (by decide +kernel)) ?_
  refine p_gK ?_
  refine p_bindg (fun Q6 hQ6 => ?_)
  unfold mX6_clearTape
  refine p_pF (ji := 5) rfl (fun M7 h7 => ?_)
  replace h7 := h5.st (al := 3) (il := 5) (xl := 0) h7 (by decide +kernel) (by decide +kernel) (by decide +kernel)
  refine p_pF (ji := 6) rfl (fun M8 h8 => ?_)
  replace h8 := h7.st (al := 3) (il := 6) (xl := 0) h8 (by decide +kernel) (by decide +kernel) (by decide +kernel)
  refine p_pF (ji := 7) rfl (fun M9 h9 => ?_)
  replace h9 := h8.st (al := 3) (il := 7) (xl := (-1)) h9 (by decide +kernel) (by decide +kernel) (by decide +kernel)
  refine p_rc (r := 0) (by decide +kernel) (hQ6 _ ?_)
  dsimp only
  refine p_pZ (ji := 4) rfl (fun M10 h10 => ?_)
  replace h10 := h9.st (al := 65) (il := 4) (xl := 0) h10 (by decide +kernel) (by decide +kernel) (by decide +kernel)
  refine p_gFc (ji := 5) (r := 66) rfl (h10.v (by decide +kernel) (by decide +kernel)) ?_
  refine p_pF (ji := 5) rfl (fun M11 h11 => ?_)
  replace h11 := h10.st (al := 66) (il := 5) (xl := 0) h11 (by decide +kernel) (by decide +kernel) (by decide +kernel)
  refine p_pF (ji := 10) rfl (fun M12 h12 => ?_)
  replace h12 := h11.st (al := 65) (il := 10) (xl := 0) h12 (by decide +kernel) (by decide +kernel) (by decide +kernel)
  refine p_pF (ji := 7) rfl (fun M13 h13 => ?_)
  replace h13 := h12.st (al := 65) (il := 7) (xl := 0) h13 (by decide +kernel) (by decide +kernel) (by decide +kernel)
  refine p_gK ?_
  refine p_bindg (fun Q14 hQ14 => ?_)
  unfold mX2_expectPart
  refine p_gFc (ji := 7) (r := 0) rfl (h13.v (by decide +kernel) (by decide +kernel)) ?_
  refine p_gFc (ji := 6) (r := 72) rfl (h13.v (by decide +kernel) (by decide +kernel)) ?_
  refine p_aL (fun v15 h15 => ?_)
  have h15 : v15 = 402 := h15.trans (h13.l (by decide +kernel) (by decide +kernel))
  subst h15
  refine p_it0 (by decide +kernel) ?_
  refine p_gFc (ji := 6) (r := 72) rfl (h13.v (by decide +kernel) (by decide +kernel)) ?_
  refine p_gFc (ji := 7) (r := 0) rfl (h13.v (by decide +kernel) (by decide +kernel)) ?_
  refine p_aS (fun M16 h16 => ?_)
  replace h16 := h13.st (al := 72) (il := 0) (xl := 0) h16 (by decide +kernel) (by decide +kernel) (by decide +kernel)
  refine p_gFc (ji := 7) (r := 0) rfl (h16.v (by decide +kernel) (by decide +kernel)) ?_
  refine p_pF (ji := 7) rfl (fun M17 h17 => ?_)
  replace h17 := h16.st (al := 65) (il := 7) (xl := 1) h17 (by decide +kernel) (by decide +kernel) (by decide +kernel)
  refine p_rc (r := 0) (by decide +kernel) (hQ14 _ ?_)
  dsimp only
  refine p_gK ?_
  refine p_bindg (fun Q18 hQ18 => ?_)
  unfold mX2_advance
  show pw (bX2_advance_0 (mX2_advance_0 69999) _ _) _
  unfold bX2_advance_0
  refine p_gFc (ji := 10) (r := 0) rfl (h17.v (by decide +kernel) (by decide +kernel)) ?_
  refine p_gFc (ji := 2) (r := 0) rfl (h17.v (by decide +kernel) (by decide +kernel)) ?_
  refine p_it1 (by decide +kernel) ?_
  unfold mX2_advance_52
  refine p_gFc (ji := 10) (r := 0) rfl (h17.v (by decide +kernel) (by decide +kernel)) ?_
  refine p_pF (ji := 9) rfl (fun M19 h19 => ?_)
  replace h19 := h17.st (al := 65) (il := 9) (xl := 0) h19 (by decide +kernel) (by decide +kernel) (by decide +kernel)
  refine p_pF (ji := 11) rfl (fun M20 h20 => ?_)
  replace h20 := h19.st (al := 65) (il := 11) (xl := 0) h20 (by decide +kernel) (by decide +kernel) (by decide +kernel)
  refine p_gFc (ji := 10) (r := 0) rfl (h20.v (by decide +kernel) (by decide +kernel)) ?_
  refine p_gFc (ji := 2) (r := 0) rfl (h20.v (by decide +kernel) (by decide +kernel)) ?_
  refine p_it0 (by decide +kernel) ?_
  refine p_pF (ji := 8) rfl (fun M21 h21 => ?_)
  replace h21 := h20.st (al := 65) (il := 8) (xl := 0) h21 (by decide +kernel) (by decide +kernel) (by decide +kernel)
  refine p_rc (r := 0) (by decide +kernel) (hQ18 _ ?_)
  dsimp only
  show pw (bX2_read_79 (mX2_read_79 69999) _ _ _) _
  unfold bX2_read_79
  refine p_it0 (by decide +kernel) ?_
  refine p_gFc (ji := 7) (r := 1) rfl (h21.v (by decide +kernel) (by decide +kernel)) ?_
  refine p_it0 (by decide +kernel) ?_
  refine p_gFc (ji := 4) (r := 0) rfl (h21.v (by decide +kernel) (by decide +kernel)) ?_
  refine p_it1 (by decide +kernel) ?_
  refine p_gK ?_
  refine p_bindg (fun Q22 hQ22 => ?_)
  unfold mX2_readPart
  refine p_gFc (ji := 7) (r := 1) rfl (h21.v (by decide +kernel) (by decide +kernel)) ?_
  refine p_pF (ji := 7) rfl (fun M23 h23 => ?_)
  replace h23 := h21.st (al := 65) (il := 7) (xl := 0) h23 (by decide +kernel) (by decide +kernel) (by decide +kernel)
  refine p_gFc (ji := 6) (r := 72) rfl (h23.v (by decide +kernel) (by decide +kernel)) ?_
  refine p_gFc (ji := 7) (r := 0) rfl (h23.v (by decide +kernel) (by decide +kernel)) ?_
  refine p_aGc (r := 0) (h23.v (by decide +kernel) (by decide +kernel)) ?_
  refine p_gK ?_
  refine p_bindg (fun Q24 hQ24 => ?_)
  unfold mX2_firstWord
  refine p_gK ?_
  refine p_bindg (fun Q25 hQ25 => ?_)
  unfold mX2_isWord
  refine p_gFc (ji := 8) (r := 0) rfl (h23.v (by decide +kernel) (by decide +kernel)) ?_
  refine p_it0 (by decide +kernel) ?_
  refine p_rc (r := 0) (by decide +kernel) (hQ25 _ ?_)
  dsimp only
  refine p_it1 (by decide +kernel) ?_
  refine p_gK ?_
  refine p_bindg (fun Q26 hQ26 => ?_)
  unfold mX2_isWord
  refine p_gFc (ji := 8) (r := 0) rfl (h23.v (by decide +kernel) (by decide +kernel)) ?_
  refine p_it0 (by decide +kernel) ?_
  refine p_rc (r := 0) (by decide +kernel) (hQ26 _ ?_)
  dsimp only
  refine p_it1 (by decide +kernel) ?_
  refine p_gK ?_
  refine p_bindg (fun Q27 hQ27 => ?_)
  unfold mX2_isWord
  refine p_gFc (ji := 8) (r := 0) rfl (h23.v (by decide +kernel) (by decide +kernel)) ?_
  refine p_it0 (by decide +kernel) ?_
  refine p_rc (r := 0) (by decide +kernel) (hQ27 _ ?_)
  dsimp only
  refine p_it1 (by decide +kernel) ?_
  refine p_gK ?_
  refine p_bindg (fun Q28 hQ28 => ?_)
  unfold mX2_isWord
  refine p_gFc (ji := 8) (r := 0) rfl (h23.v (by decide +kernel) (by decide +kernel)) ?_
  refine p_it0 (by decide +kernel) ?_
  refine p_rc (r := 0) (by decide +kernel) (hQ28 _ ?_)
  dsimp only
  refine p_it1 (by decide +kernel) ?_
  refine p_gK ?_
  refine p_bindg (fun Q29 hQ29 => ?_)
  unfold mX2_isWord
  refine p_gFc (ji := 8) (r := 0) rfl (h23.v (by decide +kernel) (by decide +kernel)) ?_
  refine p_it0 (by decide +kernel) ?_
  refine p_rc (r := 0) (by decide +kernel) (hQ29 _ ?_)
  dsimp only
  refine p_it1 (by decide +kernel) ?_
  refine p_gK ?_
  refine p_bindg (fun Q30 hQ30 => ?_)
  unfold mX2_isWord
  refine p_gFc (ji := 8) (r := 0) rfl (h23.v (by decide +kernel) (by decide +kernel)) ?_
  refine p_it0 (by decide +kernel) ?_
  refine p_rc (r := 0) (by decide +kernel) (hQ30 _ ?_)
  dsimp only
  refine p_it1 (by decide +kernel) ?_
  refine p_gK ?_
  refine p_bindg (fun Q31 hQ31 => ?_)
  unfold mX2_isWord
  refine p_gFc (ji := 8) (r := 0) rfl (h23.v (by decide +kernel) (by decide +kernel)) ?_
  refine p_it0 (by decide +kernel) ?_
  refine p_rc (r := 0) (by decide +kernel) (hQ31 _ ?_)
  dsimp only
  refine p_it1 (by decide +kernel) ?_
  refine p_gK ?_
  refine p_bindg (fun Q32 hQ32 => ?_)
  unfold mX2_isWord
  refine p_gFc (ji := 8) (r := 0) rfl (h23.v (by decide +kernel) (by decide +kernel)) ?_
  refine p_it0 (by decide +kernel) ?_
  refine p_rc (r := 0) (by decide +kernel) (hQ32 _ ?_)
  dsimp only
  refine p_it1 (by decide +kernel) ?_
  refine p_gK ?_
  refine p_bindg (fun Q33 hQ33 => ?_)
  unfold mX2_isWord
  refine p_gFc (ji := 8) (r := 0) rfl (h23.v (by decide +kernel) (by decide +kernel)) ?_
  refine p_it0 (by decide +kernel) ?_
  refine p_rc (r := 0) (by decide +kernel) (hQ33 _ ?_)
  dsimp only
  refine p_it1 (by decide +kernel) ?_
  refine p_gK ?_
  refine p_bindg (fun Q34 hQ34 => ?_)
  unfold mX2_isWord
  refine p_gFc (ji := 8) (r := 0) rfl (h23.v (by decide +kernel) (by decide +kernel)) ?_
  refine p_it0 (by decide +kernel) ?_
  refine p_rc (r := 0) (by decide +kernel) (hQ34 _ ?_)
  dsimp only
  refine p_it1 (by decide +kernel) ?_
  refine p_gK ?_
  refine p_bindg (fun Q35 hQ35 => ?_)
  unfold mX2_isWord
  refine p_gFc (ji := 8) (r := 0) rfl (h23.v (by decide +kernel) (by decide +kernel)) ?_
  refine p_it0 (by decide +kernel) ?_
  refine p_rc (r := 0) (by decide +kernel) (hQ35 _ ?_)
  dsimp only
  refine p_it1 (by decide +kernel) ?_
  refine p_gFc (ji := 3) (r := 4) rfl (h23.v (by decide +kernel) (by decide +kernel)) ?_
  refine p_gK ?_
  refine p_bindg (fun Q36 hQ36 => ?_)
  unfold mX2_oneLetter
  refine p_gFc (ji := 8) (r := 0) rfl (h23.v (by decide +kernel) (by decide +kernel)) ?_
  refine p_it0 (by decide +kernel) ?_
  refine p_rc (r := 0) (by decide +kernel) (hQ36 _ ?_)
  dsimp only
  refine p_gK ?_
  refine p_bindg (fun Q37 hQ37 => ?_)
  unfold mX3_hasRelation
  refine p_it1 (by decide +kernel) ?_
  refine p_rc (r := 0) (by decide +kernel) (hQ37 _ ?_)
  dsimp only
  refine p_it1 (by decide +kernel) ?_
  refine p_rc (r := (-1)) (by decide +kernel) (hQ24 _ ?_)
  dsimp only
  refine p_it1 (by decide +kernel) ?_
  refine p_gK ?_
  refine p_bindg (fun Q38 hQ38 => ?_)
  unfold mX2_refuse
  refine p_gFc (ji := 4) (r := 0) rfl (h23.v (by decide +kernel) (by decide +kernel)) ?_
  refine p_it1 (by decide +kernel) ?_
  refine p_pZ (ji := 4) rfl (fun M39 h39 => ?_)
  replace h39 := h23.st (al := 65) (il := 4) (xl := 1) h39 (by decide +kernel) (by decide +kernel) (by decide +kernel)
  refine p_gFc (ji := 0) (r := 3) rfl (h39.v (by decide +kernel) (by decide +kernel)) ?_
  refine p_pF (ji := 6) rfl (fun M40 h40 => ?_)
  replace h40 := h39.st (al := 3) (il := 6) (xl := 1) h40 (by decide +kernel) (by decide +kernel) (by decide +kernel)
  refine p_gFc (ji := 0) (r := 3) rfl (h40.v (by decide +kernel) (by decide +kernel)) ?_
  refine p_gFc (ji := 9) (r := 0) rfl (h40.v (by decide +kernel) (by decide +kernel)) ?_
  refine p_pF (ji := 7) rfl (fun M41 h41 => ?_)
  replace h41 := h40.st (al := 3) (il := 7) (xl := 0) h41 (by decide +kernel) (by decide +kernel) (by decide +kernel)
  refine p_rc (r := 0) (by decide +kernel) (hQ38 _ ?_)
  dsimp only
  refine p_rc (r := 0) (by decide +kernel) (hQ22 _ ?_)
  dsimp only
  show pw (bX2_read_79 (mX2_read_79 69998) _ _ _) _
  unfold bX2_read_79
  refine p_it0 (by decide +kernel) ?_
  refine p_gFc (ji := 7) (r := 0) rfl (h41.v (by decide +kernel) (by decide +kernel)) ?_
  refine p_it1 (by decide +kernel) ?_
  unfold mX2_read_110
  refine p_gFc (ji := 8) (r := 0) rfl (h41.v (by decide +kernel) (by decide +kernel)) ?_
  refine p_it1 (by decide +kernel) ?_
  unfold mX2_read_121
  refine p_gFc (ji := 0) (r := 3) rfl (h41.v (by decide +kernel) (by decide +kernel)) ?_
  refine p_gFc (ji := 6) (r := 1) rfl (h41.v (by decide +kernel) (by decide +kernel)) ?_
  refine p_it0 (by decide +kernel) ?_
  refine p_rc (r := 0) (by decide +kernel) (hQ1 _ ?_)
  dsimp only
  refine p_it1 (by decide +kernel) ?_
  exact p_rc (r := (-1)) (by decide +kernel) rfl
theorem fx8_guess {M : Mem} (t0 : TR 0 1 125 [] M) : pw (mX8_guess 1 M) (fun q => q.1 = (-1)) := by
  unfold mX8_guess
  refine p_gFc (ji := 2) (r := 65) rfl (t0.v (by decide +kernel) (by decide +kernel)) ?_
  refine p_gFc (ji := 1) (r := 3) rfl (t0.v (by decide +kernel) (by decide +kernel)) ?_
  refine p_gK ?_
  refine p_bindg (fun Q1 hQ1 => ?_)
  unfold mX2_read
  refine p_pF (ji := 0) rfl (fun M2 h2 => ?_)
  replace h2 := t0.st (al := 65) (il := 0) (xl := 3) h2 (by decide +kernel) (by decide +kernel) (by decide +kernel)
  refine p_gFc (ji := 0) (r := 3) rfl (h2.v (by decide +kernel) (by decide +kernel)) ?_
  refine p_gFc (ji := 4) (r := 13) rfl (h2.v (by decide +kernel) (by decide +kernel)) ?_
  refine p_pF (ji := 1) rfl (fun M3 h3 => ?_)
  replace h3 := h2.st (al := 65) (il := 1) (xl := 13) h3 (by decide +kernel) (by decide +kernel) (by decide +kernel)
  refine p_gFc (ji := 0) (r := 3) rfl (h3.v (by decide +kernel) (by decide +kernel)) ?_
  refine p_gFc (ji := 5) (r := 0) rfl (h3.v (by decide +kernel) (by decide +kernel)) ?_
  refine p_pF (ji := 2) rfl (fun M4 h4 => ?_)
  replace h4 := h3.st (al := 65) (il := 2) (xl := 0) h4 (by decide +kernel) (by decide +kernel) (by decide +kernel)
  refine p_gFc (ji := 0) (r := 3) rfl (h4.v (by decide +kernel) (by decide +kernel)) ?_
  refine p_gFc (ji := 0) (r := 4) rfl (h4.v (by decide +kernel) (by decide +kernel)) ?_
  refine p_pF (ji := 3) rfl (fun M5 h5 => ?_)
  replace h5 := h4.st (al := 65) (il := 3) (xl := 4) h5 (by decide +kernel) (by decide +kernel) (by decide +kernel)
  refine p_gFc (ji := 0) (r := 3) rfl (h5.v (by decide +kernel) (by decide +kernel)) ?_
  refine p_gK ?_
  refine p_bindg (fun Q6 hQ6 => ?_)
  unfold mX6_clearTape
  refine p_pF (ji := 5) rfl (fun M7 h7 => ?_)
  replace h7 := h5.st (al := 3) (il := 5) (xl := 0) h7 (by decide +kernel) (by decide +kernel) (by decide +kernel)
  refine p_pF (ji := 6) rfl (fun M8 h8 => ?_)
  replace h8 := h7.st (al := 3) (il := 6) (xl := 0) h8 (by decide +kernel) (by decide +kernel) (by decide +kernel)
  refine p_pF (ji := 7) rfl (fun M9 h9 => ?_)
  replace h9 := h8.st (al := 3) (il := 7) (xl := (-1)) h9 (by decide +kernel) (by decide +kernel) (by decide +kernel)
  refine p_rc (r := 0) (by decide +kernel) (hQ6 _ ?_)
  dsimp only
  refine p_pZ (ji := 4) rfl (fun M10 h10 => ?_)
  replace h10 := h9.st (al := 65) (il := 4) (xl := 0) h10 (by decide +kernel) (by decide +kernel) (by decide +kernel)
  refine p_gFc (ji := 5) (r := 66) rfl (h10.v (by decide +kernel) (by decide +kernel)) ?_
  refine p_pF (ji := 5) rfl (fun M11 h11 => ?_)
  replace h11 := h10.st (al := 66) (il := 5) (xl := 0) h11 (by decide +kernel) (by decide +kernel) (by decide +kernel)
  refine p_pF (ji := 10) rfl (fun M12 h12 => ?_)
  replace h12 := h11.st (al := 65) (il := 10) (xl := 0) h12 (by decide +kernel) (by decide +kernel) (by decide +kernel)
  refine p_pF (ji := 7) rfl (fun M13 h13 => ?_)
  replace h13 := h12.st (al := 65) (il := 7) (xl := 0) h13 (by decide +kernel) (by decide +kernel) (by decide +kernel)
  refine p_gK ?_
  refine p_bindg (fun Q14 hQ14 => ?_)
  unfold mX2_expectPart
  refine p_gFc (ji := 7) (r := 0) rfl (h13.v (by decide +kernel) (by decide +kernel)) ?_
  refine p_gFc (ji := 6) (r := 72) rfl (h13.v (by decide +kernel) (by decide +kernel)) ?_
  refine p_aL (fun v15 h15 => ?_)
  have h15 : v15 = 402 := h15.trans (h13.l (by decide +kernel) (by decide +kernel))
  subst h15
  refine p_it0 (by decide +kernel) ?_
  refine p_gFc (ji := 6) (r := 72) rfl (h13.v (by decide +kernel) (by decide +kernel)) ?_
  refine p_gFc (ji := 7) (r := 0) rfl (h13.v (by decide +kernel) (by decide +kernel)) ?_
  refine p_aS (fun M16 h16 => ?_)
  replace h16 := h13.st (al := 72) (il := 0) (xl := 0) h16 (by decide +kernel) (by decide +kernel) (by decide +kernel)
  refine p_gFc (ji := 7) (r := 0) rfl (h16.v (by decide +kernel) (by decide +kernel)) ?_
  refine p_pF (ji := 7) rfl (fun M17 h17 => ?_)
  replace h17 := h16.st (al := 65) (il := 7) (xl := 1) h17 (by decide +kernel) (by decide +kernel) (by decide +kernel)
  refine p_rc (r := 0) (by decide +kernel) (hQ14 _ ?_)
  dsimp only
  refine p_gK ?_
  refine p_bindg (fun Q18 hQ18 => ?_)
  unfold mX2_advance
  show pw (bX2_advance_0 (mX2_advance_0 69999) _ _) _
  unfold bX2_advance_0
  refine p_gFc (ji := 10) (r := 0) rfl (h17.v (by decide +kernel) (by decide +kernel)) ?_
  refine p_gFc (ji := 2) (r := 0) rfl (h17.v (by decide +kernel) (by decide +kernel)) ?_
  refine p_it1 (by decide +kernel) ?_
  unfold mX2_advance_52
  refine p_gFc (ji := 10) (r := 0) rfl (h17.v (by decide +kernel) (by decide +kernel)) ?_
  refine p_pF (ji := 9) rfl (fun M19 h19 => ?_)
  replace h19 := h17.st (al := 65) (il := 9) (xl := 0) h19 (by decide +kernel) (by decide +kernel) (by decide +kernel)
  refine p_pF (ji := 11) rfl (fun M20 h20 => ?_)
  replace h20 := h19.st (al := 65) (il := 11) (xl := 0) h20 (by decide +kernel) (by decide +kernel) (by decide +kernel)
  refine p_gFc (ji := 10) (r := 0) rfl (h20.v (by decide +kernel) (by decide +kernel)) ?_
  refine p_gFc (ji := 2) (r := 0) rfl (h20.v (by decide +kernel) (by decide +kernel)) ?_
  refine p_it0 (by decide +kernel) ?_
  refine p_pF (ji := 8) rfl (fun M21 h21 => ?_)
  replace h21 := h20.st (al := 65) (il := 8) (xl := 0) h21 (by decide +kernel) (by decide +kernel) (by decide +kernel)
  refine p_rc (r := 0) (by decide +kernel) (hQ18 _ ?_)
  dsimp only
  show pw (bX2_read_79 (mX2_read_79 69999) _ _ _) _
  unfold bX2_read_79
  refine p_it0 (by decide +kernel) ?_
  refine p_gFc (ji := 7) (r := 1) rfl (h21.v (by decide +kernel) (by decide +kernel)) ?_
  refine p_it0 (by decide +kernel) ?_
  refine p_gFc (ji := 4) (r := 0) rfl (h21.v (by decide +kernel) (by decide +kernel)) ?_
  refine p_it1 (by decide +kernel) ?_
  refine p_gK ?_
  refine p_bindg (fun Q22 hQ22 => ?_)
  unfold mX2_readPart
  refine p_gFc (ji := 7) (r := 1) rfl (h21.v (by decide +kernel) (by decide +kernel)) ?_
  refine p_pF (ji := 7) rfl (fun M23 h23 => ?_)
  replace h23 := h21.st (al := 65) (il := 7) (xl := 0) h23 (by decide +kernel) (by decide +kernel) (by decide +kernel)
  refine p_gFc (ji := 6) (r := 72) rfl (h23.v (by decide +kernel) (by decide +kernel)) ?_
  refine p_gFc (ji := 7) (r := 0) rfl (h23.v (by decide +kernel) (by decide +kernel)) ?_
  refine p_aGc (r := 0) (h23.v (by decide +kernel) (by decide +kernel)) ?_
  refine p_gK ?_
  refine p_bindg (fun Q24 hQ24 => ?_)
  unfold mX2_firstWord
  refine p_gK ?_
  refine p_bindg (fun Q25 hQ25 => ?_)
  unfold mX2_isWord
  refine p_gFc (ji := 8) (r := 0) rfl (h23.v (by decide +kernel) (by decide +kernel)) ?_
  refine p_it0 (by decide +kernel) ?_
  refine p_rc (r := 0) (by decide +kernel) (hQ25 _ ?_)
  dsimp only
  refine p_it1 (by decide +kernel) ?_
  refine p_gK ?_
  refine p_bindg (fun Q26 hQ26 => ?_)
  unfold mX2_isWord
  refine p_gFc (ji := 8) (r := 0) rfl (h23.v (by decide +kernel) (by decide +kernel)) ?_
  refine p_it0 (by decide +kernel) ?_
  refine p_rc (r := 0) (by decide +kernel) (hQ26 _ ?_)
  dsimp only
  refine p_it1 (by decide +kernel) ?_
  refine p_gK ?_
  refine p_bindg (fun Q27 hQ27 => ?_)
  unfold mX2_isWord
  refine p_gFc (ji := 8) (r := 0) rfl (h23.v (by decide +kernel) (by decide +kernel)) ?_
  refine p_it0 (by decide +kernel) ?_
  refine p_rc (r := 0) (by decide +kernel) (hQ27 _ ?_)
  dsimp only
  refine p_it1 (by decide +kernel) ?_
  refine p_gK ?_
  refine p_bindg (fun Q28 hQ28 => ?_)
  unfold mX2_isWord
  refine p_gFc (ji := 8) (r := 0) rfl (h23.v (by decide +kernel) (by decide +kernel)) ?_
  refine p_it0 (by decide +kernel) ?_
  refine p_rc (r := 0) (by decide +kernel) (hQ28 _ ?_)
  dsimp only
  refine p_it1 (by decide +kernel) ?_
  refine p_gK ?_
  refine p_bindg (fun Q29 hQ29 => ?_)
  unfold mX2_isWord
  refine p_gFc (ji := 8) (r := 0) rfl (h23.v (by decide +kernel) (by decide +kernel)) ?_
  refine p_it0 (by decide +kernel) ?_
  refine p_rc (r := 0) (by decide +kernel) (hQ29 _ ?_)
  dsimp only
  refine p_it1 (by decide +kernel) ?_
  refine p_gK ?_
  refine p_bindg (fun Q30 hQ30 => ?_)
  unfold mX2_isWord
  refine p_gFc (ji := 8) (r := 0) rfl (h23.v (by decide +kernel) (by decide +kernel)) ?_
  refine p_it0 (by decide +kernel) ?_
  refine p_rc (r := 0) (by decide +kernel) (hQ30 _ ?_)
  dsimp only
  refine p_it1 (by decide +kernel) ?_
  refine p_gK ?_
  refine p_bindg (fun Q31 hQ31 => ?_)
  unfold mX2_isWord
  refine p_gFc (ji := 8) (r := 0) rfl (h23.v (by decide +kernel) (by decide +kernel)) ?_
  refine p_it0 (by decide +kernel) ?_
  refine p_rc (r := 0) (by decide +kernel) (hQ31 _ ?_)
  dsimp only
  refine p_it1 (by decide +kernel) ?_
  refine p_gK ?_
  refine p_bindg (fun Q32 hQ32 => ?_)
  unfold mX2_isWord
  refine p_gFc (ji := 8) (r := 0) rfl (h23.v (by decide +kernel) (by decide +kernel)) ?_
  refine p_it0 (by decide +kernel) ?_
  refine p_rc (r := 0) (by decide +kernel) (hQ32 _ ?_)
  dsimp only
  refine p_it1 (by decide +kernel) ?_
  refine p_gK ?_
  refine p_bindg (fun Q33 hQ33 => ?_)
  unfold mX2_isWord
  refine p_gFc (ji := 8) (r := 0) rfl (h23.v (by decide +kernel) (by decide +kernel)) ?_
  refine p_it0 (by decide +kernel) ?_
  refine p_rc (r := 0) (by decide +kernel) (hQ33 _ ?_)
  dsimp only
  refine p_it1 (by decide +kernel) ?_
  refine p_gK ?_
  refine p_bindg (fun Q34 hQ34 => ?_)
  unfold mX2_isWord
  refine p_gFc (ji := 8) (r := 0) rfl (h23.v (by decide +kernel) (by decide +kernel)) ?_
  refine p_it0 (by decide +kernel) ?_
  refine p_rc (r := 0) (by decide +kernel) (hQ34 _ ?_)
  dsimp only
  refine p_it1 (by decide +kernel) ?_
  refine p_gK ?_
  refine p_bindg (fun Q35 hQ35 => ?_)
  unfold mX2_isWord
  refine p_gFc (ji := 8) (r := 0) rfl (h23.v (by decide +kernel) (by decide +kernel)) ?_
  refine p_it0 (by decide +kernel) ?_
  refine p_rc (r := 0) (by decide +kernel) (hQ35 _ ?_)
  dsimp only
  refine p_it1 (by decide +kernel) ?_
  refine p_gFc (ji := 3) (r := 4) rfl (h23.v (by decide +kernel) (by decide +kernel)) ?_
  refine p_gK ?_
  refine p_bindg (fun Q36 hQ36 => ?_)
  unfold mX2_oneLetter
  refine p_gFc (ji := 8) (r := 0) rfl (h23.v (by decide +kernel) (by decide +kernel)) ?_
  refine p_it0 (by decide +kernel) ?_
  refine p_rc (r := 0) (by decide +kernel) (hQ36 _ ?_)
  dsimp only
  refine p_gK ?_
  refine p_bindg (fun Q37 hQ37 => ?_)
  unfold mX3_hasRelation
  refine p_it1 (by decide +kernel) ?_
  refine p_rc (r := 0) (by decide +kernel) (hQ37 _ ?_)
  dsimp only
  refine p_it1 (by decide +kernel) ?_
  refine p_rc (r := (-1)) (by decide +kernel) (hQ24 _ ?_)
  dsimp only
  refine p_it1 (by decide +kernel) ?_
  refine p_gK ?_
  refine p_bindg (fun Q38 hQ38 => ?_)
  unfold mX2_refuse
  refine p_gFc (ji := 4) (r := 0) rfl (h23.v (by decide +kernel) (by decide +kernel)) ?_
  refine p_it1 (by decide +kernel) ?_
  refine p_pZ (ji := 4) rfl (fun M39 h39 => ?_)
  replace h39 := h23.st (al := 65) (il := 4) (xl := 1) h39 (by decide +kernel) (by decide +kernel) (by decide +kernel)
  refine p_gFc (ji := 0) (r := 3) rfl (h39.v (by decide +kernel) (by decide +kernel)) ?_
  refine p_pF (ji := 6) rfl (fun M40 h40 => ?_)
  replace h40 := h39.st (al := 3) (il := 6) (xl := 1) h40 (by decide +kernel) (by decide +kernel) (by decide +kernel)
  refine p_gFc (ji := 0) (r := 3) rfl (h40.v (by decide +kernel) (by decide +kernel)) ?_
  refine p_gFc (ji := 9) (r := 0) rfl (h40.v (by decide +kernel) (by decide +kernel)) ?_
  refine p_pF (ji := 7) rfl (fun M41 h41 => ?_)
  replace h41 := h40.st (al := 3) (il := 7) (xl := 0) h41 (by decide +kernel) (by decide +kernel) (by decide +kernel)
  refine p_rc (r := 0) (by decide +kernel) (hQ38 _ ?_)
  dsimp only
  refine p_rc (r := 0) (by decide +kernel) (hQ22 _ ?_)
  dsimp only
  show pw (bX2_read_79 (mX2_read_79 69998) _ _ _) _
  unfold bX2_read_79
  refine p_it0 (by decide +kernel) ?_
  refine p_gFc (ji := 7) (r := 0) rfl (h41.v (by decide +kernel) (by decide +kernel)) ?_
  refine p_it1 (by decide +kernel) ?_
  unfold mX2_read_110
  refine p_gFc (ji := 8) (r := 0) rfl (h41.v (by decide +kernel) (by decide +kernel)) ?_
  refine p_it1 (by decide +kernel) ?_
  unfold mX2_read_121
  refine p_gFc (ji := 0) (r := 3) rfl (h41.v (by decide +kernel) (by decide +kernel)) ?_
  refine p_gFc (ji := 6) (r := 1) rfl (h41.v (by decide +kernel) (by decide +kernel)) ?_
  refine p_it0 (by decide +kernel) ?_
  refine p_rc (r := 0) (by decide +kernel) (hQ1 _ ?_)
  dsimp only
  refine p_it1 (by decide +kernel) ?_
  exact p_rc (r := (-1)) (by decide +kernel) rfl
theorem fx8_fault {l1 : Int} {M : Mem} (t0 : TR 0 1 125 [] M) (r_l1 : (-2147483648) ≤ l1 ∧ l1 ≤ 2147483647) : pw (mX8_fault 1 l1 M) (fun q => sp_fault l1 q.1) := by
  unfold mX8_fault
  refine p_ifeq_r (r := 0) (by decide +kernel) (fun c1 => ?_) (fun c1 => ?_)
  · skip
    refine p_gFc (ji := 1) (r := 3) rfl (t0.v (by decide +kernel) (by decide +kernel)) ?_
    refine p_gFc (ji := 6) (r := 0) rfl (t0.v (by decide +kernel) (by decide +kernel)) ?_
    refine p_rc (r := 0) (by decide +kernel) ?_
    show sp_fault _ _
    unfold sp_fault
    omega
  · skip
    refine p_ifeq_r (r := 1) (by decide +kernel) (fun c2 => ?_) (fun c2 => ?_)
    · skip
      refine p_gFc (ji := 1) (r := 3) rfl (t0.v (by decide +kernel) (by decide +kernel)) ?_
      refine p_gFc (ji := 7) (r := (-1)) rfl (t0.v (by decide +kernel) (by decide +kernel)) ?_
      refine p_rc (r := (-1)) (by decide +kernel) ?_
      show sp_fault _ _
      unfold sp_fault
      omega
    · skip
      refine p_rc (r := (-1)) (by decide +kernel) ?_
      show sp_fault _ _
      unfold sp_fault
      omega
theorem fx8_strike {l1 : Int} {M : Mem} (t0 : TR 0 1 125 [] M) (r_l1 : (-2147483648) ≤ l1 ∧ l1 ≤ 2147483647) : pw (mX8_strike 1 l1 M) (fun q => q.1 = 0) := by
  unfold mX8_strike
  refine p_gFc (ji := 1) (r := 3) rfl (t0.v (by decide +kernel) (by decide +kernel)) ?_
  refine p_gK ?_
  refine p_bindg (fun Q1 hQ1 => ?_)
  unfold mX6_hasStory
  refine p_iflt_r (r := 0) (by decide +kernel) (fun c2 => ?_) (fun c2 => ?_)
  · skip
    refine p_rc (r := 0) (by decide +kernel) (hQ1 _ ?_)
    dsimp only
    refine p_it1 (by decide +kernel) ?_
    exact p_rc (r := 0) (by decide +kernel) rfl
  · skip
    refine p_gFc (ji := 11) (r := 0) rfl (t0.v (by decide +kernel) (by decide +kernel)) ?_
    refine p_ifle_l (r := 0) (by decide +kernel) (fun c3 => ?_) (fun c3 => absurd (by omega) c3)
    refine p_rc (r := 0) (by decide +kernel) (hQ1 _ ?_)
    dsimp only
    refine p_it1 (by decide +kernel) ?_
    exact p_rc (r := 0) (by decide +kernel) rfl
theorem fx8_so {l1 : Int} {M : Mem} (t0 : TR 0 1 125 [] M) (r_l1 : (-2147483648) ≤ l1 ∧ l1 ≤ 2147483647) : pw (mX8_so 1 l1 M) (fun q => q.1 = (-1)) := by
  unfold mX8_so
  refine p_ifeq_r (r := (-1)) (by decide +kernel) (fun c1 => ?_) (fun c1 => ?_)
  · skip
    refine p_gFc (ji := 1) (r := 3) rfl (t0.v (by decide +kernel) (by decide +kernel)) ?_
    refine p_gFc (ji := 12) (r := 0) rfl (t0.v (by decide +kernel) (by decide +kernel)) ?_
    unfold mX8_so_23
    refine p_it1 (by decide +kernel) ?_
    exact p_rc (r := (-1)) (by decide +kernel) rfl
  · skip
    refine p_gFc (ji := 1) (r := 3) rfl (t0.v (by decide +kernel) (by decide +kernel)) ?_
    refine p_gK ?_
    refine p_bindg (fun Q2 hQ2 => ?_)
    unfold mX6_storyText
    refine p_gK ?_
    refine p_bindg (fun Q3 hQ3 => ?_)
    unfold mX6_hasStory
    refine p_iflt_r (r := 0) (by decide +kernel) (fun c4 => ?_) (fun c4 => ?_)
    · skip
      refine p_rc (r := 0) (by decide +kernel) (hQ3 _ ?_)
      dsimp only
      refine p_it1 (by decide +kernel) ?_
      refine p_rc (r := 0) (by decide +kernel) (hQ2 _ ?_)
      dsimp only
      unfold mX8_so_23
      refine p_it1 (by decide +kernel) ?_
      exact p_rc (r := (-1)) (by decide +kernel) rfl
    · skip
      refine p_gFc (ji := 11) (r := 0) rfl (t0.v (by decide +kernel) (by decide +kernel)) ?_
      refine p_ifle_l (r := 0) (by decide +kernel) (fun c5 => ?_) (fun c5 => absurd (by omega) c5)
      refine p_rc (r := 0) (by decide +kernel) (hQ3 _ ?_)
      dsimp only
      refine p_it1 (by decide +kernel) ?_
      refine p_rc (r := 0) (by decide +kernel) (hQ2 _ ?_)
      dsimp only
      unfold mX8_so_23
      refine p_it1 (by decide +kernel) ?_
      exact p_rc (r := (-1)) (by decide +kernel) rfl
theorem fx8_breaks {l1 l2 : Int} {M : Mem} (t0 : TR 0 1 125 [] M) (r_l1 : (-2147483648) ≤ l1 ∧ l1 ≤ 2147483647) (r_l2 : (-2147483648) ≤ l2 ∧ l2 ≤ 2147483647) : pw (mX8_breaks 1 l1 l2 M) (fun q => q.1 = (-1)) := by
  unfold mX8_breaks
  refine p_gFc (ji := 1) (r := 3) rfl (t0.v (by decide +kernel) (by decide +kernel)) ?_
  refine p_gK ?_
  refine p_bindg (fun Q1 hQ1 => ?_)
  unfold mX6_storyText
  refine p_gK ?_
  refine p_bindg (fun Q2 hQ2 => ?_)
  unfold mX6_hasStory
  refine p_iflt_r (r := 0) (by decide +kernel) (fun c3 => ?_) (fun c3 => ?_)
  · skip
    refine p_rc (r := 0) (by decide +kernel) (hQ2 _ ?_)
    dsimp only
    refine p_it1 (by decide +kernel) ?_
    refine p_rc (r := 0) (by decide +kernel) (hQ1 _ ?_)
    dsimp only
    refine p_it1 (by decide +kernel) ?_
    exact p_rc (r := (-1)) (by decide +kernel) rfl
  · skip
    refine p_gFc (ji := 11) (r := 0) rfl (t0.v (by decide +kernel) (by decide +kernel)) ?_
    refine p_ifle_l (r := 0) (by decide +kernel) (fun c4 => ?_) (fun c4 => absurd (by omega) c4)
    refine p_rc (r := 0) (by decide +kernel) (hQ2 _ ?_)
    dsimp only
    refine p_it1 (by decide +kernel) ?_
    refine p_rc (r := 0) (by decide +kernel) (hQ1 _ ?_)
    dsimp only
    refine p_it1 (by decide +kernel) ?_
    exact p_rc (r := (-1)) (by decide +kernel) rfl
theorem fx8_worlds {M : Mem} (t0 : TR 0 1 125 [] M) : pw (mX8_worlds 1 M) (fun q => q.1 = 1) := by
  unfold mX8_worlds
  refine p_gFc (ji := 0) (r := 2) rfl (t0.v (by decide +kernel) (by decide +kernel)) ?_
  refine p_gK ?_
  refine p_bindg (fun Q1 hQ1 => ?_)
  unfold mX4_countWorlds
  refine p_gK ?_
  refine p_bindg (fun Q2 hQ2 => ?_)
  unfold mX4_lookUp
  refine p_gK ?_
  refine p_bindg (fun Q3 hQ3 => ?_)
  unfold mX4_canTell
  refine p_gFc (ji := 0) (r := 3) rfl (t0.v (by decide +kernel) (by decide +kernel)) ?_
  refine p_gFc (ji := 0) (r := 4) rfl (t0.v (by decide +kernel) (by decide +kernel)) ?_
  refine p_gFc (ji := 7) (r := 0) rfl (t0.v (by decide +kernel) (by decide +kernel)) ?_
  refine p_it0 (by decide +kernel) ?_
  refine p_rc (r := 1) (by decide +kernel) (hQ3 _ ?_)
  dsimp only
  refine p_it0 (by decide +kernel) ?_
  refine p_gK ?_
  refine p_bindg (fun Q4 hQ4 => ?_)
  unfold mX4_findPossible
  refine p_gFc (ji := 0) (r := 3) rfl (t0.v (by decide +kernel) (by decide +kernel)) ?_
  refine p_gFc (ji := 0) (r := 4) rfl (t0.v (by decide +kernel) (by decide +kernel)) ?_
  refine p_gFc (ji := 5) (r := 32) rfl (t0.v (by decide +kernel) (by decide +kernel)) ?_
  refine p_gFc (ji := 7) (r := 0) rfl (t0.v (by decide +kernel) (by decide +kernel)) ?_
  refine p_gK ?_
  refine p_bindg (fun Q5 hQ5 => ?_)
  unfold mX7_takeAll
  refine p_gK ?_
  refine p_bindg (fun Q6 hQ6 => ?_)
  unfold mX7_takeNone
  refine p_pF (ji := 2) rfl (fun M7 h7 => ?_)
  replace h7 := t0.st (al := 32) (il := 2) (xl := 0) h7 (by decide +kernel) (by decide +kernel) (by decide +kernel)
  refine p_gFc (ji := 2) (r := 0) rfl (h7.v (by decide +kernel) (by decide +kernel)) ?_
  refine p_it0 (by decide +kernel) ?_
  unfold mX7_takeNone_37
  refine p_pF (ji := 1) rfl (fun M8 h8 => ?_)
  replace h8 := h7.st (al := 32) (il := 1) (xl := 1) h8 (by decide +kernel) (by decide +kernel) (by decide +kernel)
  show pw (bX7_takeNone_42 (mX7_takeNone_42 69999) _ _ _) _
  unfold bX7_takeNone_42
  refine p_gFc (ji := 1) (r := 1) rfl (h8.v (by decide +kernel) (by decide +kernel)) ?_
  refine p_it0 (by decide +kernel) ?_
  refine p_gFc (ji := 0) (r := 33) rfl (h8.v (by decide +kernel) (by decide +kernel)) ?_
  refine p_aS (fun M9 h9 => ?_)
  replace h9 := h8.st (al := 33) (il := 0) (xl := 0) h9 (by decide +kernel) (by decide +kernel) (by decide +kernel)
  show pw (bX7_takeNone_42 (mX7_takeNone_42 69998) _ _ _) _
  unfold bX7_takeNone_42
  refine p_gFc (ji := 1) (r := 1) rfl (h9.v (by decide +kernel) (by decide +kernel)) ?_
  refine p_it1 (by decide +kernel) ?_
  refine p_rc (r := 0) (by decide +kernel) (hQ6 _ ?_)
  dsimp only
  show pw (bX7_takeAll_7 (mX7_takeAll_7 69999) _ _ _) _
  unfold bX7_takeAll_7
  refine p_gFc (ji := 1) (r := 1) rfl (h9.v (by decide +kernel) (by decide +kernel)) ?_
  refine p_it0 (by decide +kernel) ?_
  refine p_gFc (ji := 0) (r := 33) rfl (h9.v (by decide +kernel) (by decide +kernel)) ?_
  refine p_gFc (ji := 2) (r := 0) rfl (h9.v (by decide +kernel) (by decide +kernel)) ?_
  refine p_it0 (by decide +kernel) ?_
  refine p_gFc (ji := 2) (r := 0) rfl (h9.v (by decide +kernel) (by decide +kernel)) ?_
  unfold mX7_takeAll_45
  refine p_aS (fun M10 h10 => ?_)
  replace h10 := h9.st (al := 33) (il := 0) (xl := 1) h10 (by decide +kernel) (by decide +kernel) (by decide +kernel)
  show pw (bX7_takeAll_7 (mX7_takeAll_7 69998) _ _ _) _
  unfold bX7_takeAll_7
  refine p_gFc (ji := 1) (r := 1) rfl (h10.v (by decide +kernel) (by decide +kernel)) ?_
  refine p_it1 (by decide +kernel) ?_
  refine p_rc (r := 0) (by decide +kernel) (hQ5 _ ?_)
  dsimp only
  show pw (bX4_findPossible_21 (mX4_findPossible_21 69999) _ _ _ _) _
  unfold bX4_findPossible_21
  refine p_gFc (ji := 6) (r := 0) rfl (h10.v (by decide +kernel) (by decide +kernel)) ?_
  refine p_it1 (by decide +kernel) ?_
  refine p_rc (r := 0) (by decide +kernel) (hQ4 _ ?_)
  dsimp only
  refine p_gFc (ji := 6) (r := 34) rfl (h10.v (by decide +kernel) (by decide +kernel)) ?_
  refine p_gFc (ji := 5) (r := 32) rfl (h10.v (by decide +kernel) (by decide +kernel)) ?_
  refine p_gK ?_
  refine p_bindg (fun Q11 hQ11 => ?_)
  unfold mX7_copy
  refine p_gFc (ji := 2) (r := 0) rfl (h10.v (by decide +kernel) (by decide +kernel)) ?_
  refine p_pF (ji := 2) rfl (fun M12 h12 => ?_)
  replace h12 := h10.st (al := 34) (il := 2) (xl := 0) h12 (by decide +kernel) (by decide +kernel) (by decide +kernel)
  refine p_gFc (ji := 1) (r := 1) rfl (h12.v (by decide +kernel) (by decide +kernel)) ?_
  refine p_pF (ji := 1) rfl (fun M13 h13 => ?_)
  replace h13 := h12.st (al := 34) (il := 1) (xl := 1) h13 (by decide +kernel) (by decide +kernel) (by decide +kernel)
  refine p_gFc (ji := 0) (r := 33) rfl (h13.v (by decide +kernel) (by decide +kernel)) ?_
  refine p_gFc (ji := 0) (r := 35) rfl (h13.v (by decide +kernel) (by decide +kernel)) ?_
  refine p_gFc (ji := 1) (r := 1) rfl (h13.v (by decide +kernel) (by decide +kernel)) ?_
  refine p_aC (fun M14 h14 => ?_)
  replace h14 := h13.cp (vs := [1]) (al := 35) h14 (by decide +kernel) (by decide +kernel) (by decide +kernel) (by decide +kernel)
  refine p_rc (r := 0) (by decide +kernel) (hQ11 _ ?_)
  dsimp only
  refine p_gFc (ji := 0) (r := 3) rfl (h14.v (by decide +kernel) (by decide +kernel)) ?_
  refine p_gK ?_
  refine p_bindg (fun Q15 hQ15 => ?_)
  unfold mX6_viewedStories
  show pw (bX6_viewedStories_4 (mX6_viewedStories_4 69999) _ _ _ _) _
  unfold bX6_viewedStories_4
  refine p_gFc (ji := 11) (r := 0) rfl (h14.v (by decide +kernel) (by decide +kernel)) ?_
  refine p_it1 (by decide +kernel) ?_
  refine p_rc (r := 0) (by decide +kernel) (hQ15 _ ?_)
  dsimp only
  show pw (bX4_lookUp_34 (mX4_lookUp_34 69999) _ _ _ _) _
  unfold bX4_lookUp_34
  refine p_it0 (by decide +kernel) ?_
  refine p_it1 (by decide +kernel) ?_
  unfold mX4_lookUp_69
  show pw (bX4_lookUp_34 (mX4_lookUp_34 69998) _ _ _ _) _
  unfold bX4_lookUp_34
  refine p_it0 (by decide +kernel) ?_
  refine p_it1 (by decide +kernel) ?_
  unfold mX4_lookUp_69
  show pw (bX4_lookUp_34 (mX4_lookUp_34 69997) _ _ _ _) _
  unfold bX4_lookUp_34
  refine p_it0 (by decide +kernel) ?_
  refine p_it1 (by decide +kernel) ?_
  unfold mX4_lookUp_69
  show pw (bX4_lookUp_34 (mX4_lookUp_34 69996) _ _ _ _) _
  unfold bX4_lookUp_34
  refine p_it0 (by decide +kernel) ?_
  refine p_it1 (by decide +kernel) ?_
  unfold mX4_lookUp_69
  show pw (bX4_lookUp_34 (mX4_lookUp_34 69995) _ _ _ _) _
  unfold bX4_lookUp_34
  refine p_it0 (by decide +kernel) ?_
  refine p_it1 (by decide +kernel) ?_
  unfold mX4_lookUp_69
  show pw (bX4_lookUp_34 (mX4_lookUp_34 69994) _ _ _ _) _
  unfold bX4_lookUp_34
  refine p_it0 (by decide +kernel) ?_
  refine p_it1 (by decide +kernel) ?_
  unfold mX4_lookUp_69
  show pw (bX4_lookUp_34 (mX4_lookUp_34 69993) _ _ _ _) _
  unfold bX4_lookUp_34
  refine p_it0 (by decide +kernel) ?_
  refine p_it1 (by decide +kernel) ?_
  unfold mX4_lookUp_69
  show pw (bX4_lookUp_34 (mX4_lookUp_34 69992) _ _ _ _) _
  unfold bX4_lookUp_34
  refine p_it0 (by decide +kernel) ?_
  refine p_it1 (by decide +kernel) ?_
  unfold mX4_lookUp_69
  show pw (bX4_lookUp_34 (mX4_lookUp_34 69991) _ _ _ _) _
  unfold bX4_lookUp_34
  refine p_it1 (by decide +kernel) ?_
  refine p_rc (r := 1) (by decide +kernel) (hQ2 _ ?_)
  dsimp only
  refine p_it0 (by decide +kernel) ?_
  refine p_gFc (ji := 6) (r := 34) rfl (h14.v (by decide +kernel) (by decide +kernel)) ?_
  refine p_gK ?_
  refine p_bindg (fun Q16 hQ16 => ?_)
  unfold mX7_count
  show pw (bX7_count_4 (mX7_count_4 69999) _ _ _ _) _
  unfold bX7_count_4
  refine p_gFc (ji := 1) (r := 1) rfl (h14.v (by decide +kernel) (by decide +kernel)) ?_
  refine p_it0 (by decide +kernel) ?_
  refine p_gFc (ji := 0) (r := 35) rfl (h14.v (by decide +kernel) (by decide +kernel)) ?_
  refine p_aGc (r := 1) (h14.v (by decide +kernel) (by decide +kernel)) ?_
  refine p_bindg (fun Q17 hQ17 => ?_)
  unfold mJ13_bitCount_95d88
  refine p_some (fun v18 h18 => ?_)
  have h18 : v18 = 1 := h18.trans (by decide +kernel)
  subst h18
  refine p_some (fun v19 h19 => ?_)
  have h19 : v19 = 1 := h19.trans (by decide +kernel)
  subst h19
  refine p_some (fun v20 h20 => ?_)
  have h20 : v20 = 1 := h20.trans (by decide +kernel)
  subst h20
  refine p_some (fun v21 h21 => ?_)
  have h21 : v21 = 1 := h21.trans (by decide +kernel)
  subst h21
  refine p_some (fun v22 h22 => ?_)
  have h22 : v22 = 1 := h22.trans (by decide +kernel)
  subst h22
  refine p_rc (r := 1) (by decide +kernel) (hQ17 _ ?_)
  dsimp only
  show pw (bX7_count_4 (mX7_count_4 69998) _ _ _ _) _
  unfold bX7_count_4
  refine p_gFc (ji := 1) (r := 1) rfl (h14.v (by decide +kernel) (by decide +kernel)) ?_
  refine p_it1 (by decide +kernel) ?_
  refine p_rc (r := 1) (by decide +kernel) (hQ16 _ ?_)
  dsimp only
  refine p_rc (r := 1) (by decide +kernel) (hQ1 _ ?_)
  dsimp only
  exact p_rc (r := 1) (by decide +kernel) rfl
theorem fx8_forms {M : Mem} (t0 : TR 0 1 125 [] M) : pw (mX8_forms 1 M) (fun q => q.1 = 1) := by
  unfold mX8_forms
  refine p_gFc (ji := 0) (r := 2) rfl (t0.v (by decide +kernel) (by decide +kernel)) ?_
  refine p_gK ?_
  refine p_bindg (fun Q1 hQ1 => ?_)
  unfold mX4_countForms
  refine p_gK ?_
  refine p_bindg (fun Q2 hQ2 => ?_)
  unfold mX4_lookUp
  refine p_gK ?_
  refine p_bindg (fun Q3 hQ3 => ?_)
  unfold mX4_canTell
  refine p_gFc (ji := 0) (r := 3) rfl (t0.v (by decide +kernel) (by decide +kernel)) ?_
  refine p_gFc (ji := 0) (r := 4) rfl (t0.v (by decide +kernel) (by decide +kernel)) ?_
  refine p_gFc (ji := 7) (r := 0) rfl (t0.v (by decide +kernel) (by decide +kernel)) ?_
  refine p_it0 (by decide +kernel) ?_
  refine p_rc (r := 1) (by decide +kernel) (hQ3 _ ?_)
  dsimp only
  refine p_it0 (by decide +kernel) ?_
  refine p_gK ?_
  refine p_bindg (fun Q4 hQ4 => ?_)
  unfold mX4_findPossible
  refine p_gFc (ji := 0) (r := 3) rfl (t0.v (by decide +kernel) (by decide +kernel)) ?_
  refine p_gFc (ji := 0) (r := 4) rfl (t0.v (by decide +kernel) (by decide +kernel)) ?_
  refine p_gFc (ji := 5) (r := 32) rfl (t0.v (by decide +kernel) (by decide +kernel)) ?_
  refine p_gFc (ji := 7) (r := 0) rfl (t0.v (by decide +kernel) (by decide +kernel)) ?_
  refine p_gK ?_
  refine p_bindg (fun Q5 hQ5 => ?_)
  unfold mX7_takeAll
  refine p_gK ?_
  refine p_bindg (fun Q6 hQ6 => ?_)
  unfold mX7_takeNone
  refine p_pF (ji := 2) rfl (fun M7 h7 => ?_)
  replace h7 := t0.st (al := 32) (il := 2) (xl := 0) h7 (by decide +kernel) (by decide +kernel) (by decide +kernel)
  refine p_gFc (ji := 2) (r := 0) rfl (h7.v (by decide +kernel) (by decide +kernel)) ?_
  refine p_it0 (by decide +kernel) ?_
  unfold mX7_takeNone_37
  refine p_pF (ji := 1) rfl (fun M8 h8 => ?_)
  replace h8 := h7.st (al := 32) (il := 1) (xl := 1) h8 (by decide +kernel) (by decide +kernel) (by decide +kernel)
  show pw (bX7_takeNone_42 (mX7_takeNone_42 69999) _ _ _) _
  unfold bX7_takeNone_42
  refine p_gFc (ji := 1) (r := 1) rfl (h8.v (by decide +kernel) (by decide +kernel)) ?_
  refine p_it0 (by decide +kernel) ?_
  refine p_gFc (ji := 0) (r := 33) rfl (h8.v (by decide +kernel) (by decide +kernel)) ?_
  refine p_aS (fun M9 h9 => ?_)
  replace h9 := h8.st (al := 33) (il := 0) (xl := 0) h9 (by decide +kernel) (by decide +kernel) (by decide +kernel)
  show pw (bX7_takeNone_42 (mX7_takeNone_42 69998) _ _ _) _
  unfold bX7_takeNone_42
  refine p_gFc (ji := 1) (r := 1) rfl (h9.v (by decide +kernel) (by decide +kernel)) ?_
  refine p_it1 (by decide +kernel) ?_
  refine p_rc (r := 0) (by decide +kernel) (hQ6 _ ?_)
  dsimp only
  show pw (bX7_takeAll_7 (mX7_takeAll_7 69999) _ _ _) _
  unfold bX7_takeAll_7
  refine p_gFc (ji := 1) (r := 1) rfl (h9.v (by decide +kernel) (by decide +kernel)) ?_
  refine p_it0 (by decide +kernel) ?_
  refine p_gFc (ji := 0) (r := 33) rfl (h9.v (by decide +kernel) (by decide +kernel)) ?_
  refine p_gFc (ji := 2) (r := 0) rfl (h9.v (by decide +kernel) (by decide +kernel)) ?_
  refine p_it0 (by decide +kernel) ?_
  refine p_gFc (ji := 2) (r := 0) rfl (h9.v (by decide +kernel) (by decide +kernel)) ?_
  unfold mX7_takeAll_45
  refine p_aS (fun M10 h10 => ?_)
  replace h10 := h9.st (al := 33) (il := 0) (xl := 1) h10 (by decide +kernel) (by decide +kernel) (by decide +kernel)
  show pw (bX7_takeAll_7 (mX7_takeAll_7 69998) _ _ _) _
  unfold bX7_takeAll_7
  refine p_gFc (ji := 1) (r := 1) rfl (h10.v (by decide +kernel) (by decide +kernel)) ?_
  refine p_it1 (by decide +kernel) ?_
  refine p_rc (r := 0) (by decide +kernel) (hQ5 _ ?_)
  dsimp only
  show pw (bX4_findPossible_21 (mX4_findPossible_21 69999) _ _ _ _) _
  unfold bX4_findPossible_21
  refine p_gFc (ji := 6) (r := 0) rfl (h10.v (by decide +kernel) (by decide +kernel)) ?_
  refine p_it1 (by decide +kernel) ?_
  refine p_rc (r := 0) (by decide +kernel) (hQ4 _ ?_)
  dsimp only
  refine p_gFc (ji := 6) (r := 34) rfl (h10.v (by decide +kernel) (by decide +kernel)) ?_
  refine p_gFc (ji := 5) (r := 32) rfl (h10.v (by decide +kernel) (by decide +kernel)) ?_
  refine p_gK ?_
  refine p_bindg (fun Q11 hQ11 => ?_)
  unfold mX7_copy
  refine p_gFc (ji := 2) (r := 0) rfl (h10.v (by decide +kernel) (by decide +kernel)) ?_
  refine p_pF (ji := 2) rfl (fun M12 h12 => ?_)
  replace h12 := h10.st (al := 34) (il := 2) (xl := 0) h12 (by decide +kernel) (by decide +kernel) (by decide +kernel)
  refine p_gFc (ji := 1) (r := 1) rfl (h12.v (by decide +kernel) (by decide +kernel)) ?_
  refine p_pF (ji := 1) rfl (fun M13 h13 => ?_)
  replace h13 := h12.st (al := 34) (il := 1) (xl := 1) h13 (by decide +kernel) (by decide +kernel) (by decide +kernel)
  refine p_gFc (ji := 0) (r := 33) rfl (h13.v (by decide +kernel) (by decide +kernel)) ?_
  refine p_gFc (ji := 0) (r := 35) rfl (h13.v (by decide +kernel) (by decide +kernel)) ?_
  refine p_gFc (ji := 1) (r := 1) rfl (h13.v (by decide +kernel) (by decide +kernel)) ?_
  refine p_aC (fun M14 h14 => ?_)
  replace h14 := h13.cp (vs := [1]) (al := 35) h14 (by decide +kernel) (by decide +kernel) (by decide +kernel) (by decide +kernel)
  refine p_rc (r := 0) (by decide +kernel) (hQ11 _ ?_)
  dsimp only
  refine p_gFc (ji := 0) (r := 3) rfl (h14.v (by decide +kernel) (by decide +kernel)) ?_
  refine p_gK ?_
  refine p_bindg (fun Q15 hQ15 => ?_)
  unfold mX6_viewedStories
  show pw (bX6_viewedStories_4 (mX6_viewedStories_4 69999) _ _ _ _) _
  unfold bX6_viewedStories_4
  refine p_gFc (ji := 11) (r := 0) rfl (h14.v (by decide +kernel) (by decide +kernel)) ?_
  refine p_it1 (by decide +kernel) ?_
  refine p_rc (r := 0) (by decide +kernel) (hQ15 _ ?_)
  dsimp only
  show pw (bX4_lookUp_34 (mX4_lookUp_34 69999) _ _ _ _) _
  unfold bX4_lookUp_34
  refine p_it0 (by decide +kernel) ?_
  refine p_it1 (by decide +kernel) ?_
  unfold mX4_lookUp_69
  show pw (bX4_lookUp_34 (mX4_lookUp_34 69998) _ _ _ _) _
  unfold bX4_lookUp_34
  refine p_it0 (by decide +kernel) ?_
  refine p_it1 (by decide +kernel) ?_
  unfold mX4_lookUp_69
  show pw (bX4_lookUp_34 (mX4_lookUp_34 69997) _ _ _ _) _
  unfold bX4_lookUp_34
  refine p_it0 (by decide +kernel) ?_
  refine p_it1 (by decide +kernel) ?_
  unfold mX4_lookUp_69
  show pw (bX4_lookUp_34 (mX4_lookUp_34 69996) _ _ _ _) _
  unfold bX4_lookUp_34
  refine p_it0 (by decide +kernel) ?_
  refine p_it1 (by decide +kernel) ?_
  unfold mX4_lookUp_69
  show pw (bX4_lookUp_34 (mX4_lookUp_34 69995) _ _ _ _) _
  unfold bX4_lookUp_34
  refine p_it0 (by decide +kernel) ?_
  refine p_it1 (by decide +kernel) ?_
  unfold mX4_lookUp_69
  show pw (bX4_lookUp_34 (mX4_lookUp_34 69994) _ _ _ _) _
  unfold bX4_lookUp_34
  refine p_it0 (by decide +kernel) ?_
  refine p_it1 (by decide +kernel) ?_
  unfold mX4_lookUp_69
  show pw (bX4_lookUp_34 (mX4_lookUp_34 69993) _ _ _ _) _
  unfold bX4_lookUp_34
  refine p_it0 (by decide +kernel) ?_
  refine p_it1 (by decide +kernel) ?_
  unfold mX4_lookUp_69
  show pw (bX4_lookUp_34 (mX4_lookUp_34 69992) _ _ _ _) _
  unfold bX4_lookUp_34
  refine p_it0 (by decide +kernel) ?_
  refine p_it1 (by decide +kernel) ?_
  unfold mX4_lookUp_69
  show pw (bX4_lookUp_34 (mX4_lookUp_34 69991) _ _ _ _) _
  unfold bX4_lookUp_34
  refine p_it1 (by decide +kernel) ?_
  refine p_rc (r := 1) (by decide +kernel) (hQ2 _ ?_)
  dsimp only
  refine p_it0 (by decide +kernel) ?_
  refine p_gK ?_
  refine p_bindg (fun Q16 hQ16 => ?_)
  unfold mX4_pickForms
  refine p_gFc (ji := 7) (r := 36) rfl (h14.v (by decide +kernel) (by decide +kernel)) ?_
  refine p_gFc (ji := 6) (r := 34) rfl (h14.v (by decide +kernel) (by decide +kernel)) ?_
  refine p_gK ?_
  refine p_bindg (fun Q17 hQ17 => ?_)
  unfold mX7_copy
  refine p_gFc (ji := 2) (r := 0) rfl (h14.v (by decide +kernel) (by decide +kernel)) ?_
  refine p_pF (ji := 2) rfl (fun M18 h18 => ?_)
  replace h18 := h14.st (al := 36) (il := 2) (xl := 0) h18 (by decide +kernel) (by decide +kernel) (by decide +kernel)
  refine p_gFc (ji := 1) (r := 1) rfl (h18.v (by decide +kernel) (by decide +kernel)) ?_
  refine p_pF (ji := 1) rfl (fun M19 h19 => ?_)
  replace h19 := h18.st (al := 36) (il := 1) (xl := 1) h19 (by decide +kernel) (by decide +kernel) (by decide +kernel)
  refine p_gFc (ji := 0) (r := 35) rfl (h19.v (by decide +kernel) (by decide +kernel)) ?_
  refine p_gFc (ji := 0) (r := 37) rfl (h19.v (by decide +kernel) (by decide +kernel)) ?_
  refine p_gFc (ji := 1) (r := 1) rfl (h19.v (by decide +kernel) (by decide +kernel)) ?_
  refine p_aC (fun M20 h20 => ?_)
  replace h20 := h19.cp (vs := [1]) (al := 37) h20 (by decide +kernel) (by decide +kernel) (by decide +kernel) (by decide +kernel)
  refine p_rc (r := 0) (by decide +kernel) (hQ17 _ ?_)
  dsimp only
  refine p_gFc (ji := 7) (r := 36) rfl (h20.v (by decide +kernel) (by decide +kernel)) ?_
  refine p_gFc (ji := 2) (r := 24) rfl (h20.v (by decide +kernel) (by decide +kernel)) ?_
  refine p_gFc (ji := 0) (r := 3) rfl (h20.v (by decide +kernel) (by decide +kernel)) ?_
  refine p_gFc (ji := 0) (r := 4) rfl (h20.v (by decide +kernel) (by decide +kernel)) ?_
  refine p_gK ?_
  refine p_bindg (fun Q21 hQ21 => ?_)
  unfold mX1_leastOnes
  refine p_gK ?_
  refine p_bindg (fun Q22 hQ22 => ?_)
  unfold mX1_layOut
  refine p_gFc (ji := 6) (r := 0) rfl (h20.v (by decide +kernel) (by decide +kernel)) ?_
  refine p_it1 (by decide +kernel) ?_
  refine p_gFc (ji := 7) (r := 0) rfl (h20.v (by decide +kernel) (by decide +kernel)) ?_
  refine p_it1 (by decide +kernel) ?_
  refine p_pZ (ji := 6) rfl (fun M23 h23 => ?_)
  replace h23 := h20.st (al := 24) (il := 6) (xl := 1) h23 (by decide +kernel) (by decide +kernel) (by decide +kernel)
  refine p_gFc (ji := 7) (r := 0) rfl (h23.v (by decide +kernel) (by decide +kernel)) ?_
  refine p_pF (ji := 5) rfl (fun M24 h24 => ?_)
  replace h24 := h23.st (al := 24) (il := 5) (xl := 0) h24 (by decide +kernel) (by decide +kernel) (by decide +kernel)
  refine p_pF (ji := 4) rfl (fun M25 h25 => ?_)
  replace h25 := h24.st (al := 24) (il := 4) (xl := 0) h25 (by decide +kernel) (by decide +kernel) (by decide +kernel)
  refine p_bindg (fun Q26 hQ26 => ?_)
  unfold mX1_ordersOf
  show pw (bX1_ordersOf_2 (mX1_ordersOf_2 69999) _ _ _ _) _
  unfold bX1_ordersOf_2
  refine p_gFc (ji := 6) (r := 0) rfl (h25.v (by decide +kernel) (by decide +kernel)) ?_
  refine p_it1 (by decide +kernel) ?_
  refine p_rc (r := 1) (by decide +kernel) (hQ26 _ ?_)
  dsimp only
  refine p_bindg (fun Q27 hQ27 => ?_)
  unfold mX1_ordersOf
  show pw (bX1_ordersOf_2 (mX1_ordersOf_2 69999) _ _ _ _) _
  unfold bX1_ordersOf_2
  refine p_gFc (ji := 6) (r := 0) rfl (h25.v (by decide +kernel) (by decide +kernel)) ?_
  refine p_it1 (by decide +kernel) ?_
  refine p_rc (r := 1) (by decide +kernel) (hQ27 _ ?_)
  dsimp only
  refine p_bindg (fun Q28 hQ28 => ?_)
  unfold mX1_ordersOf
  show pw (bX1_ordersOf_2 (mX1_ordersOf_2 69999) _ _ _ _) _
  unfold bX1_ordersOf_2
  refine p_gFc (ji := 6) (r := 0) rfl (h25.v (by decide +kernel) (by decide +kernel)) ?_
  refine p_it1 (by decide +kernel) ?_
  refine p_rc (r := 1) (by decide +kernel) (hQ28 _ ?_)
  dsimp only
  refine p_gFc (ji := 0) (r := 25) rfl (h25.v (by decide +kernel) (by decide +kernel)) ?_
  refine p_aS (fun M29 h29 => ?_)
  replace h29 := h25.st (al := 25) (il := 0) (xl := 0) h29 (by decide +kernel) (by decide +kernel) (by decide +kernel)
  show pw (bX1_layOut_61 (mX1_layOut_61 69999) _ _ _ _ _ _) _
  unfold bX1_layOut_61
  refine p_gFc (ji := 0) (r := 25) rfl (h29.v (by decide +kernel) (by decide +kernel)) ?_
  refine p_aGc (r := 0) (h29.v (by decide +kernel) (by decide +kernel)) ?_
  refine p_it0 (by decide +kernel) ?_
  refine p_gFc (ji := 0) (r := 25) rfl (h29.v (by decide +kernel) (by decide +kernel)) ?_
  refine p_aS (fun M30 h30 => ?_)
  replace h30 := h29.st (al := 25) (il := 1) (xl := 0) h30 (by decide +kernel) (by decide +kernel) (by decide +kernel)
  show pw (bX1_layOut_78 _ (mX1_layOut_78 _ 69999) _ _ _ _ _ _) _
  unfold bX1_layOut_78
  refine p_gFc (ji := 0) (r := 25) rfl (h30.v (by decide +kernel) (by decide +kernel)) ?_
  refine p_aGc (r := 0) (h30.v (by decide +kernel) (by decide +kernel)) ?_
  refine p_it0 (by decide +kernel) ?_
  refine p_gFc (ji := 0) (r := 25) rfl (h30.v (by decide +kernel) (by decide +kernel)) ?_
  refine p_aS (fun M31 h31 => ?_)
  replace h31 := h30.st (al := 25) (il := 2) (xl := 0) h31 (by decide +kernel) (by decide +kernel) (by decide +kernel)
  show pw (bX1_layOut_95 _ _ (mX1_layOut_95 _ _ 69999) _ _ _ _ _ _) _
  unfold bX1_layOut_95
  refine p_gFc (ji := 0) (r := 25) rfl (h31.v (by decide +kernel) (by decide +kernel)) ?_
  refine p_aGc (r := 0) (h31.v (by decide +kernel) (by decide +kernel)) ?_
  refine p_it0 (by decide +kernel) ?_
  refine p_gK ?_
  refine p_bindg (fun Q32 hQ32 => ?_)
  unfold mX1_addWay
  show pw (bX1_addWay_4 (mX1_addWay_4 69999) _ _ _ _ _) _
  unfold bX1_addWay_4
  refine p_gFc (ji := 6) (r := 0) rfl (h31.v (by decide +kernel) (by decide +kernel)) ?_
  refine p_it1 (by decide +kernel) ?_
  refine p_gFc (ji := 4) (r := 0) rfl (h31.v (by decide +kernel) (by decide +kernel)) ?_
  refine p_pF (ji := 4) rfl (fun M33 h33 => ?_)
  replace h33 := h31.st (al := 24) (il := 4) (xl := 1) h33 (by decide +kernel) (by decide +kernel) (by decide +kernel)
  refine p_rc (r := 0) (by decide +kernel) (hQ32 _ ?_)
  dsimp only
  refine p_gFc (ji := 0) (r := 25) rfl (h33.v (by decide +kernel) (by decide +kernel)) ?_
  refine p_aGc (r := 0) (h33.v (by decide +kernel) (by decide +kernel)) ?_
  refine p_aS (fun M34 h34 => ?_)
  replace h34 := h33.st (al := 25) (il := 2) (xl := 1) h34 (by decide +kernel) (by decide +kernel) (by decide +kernel)
  show pw (bX1_layOut_95 _ _ (mX1_layOut_95 _ _ 69998) _ _ _ _ _ _) _
  unfold bX1_layOut_95
  refine p_gFc (ji := 0) (r := 25) rfl (h34.v (by decide +kernel) (by decide +kernel)) ?_
  refine p_aGc (r := 1) (h34.v (by decide +kernel) (by decide +kernel)) ?_
  refine p_it1 (by decide +kernel) ?_
  refine p_gFc (ji := 0) (r := 25) rfl (h34.v (by decide +kernel) (by decide +kernel)) ?_
  refine p_aGc (r := 0) (h34.v (by decide +kernel) (by decide +kernel)) ?_
  refine p_aS (fun M35 h35 => ?_)
  replace h35 := h34.st (al := 25) (il := 1) (xl := 1) h35 (by decide +kernel) (by decide +kernel) (by decide +kernel)
  show pw (bX1_layOut_78 _ (mX1_layOut_78 _ 69998) _ _ _ _ _ _) _
  unfold bX1_layOut_78
  refine p_gFc (ji := 0) (r := 25) rfl (h35.v (by decide +kernel) (by decide +kernel)) ?_
  refine p_aGc (r := 1) (h35.v (by decide +kernel) (by decide +kernel)) ?_
  refine p_it1 (by decide +kernel) ?_
  refine p_gFc (ji := 0) (r := 25) rfl (h35.v (by decide +kernel) (by decide +kernel)) ?_
  refine p_aGc (r := 0) (h35.v (by decide +kernel) (by decide +kernel)) ?_
  refine p_aS (fun M36 h36 => ?_)
  replace h36 := h35.st (al := 25) (il := 0) (xl := 1) h36 (by decide +kernel) (by decide +kernel) (by decide +kernel)
  show pw (bX1_layOut_61 (mX1_layOut_61 69998) _ _ _ _ _ _) _
  unfold bX1_layOut_61
  refine p_gFc (ji := 0) (r := 25) rfl (h36.v (by decide +kernel) (by decide +kernel)) ?_
  refine p_aGc (r := 1) (h36.v (by decide +kernel) (by decide +kernel)) ?_
  refine p_it1 (by decide +kernel) ?_
  refine p_rc (r := 0) (by decide +kernel) (hQ22 _ ?_)
  dsimp only
  refine p_gFc (ji := 7) (r := 0) rfl (h36.v (by decide +kernel) (by decide +kernel)) ?_
  refine p_it1 (by decide +kernel) ?_
  refine p_gK ?_
  refine p_bindg (fun Q37 hQ37 => ?_)
  unfold mX1_markLeastOnes
  refine p_gFc (ji := 2) (r := 27) rfl (h36.v (by decide +kernel) (by decide +kernel)) ?_
  refine p_gFc (ji := 5) (r := 0) rfl (h36.v (by decide +kernel) (by decide +kernel)) ?_
  refine p_gK ?_
  refine p_bindg (fun Q38 hQ38 => ?_)
  unfold mX7_takeNone
  refine p_pF (ji := 2) rfl (fun M39 h39 => ?_)
  replace h39 := h36.st (al := 27) (il := 2) (xl := 0) h39 (by decide +kernel) (by decide +kernel) (by decide +kernel)
  refine p_gFc (ji := 2) (r := 0) rfl (h39.v (by decide +kernel) (by decide +kernel)) ?_
  refine p_it0 (by decide +kernel) ?_
  unfold mX7_takeNone_37
  refine p_pF (ji := 1) rfl (fun M40 h40 => ?_)
  replace h40 := h39.st (al := 27) (il := 1) (xl := 1) h40 (by decide +kernel) (by decide +kernel) (by decide +kernel)
  show pw (bX7_takeNone_42 (mX7_takeNone_42 69999) _ _ _) _
  unfold bX7_takeNone_42
  refine p_gFc (ji := 1) (r := 1) rfl (h40.v (by decide +kernel) (by decide +kernel)) ?_
  refine p_it0 (by decide +kernel) ?_
  refine p_gFc (ji := 0) (r := 28) rfl (h40.v (by decide +kernel) (by decide +kernel)) ?_
  refine p_aS (fun M41 h41 => ?_)
  replace h41 := h40.st (al := 28) (il := 0) (xl := 0) h41 (by decide +kernel) (by decide +kernel) (by decide +kernel)
  show pw (bX7_takeNone_42 (mX7_takeNone_42 69998) _ _ _) _
  unfold bX7_takeNone_42
  refine p_gFc (ji := 1) (r := 1) rfl (h41.v (by decide +kernel) (by decide +kernel)) ?_
  refine p_it1 (by decide +kernel) ?_
  refine p_rc (r := 0) (by decide +kernel) (hQ38 _ ?_)
  dsimp only
  refine p_gFc (ji := 3) (r := 29) rfl (h41.v (by decide +kernel) (by decide +kernel)) ?_
  refine p_gFc (ji := 5) (r := 0) rfl (h41.v (by decide +kernel) (by decide +kernel)) ?_
  refine p_gK ?_
  refine p_bindg (fun Q42 hQ42 => ?_)
  unfold mX7_takeNone
  refine p_pF (ji := 2) rfl (fun M43 h43 => ?_)
  replace h43 := h41.st (al := 29) (il := 2) (xl := 0) h43 (by decide +kernel) (by decide +kernel) (by decide +kernel)
  refine p_gFc (ji := 2) (r := 0) rfl (h43.v (by decide +kernel) (by decide +kernel)) ?_
  refine p_it0 (by decide +kernel) ?_
  unfold mX7_takeNone_37
  refine p_pF (ji := 1) rfl (fun M44 h44 => ?_)
  replace h44 := h43.st (al := 29) (il := 1) (xl := 1) h44 (by decide +kernel) (by decide +kernel) (by decide +kernel)
  show pw (bX7_takeNone_42 (mX7_takeNone_42 69999) _ _ _) _
  unfold bX7_takeNone_42
  refine p_gFc (ji := 1) (r := 1) rfl (h44.v (by decide +kernel) (by decide +kernel)) ?_
  refine p_it0 (by decide +kernel) ?_
  refine p_gFc (ji := 0) (r := 30) rfl (h44.v (by decide +kernel) (by decide +kernel)) ?_
  refine p_aS (fun M45 h45 => ?_)
  replace h45 := h44.st (al := 30) (il := 0) (xl := 0) h45 (by decide +kernel) (by decide +kernel) (by decide +kernel)
  show pw (bX7_takeNone_42 (mX7_takeNone_42 69998) _ _ _) _
  unfold bX7_takeNone_42
  refine p_gFc (ji := 1) (r := 1) rfl (h45.v (by decide +kernel) (by decide +kernel)) ?_
  refine p_it1 (by decide +kernel) ?_
  refine p_rc (r := 0) (by decide +kernel) (hQ42 _ ?_)
  dsimp only
  show pw (bX1_markLeastOnes_24 (mX1_markLeastOnes_24 69999) _ _ _) _
  unfold bX1_markLeastOnes_24
  refine p_gFc (ji := 3) (r := 29) rfl (h45.v (by decide +kernel) (by decide +kernel)) ?_
  refine p_gK ?_
  refine p_bindg (fun Q46 hQ46 => ?_)
  unfold mX7_most
  refine p_gFc (ji := 2) (r := 0) rfl (h45.v (by decide +kernel) (by decide +kernel)) ?_
  refine p_rc (r := 1) (by decide +kernel) (hQ46 _ ?_)
  dsimp only
  refine p_it0 (by decide +kernel) ?_
  refine p_gFc (ji := 3) (r := 29) rfl (h45.v (by decide +kernel) (by decide +kernel)) ?_
  refine p_gK ?_
  refine p_bindg (fun Q47 hQ47 => ?_)
  unfold mX7_has
  refine p_it0 (by decide +kernel) ?_
  refine p_gK ?_
  refine p_bindg (fun Q48 hQ48 => ?_)
  unfold mX7_most
  refine p_gFc (ji := 2) (r := 0) rfl (h45.v (by decide +kernel) (by decide +kernel)) ?_
  refine p_rc (r := 1) (by decide +kernel) (hQ48 _ ?_)
  dsimp only
  refine p_it0 (by decide +kernel) ?_
  refine p_gFc (ji := 0) (r := 30) rfl (h45.v (by decide +kernel) (by decide +kernel)) ?_
  refine p_aGc (r := 0) (h45.v (by decide +kernel) (by decide +kernel)) ?_
  refine p_it1 (by decide +kernel) ?_
  refine p_rc (r := 0) (by decide +kernel) (hQ47 _ ?_)
  dsimp only
  refine p_it1 (by decide +kernel) ?_
  refine p_gFc (ji := 2) (r := 27) rfl (h45.v (by decide +kernel) (by decide +kernel)) ?_
  refine p_gK ?_
  refine p_bindg (fun Q49 hQ49 => ?_)
  unfold mX7_add
  refine p_it0 (by decide +kernel) ?_
  refine p_gK ?_
  refine p_bindg (fun Q50 hQ50 => ?_)
  unfold mX7_most
  refine p_gFc (ji := 2) (r := 0) rfl (h45.v (by decide +kernel) (by decide +kernel)) ?_
  refine p_rc (r := 1) (by decide +kernel) (hQ50 _ ?_)
  dsimp only
  refine p_it0 (by decide +kernel) ?_
  refine p_gFc (ji := 0) (r := 28) rfl (h45.v (by decide +kernel) (by decide +kernel)) ?_
  refine p_aGc (r := 0) (h45.v (by decide +kernel) (by decide +kernel)) ?_
  refine p_aS (fun M51 h51 => ?_)
  replace h51 := h45.st (al := 28) (il := 0) (xl := 1) h51 (by decide +kernel) (by decide +kernel) (by decide +kernel)
  refine p_rc (r := 0) (by decide +kernel) (hQ49 _ ?_)
  dsimp only
  show pw (bX1_markLeastOnes_56 _ (mX1_markLeastOnes_56 _ 69999) _ _ _ _) _
  unfold bX1_markLeastOnes_56
  refine p_gFc (ji := 4) (r := 1) rfl (h51.v (by decide +kernel) (by decide +kernel)) ?_
  refine p_it0 (by decide +kernel) ?_
  refine p_gFc (ji := 3) (r := 29) rfl (h51.v (by decide +kernel) (by decide +kernel)) ?_
  refine p_gK ?_
  refine p_bindg (fun Q52 hQ52 => ?_)
  unfold mX1_renumbered
  show pw (bX1_renumbered_5 (mX1_renumbered_5 69999) _ _ _ _ _ _) _
  unfold bX1_renumbered_5
  refine p_gFc (ji := 5) (r := 0) rfl (h51.v (by decide +kernel) (by decide +kernel)) ?_
  refine p_it1 (by decide +kernel) ?_
  refine p_rc (r := 0) (by decide +kernel) (hQ52 _ ?_)
  dsimp only
  refine p_gK ?_
  refine p_bindg (fun Q53 hQ53 => ?_)
  unfold mX7_add
  refine p_it0 (by decide +kernel) ?_
  refine p_gK ?_
  refine p_bindg (fun Q54 hQ54 => ?_)
  unfold mX7_most
  refine p_gFc (ji := 2) (r := 0) rfl (h51.v (by decide +kernel) (by decide +kernel)) ?_
  refine p_rc (r := 1) (by decide +kernel) (hQ54 _ ?_)
  dsimp only
  refine p_it0 (by decide +kernel) ?_
  refine p_gFc (ji := 0) (r := 30) rfl (h51.v (by decide +kernel) (by decide +kernel)) ?_
  refine p_aGc (r := 0) (h51.v (by decide +kernel) (by decide +kernel)) ?_
  refine p_aS (fun M55 h55 => ?_)
  replace h55 := h51.st (al := 30) (il := 0) (xl := 1) h55 (by decide +kernel) (by decide +kernel) (by decide +kernel)
  refine p_rc (r := 0) (by decide +kernel) (hQ53 _ ?_)
  dsimp only
  show pw (bX1_markLeastOnes_56 _ (mX1_markLeastOnes_56 _ 69998) _ _ _ _) _
  unfold bX1_markLeastOnes_56
  refine p_gFc (ji := 4) (r := 1) rfl (h55.v (by decide +kernel) (by decide +kernel)) ?_
  refine p_it1 (by decide +kernel) ?_
  unfold mX1_markLeastOnes_83
  show pw (bX1_markLeastOnes_24 (mX1_markLeastOnes_24 69998) _ _ _) _
  unfold bX1_markLeastOnes_24
  refine p_gFc (ji := 3) (r := 29) rfl (h55.v (by decide +kernel) (by decide +kernel)) ?_
  refine p_gK ?_
  refine p_bindg (fun Q56 hQ56 => ?_)
  unfold mX7_most
  refine p_gFc (ji := 2) (r := 0) rfl (h55.v (by decide +kernel) (by decide +kernel)) ?_
  refine p_rc (r := 1) (by decide +kernel) (hQ56 _ ?_)
  dsimp only
  refine p_it1 (by decide +kernel) ?_
  refine p_rc (r := 0) (by decide +kernel) (hQ37 _ ?_)
  dsimp only
  refine p_pZ (ji := 7) rfl (fun M57 h57 => ?_)
  replace h57 := h55.st (al := 24) (il := 7) (xl := 1) h57 (by decide +kernel) (by decide +kernel) (by decide +kernel)
  unfold mX1_leastOnes_21
  refine p_gFc (ji := 2) (r := 27) rfl (h57.v (by decide +kernel) (by decide +kernel)) ?_
  refine p_rc (r := 27) (by decide +kernel) (hQ21 _ ?_)
  dsimp only
  refine p_gK ?_
  refine p_bindg (fun Q58 hQ58 => ?_)
  unfold mX7_keepOnly
  show pw (bX7_keepOnly_2 (mX7_keepOnly_2 69999) _ _ _ _) _
  unfold bX7_keepOnly_2
  refine p_gFc (ji := 1) (r := 1) rfl (h57.v (by decide +kernel) (by decide +kernel)) ?_
  refine p_it0 (by decide +kernel) ?_
  refine p_gFc (ji := 0) (r := 37) rfl (h57.v (by decide +kernel) (by decide +kernel)) ?_
  refine p_aGc (r := 1) (h57.v (by decide +kernel) (by decide +kernel)) ?_
  refine p_gFc (ji := 0) (r := 28) rfl (h57.v (by decide +kernel) (by decide +kernel)) ?_
  refine p_aGc (r := 1) (h57.v (by decide +kernel) (by decide +kernel)) ?_
  refine p_aS (fun M59 h59 => ?_)
  replace h59 := h57.st (al := 37) (il := 0) (xl := 1) h59 (by decide +kernel) (by decide +kernel) (by decide +kernel)
  show pw (bX7_keepOnly_2 (mX7_keepOnly_2 69998) _ _ _ _) _
  unfold bX7_keepOnly_2
  refine p_gFc (ji := 1) (r := 1) rfl (h59.v (by decide +kernel) (by decide +kernel)) ?_
  refine p_it1 (by decide +kernel) ?_
  refine p_rc (r := 0) (by decide +kernel) (hQ58 _ ?_)
  dsimp only
  refine p_rc (r := 0) (by decide +kernel) (hQ16 _ ?_)
  dsimp only
  refine p_gFc (ji := 7) (r := 36) rfl (h59.v (by decide +kernel) (by decide +kernel)) ?_
  refine p_gK ?_
  refine p_bindg (fun Q60 hQ60 => ?_)
  unfold mX7_count
  show pw (bX7_count_4 (mX7_count_4 69999) _ _ _ _) _
  unfold bX7_count_4
  refine p_gFc (ji := 1) (r := 1) rfl (h59.v (by decide +kernel) (by decide +kernel)) ?_
  refine p_it0 (by decide +kernel) ?_
  refine p_gFc (ji := 0) (r := 37) rfl (h59.v (by decide +kernel) (by decide +kernel)) ?_
  refine p_aGc (r := 1) (h59.v (by decide +kernel) (by decide +kernel)) ?_
  refine p_bindg (fun Q61 hQ61 => ?_)
  unfold mJ13_bitCount_95d88
  refine p_some (fun v62 h62 => ?_)
  have h62 : v62 = 1 := h62.trans (by decide +kernel)
  subst h62
  refine p_some (fun v63 h63 => ?_)
  have h63 : v63 = 1 := h63.trans (by decide +kernel)
  subst h63
  refine p_some (fun v64 h64 => ?_)
  have h64 : v64 = 1 := h64.trans (by decide +kernel)
  subst h64
  refine p_some (fun v65 h65 => ?_)
  have h65 : v65 = 1 := h65.trans (by decide +kernel)
  subst h65
  refine p_some (fun v66 h66 => ?_)
  have h66 : v66 = 1 := h66.trans (by decide +kernel)
  subst h66
  refine p_rc (r := 1) (by decide +kernel) (hQ61 _ ?_)
  dsimp only
  show pw (bX7_count_4 (mX7_count_4 69998) _ _ _ _) _
  unfold bX7_count_4
  refine p_gFc (ji := 1) (r := 1) rfl (h59.v (by decide +kernel) (by decide +kernel)) ?_
  refine p_it1 (by decide +kernel) ?_
  refine p_rc (r := 1) (by decide +kernel) (hQ60 _ ?_)
  dsimp only
  refine p_rc (r := 1) (by decide +kernel) (hQ1 _ ?_)
  dsimp only
  exact p_rc (r := 1) (by decide +kernel) rfl
theorem fx8_form {l1 : Int} {M : Mem} (t0 : TR 0 1 125 [] M) (r_l1 : (-2147483648) ≤ l1 ∧ l1 ≤ 2147483647) : pw (mX8_form 1 l1 M) (fun q => sp_form l1 q.1) := by
  unfold mX8_form
  refine p_gFc (ji := 0) (r := 2) rfl (t0.v (by decide +kernel) (by decide +kernel)) ?_
  refine p_gK ?_
  refine p_bindg (fun Q1 hQ1 => ?_)
  unfold mX4_nthForm
  refine p_gK ?_
  refine p_bindg (fun Q2 hQ2 => ?_)
  unfold mX4_lookUp
  refine p_gK ?_
  refine p_bindg (fun Q3 hQ3 => ?_)
  unfold mX4_canTell
  refine p_gFc (ji := 0) (r := 3) rfl (t0.v (by decide +kernel) (by decide +kernel)) ?_
  refine p_gFc (ji := 0) (r := 4) rfl (t0.v (by decide +kernel) (by decide +kernel)) ?_
  refine p_gFc (ji := 7) (r := 0) rfl (t0.v (by decide +kernel) (by decide +kernel)) ?_
  refine p_it0 (by decide +kernel) ?_
  refine p_rc (r := 1) (by decide +kernel) (hQ3 _ ?_)
  dsimp only
  refine p_it0 (by decide +kernel) ?_
  refine p_gK ?_
  refine p_bindg (fun Q4 hQ4 => ?_)
  unfold mX4_findPossible
  refine p_gFc (ji := 0) (r := 3) rfl (t0.v (by decide +kernel) (by decide +kernel)) ?_
  refine p_gFc (ji := 0) (r := 4) rfl (t0.v (by decide +kernel) (by decide +kernel)) ?_
  refine p_gFc (ji := 5) (r := 32) rfl (t0.v (by decide +kernel) (by decide +kernel)) ?_
  refine p_gFc (ji := 7) (r := 0) rfl (t0.v (by decide +kernel) (by decide +kernel)) ?_
  refine p_gK ?_
  refine p_bindg (fun Q5 hQ5 => ?_)
  unfold mX7_takeAll
  refine p_gK ?_
  refine p_bindg (fun Q6 hQ6 => ?_)
  unfold mX7_takeNone
  refine p_pF (ji := 2) rfl (fun M7 h7 => ?_)
  replace h7 := t0.st (al := 32) (il := 2) (xl := 0) h7 (by decide +kernel) (by decide +kernel) (by decide +kernel)
  refine p_gFc (ji := 2) (r := 0) rfl (h7.v (by decide +kernel) (by decide +kernel)) ?_
  refine p_it0 (by decide +kernel) ?_
  unfold mX7_takeNone_37
  refine p_pF (ji := 1) rfl (fun M8 h8 => ?_)
  replace h8 := h7.st (al := 32) (il := 1) (xl := 1) h8 (by decide +kernel) (by decide +kernel) (by decide +kernel)
  show pw (bX7_takeNone_42 (mX7_takeNone_42 69999) _ _ _) _
  unfold bX7_takeNone_42
  refine p_gFc (ji := 1) (r := 1) rfl (h8.v (by decide +kernel) (by decide +kernel)) ?_
  refine p_it0 (by decide +kernel) ?_
  refine p_gFc (ji := 0) (r := 33) rfl (h8.v (by decide +kernel) (by decide +kernel)) ?_
  refine p_aS (fun M9 h9 => ?_)
  replace h9 := h8.st (al := 33) (il := 0) (xl := 0) h9 (by decide +kernel) (by decide +kernel) (by decide +kernel)
  show pw (bX7_takeNone_42 (mX7_takeNone_42 69998) _ _ _) _
  unfold bX7_takeNone_42
  refine p_gFc (ji := 1) (r := 1) rfl (h9.v (by decide +kernel) (by decide +kernel)) ?_
  refine p_it1 (by decide +kernel) ?_
  refine p_rc (r := 0) (by decide +kernel) (hQ6 _ ?_)
  dsimp only
  show pw (bX7_takeAll_7 (mX7_takeAll_7 69999) _ _ _) _
  unfold bX7_takeAll_7
  refine p_gFc (ji := 1) (r := 1) rfl (h9.v (by decide +kernel) (by decide +kernel)) ?_
  refine p_it0 (by decide +kernel) ?_
  refine p_gFc (ji := 0) (r := 33) rfl (h9.v (by decide +kernel) (by decide +kernel)) ?_
  refine p_gFc (ji := 2) (r := 0) rfl (h9.v (by decide +kernel) (by decide +kernel)) ?_
  refine p_it0 (by decide +kernel) ?_
  refine p_gFc (ji := 2) (r := 0) rfl (h9.v (by decide +kernel) (by decide +kernel)) ?_
  unfold mX7_takeAll_45
  refine p_aS (fun M10 h10 => ?_)
  replace h10 := h9.st (al := 33) (il := 0) (xl := 1) h10 (by decide +kernel) (by decide +kernel) (by decide +kernel)
  show pw (bX7_takeAll_7 (mX7_takeAll_7 69998) _ _ _) _
  unfold bX7_takeAll_7
  refine p_gFc (ji := 1) (r := 1) rfl (h10.v (by decide +kernel) (by decide +kernel)) ?_
  refine p_it1 (by decide +kernel) ?_
  refine p_rc (r := 0) (by decide +kernel) (hQ5 _ ?_)
  dsimp only
  show pw (bX4_findPossible_21 (mX4_findPossible_21 69999) _ _ _ _) _
  unfold bX4_findPossible_21
  refine p_gFc (ji := 6) (r := 0) rfl (h10.v (by decide +kernel) (by decide +kernel)) ?_
  refine p_it1 (by decide +kernel) ?_
  refine p_rc (r := 0) (by decide +kernel) (hQ4 _ ?_)
  dsimp only
  refine p_gFc (ji := 6) (r := 34) rfl (h10.v (by decide +kernel) (by decide +kernel)) ?_
  refine p_gFc (ji := 5) (r := 32) rfl (h10.v (by decide +kernel) (by decide +kernel)) ?_
  refine p_gK ?_
  refine p_bindg (fun Q11 hQ11 => ?_)
  unfold mX7_copy
  refine p_gFc (ji := 2) (r := 0) rfl (h10.v (by decide +kernel) (by decide +kernel)) ?_
  refine p_pF (ji := 2) rfl (fun M12 h12 => ?_)
  replace h12 := h10.st (al := 34) (il := 2) (xl := 0) h12 (by decide +kernel) (by decide +kernel) (by decide +kernel)
  refine p_gFc (ji := 1) (r := 1) rfl (h12.v (by decide +kernel) (by decide +kernel)) ?_
  refine p_pF (ji := 1) rfl (fun M13 h13 => ?_)
  replace h13 := h12.st (al := 34) (il := 1) (xl := 1) h13 (by decide +kernel) (by decide +kernel) (by decide +kernel)
  refine p_gFc (ji := 0) (r := 33) rfl (h13.v (by decide +kernel) (by decide +kernel)) ?_
  refine p_gFc (ji := 0) (r := 35) rfl (h13.v (by decide +kernel) (by decide +kernel)) ?_
  refine p_gFc (ji := 1) (r := 1) rfl (h13.v (by decide +kernel) (by decide +kernel)) ?_
  refine p_aC (fun M14 h14 => ?_)
  replace h14 := h13.cp (vs := [1]) (al := 35) h14 (by decide +kernel) (by decide +kernel) (by decide +kernel) (by decide +kernel)
  refine p_rc (r := 0) (by decide +kernel) (hQ11 _ ?_)
  dsimp only
  refine p_gFc (ji := 0) (r := 3) rfl (h14.v (by decide +kernel) (by decide +kernel)) ?_
  refine p_gK ?_
  refine p_bindg (fun Q15 hQ15 => ?_)
  unfold mX6_viewedStories
  show pw (bX6_viewedStories_4 (mX6_viewedStories_4 69999) _ _ _ _) _
  unfold bX6_viewedStories_4
  refine p_gFc (ji := 11) (r := 0) rfl (h14.v (by decide +kernel) (by decide +kernel)) ?_
  refine p_it1 (by decide +kernel) ?_
  refine p_rc (r := 0) (by decide +kernel) (hQ15 _ ?_)
  dsimp only
  show pw (bX4_lookUp_34 (mX4_lookUp_34 69999) _ _ _ _) _
  unfold bX4_lookUp_34
  refine p_it0 (by decide +kernel) ?_
  refine p_it1 (by decide +kernel) ?_
  unfold mX4_lookUp_69
  show pw (bX4_lookUp_34 (mX4_lookUp_34 69998) _ _ _ _) _
  unfold bX4_lookUp_34
  refine p_it0 (by decide +kernel) ?_
  refine p_it1 (by decide +kernel) ?_
  unfold mX4_lookUp_69
  show pw (bX4_lookUp_34 (mX4_lookUp_34 69997) _ _ _ _) _
  unfold bX4_lookUp_34
  refine p_it0 (by decide +kernel) ?_
  refine p_it1 (by decide +kernel) ?_
  unfold mX4_lookUp_69
  show pw (bX4_lookUp_34 (mX4_lookUp_34 69996) _ _ _ _) _
  unfold bX4_lookUp_34
  refine p_it0 (by decide +kernel) ?_
  refine p_it1 (by decide +kernel) ?_
  unfold mX4_lookUp_69
  show pw (bX4_lookUp_34 (mX4_lookUp_34 69995) _ _ _ _) _
  unfold bX4_lookUp_34
  refine p_it0 (by decide +kernel) ?_
  refine p_it1 (by decide +kernel) ?_
  unfold mX4_lookUp_69
  show pw (bX4_lookUp_34 (mX4_lookUp_34 69994) _ _ _ _) _
  unfold bX4_lookUp_34
  refine p_it0 (by decide +kernel) ?_
  refine p_it1 (by decide +kernel) ?_
  unfold mX4_lookUp_69
  show pw (bX4_lookUp_34 (mX4_lookUp_34 69993) _ _ _ _) _
  unfold bX4_lookUp_34
  refine p_it0 (by decide +kernel) ?_
  refine p_it1 (by decide +kernel) ?_
  unfold mX4_lookUp_69
  show pw (bX4_lookUp_34 (mX4_lookUp_34 69992) _ _ _ _) _
  unfold bX4_lookUp_34
  refine p_it0 (by decide +kernel) ?_
  refine p_it1 (by decide +kernel) ?_
  unfold mX4_lookUp_69
  show pw (bX4_lookUp_34 (mX4_lookUp_34 69991) _ _ _ _) _
  unfold bX4_lookUp_34
  refine p_it1 (by decide +kernel) ?_
  refine p_rc (r := 1) (by decide +kernel) (hQ2 _ ?_)
  dsimp only
  refine p_it0 (by decide +kernel) ?_
  refine p_gK ?_
  refine p_bindg (fun Q16 hQ16 => ?_)
  unfold mX4_pickForms
  refine p_gFc (ji := 7) (r := 36) rfl (h14.v (by decide +kernel) (by decide +kernel)) ?_
  refine p_gFc (ji := 6) (r := 34) rfl (h14.v (by decide +kernel) (by decide +kernel)) ?_
  refine p_gK ?_
  refine p_bindg (fun Q17 hQ17 => ?_)
  unfold mX7_copy
  refine p_gFc (ji := 2) (r := 0) rfl (h14.v (by decide +kernel) (by decide +kernel)) ?_
  refine p_pF (ji := 2) rfl (fun M18 h18 => ?_)
  replace h18 := h14.st (al := 36) (il := 2) (xl := 0) h18 (by decide +kernel) (by decide +kernel) (by decide +kernel)
  refine p_gFc (ji := 1) (r := 1) rfl (h18.v (by decide +kernel) (by decide +kernel)) ?_
  refine p_pF (ji := 1) rfl (fun M19 h19 => ?_)
  replace h19 := h18.st (al := 36) (il := 1) (xl := 1) h19 (by decide +kernel) (by decide +kernel) (by decide +kernel)
  refine p_gFc (ji := 0) (r := 35) rfl (h19.v (by decide +kernel) (by decide +kernel)) ?_
  refine p_gFc (ji := 0) (r := 37) rfl (h19.v (by decide +kernel) (by decide +kernel)) ?_
  refine p_gFc (ji := 1) (r := 1) rfl (h19.v (by decide +kernel) (by decide +kernel)) ?_
  refine p_aC (fun M20 h20 => ?_)
  replace h20 := h19.cp (vs := [1]) (al := 37) h20 (by decide +kernel) (by decide +kernel) (by decide +kernel) (by decide +kernel)
  refine p_rc (r := 0) (by decide +kernel) (hQ17 _ ?_)
  dsimp only
  refine p_gFc (ji := 7) (r := 36) rfl (h20.v (by decide +kernel) (by decide +kernel)) ?_
  refine p_gFc (ji := 2) (r := 24) rfl (h20.v (by decide +kernel) (by decide +kernel)) ?_
  refine p_gFc (ji := 0) (r := 3) rfl (h20.v (by decide +kernel) (by decide +kernel)) ?_
  refine p_gFc (ji := 0) (r := 4) rfl (h20.v (by decide +kernel) (by decide +kernel)) ?_
  refine p_gK ?_
  refine p_bindg (fun Q21 hQ21 => ?_)
  unfold mX1_leastOnes
  refine p_gK ?_
  refine p_bindg (fun Q22 hQ22 => ?_)
  unfold mX1_layOut
  refine p_gFc (ji := 6) (r := 0) rfl (h20.v (by decide +kernel) (by decide +kernel)) ?_
  refine p_it1 (by decide +kernel) ?_
  refine p_gFc (ji := 7) (r := 0) rfl (h20.v (by decide +kernel) (by decide +kernel)) ?_
  refine p_it1 (by decide +kernel) ?_
  refine p_pZ (ji := 6) rfl (fun M23 h23 => ?_)
  replace h23 := h20.st (al := 24) (il := 6) (xl := 1) h23 (by decide +kernel) (by decide +kernel) (by decide +kernel)
  refine p_gFc (ji := 7) (r := 0) rfl (h23.v (by decide +kernel) (by decide +kernel)) ?_
  refine p_pF (ji := 5) rfl (fun M24 h24 => ?_)
  replace h24 := h23.st (al := 24) (il := 5) (xl := 0) h24 (by decide +kernel) (by decide +kernel) (by decide +kernel)
  refine p_pF (ji := 4) rfl (fun M25 h25 => ?_)
  replace h25 := h24.st (al := 24) (il := 4) (xl := 0) h25 (by decide +kernel) (by decide +kernel) (by decide +kernel)
  refine p_bindg (fun Q26 hQ26 => ?_)
  unfold mX1_ordersOf
  show pw (bX1_ordersOf_2 (mX1_ordersOf_2 69999) _ _ _ _) _
  unfold bX1_ordersOf_2
  refine p_gFc (ji := 6) (r := 0) rfl (h25.v (by decide +kernel) (by decide +kernel)) ?_
  refine p_it1 (by decide +kernel) ?_
  refine p_rc (r := 1) (by decide +kernel) (hQ26 _ ?_)
  dsimp only
  refine p_bindg (fun Q27 hQ27 => ?_)
  unfold mX1_ordersOf
  show pw (bX1_ordersOf_2 (mX1_ordersOf_2 69999) _ _ _ _) _
  unfold bX1_ordersOf_2
  refine p_gFc (ji := 6) (r := 0) rfl (h25.v (by decide +kernel) (by decide +kernel)) ?_
  refine p_it1 (by decide +kernel) ?_
  refine p_rc (r := 1) (by decide +kernel) (hQ27 _ ?_)
  dsimp only
  refine p_bindg (fun Q28 hQ28 => ?_)
  unfold mX1_ordersOf
  show pw (bX1_ordersOf_2 (mX1_ordersOf_2 69999) _ _ _ _) _
  unfold bX1_ordersOf_2
  refine p_gFc (ji := 6) (r := 0) rfl (h25.v (by decide +kernel) (by decide +kernel)) ?_
  refine p_it1 (by decide +kernel) ?_
  refine p_rc (r := 1) (by decide +kernel) (hQ28 _ ?_)
  dsimp only
  refine p_gFc (ji := 0) (r := 25) rfl (h25.v (by decide +kernel) (by decide +kernel)) ?_
  refine p_aS (fun M29 h29 => ?_)
  replace h29 := h25.st (al := 25) (il := 0) (xl := 0) h29 (by decide +kernel) (by decide +kernel) (by decide +kernel)
  show pw (bX1_layOut_61 (mX1_layOut_61 69999) _ _ _ _ _ _) _
  unfold bX1_layOut_61
  refine p_gFc (ji := 0) (r := 25) rfl (h29.v (by decide +kernel) (by decide +kernel)) ?_
  refine p_aGc (r := 0) (h29.v (by decide +kernel) (by decide +kernel)) ?_
  refine p_it0 (by decide +kernel) ?_
  refine p_gFc (ji := 0) (r := 25) rfl (h29.v (by decide +kernel) (by decide +kernel)) ?_
  refine p_aS (fun M30 h30 => ?_)
  replace h30 := h29.st (al := 25) (il := 1) (xl := 0) h30 (by decide +kernel) (by decide +kernel) (by decide +kernel)
  show pw (bX1_layOut_78 _ (mX1_layOut_78 _ 69999) _ _ _ _ _ _) _
  unfold bX1_layOut_78
  refine p_gFc (ji := 0) (r := 25) rfl (h30.v (by decide +kernel) (by decide +kernel)) ?_
  refine p_aGc (r := 0) (h30.v (by decide +kernel) (by decide +kernel)) ?_
  refine p_it0 (by decide +kernel) ?_
  refine p_gFc (ji := 0) (r := 25) rfl (h30.v (by decide +kernel) (by decide +kernel)) ?_
  refine p_aS (fun M31 h31 => ?_)
  replace h31 := h30.st (al := 25) (il := 2) (xl := 0) h31 (by decide +kernel) (by decide +kernel) (by decide +kernel)
  show pw (bX1_layOut_95 _ _ (mX1_layOut_95 _ _ 69999) _ _ _ _ _ _) _
  unfold bX1_layOut_95
  refine p_gFc (ji := 0) (r := 25) rfl (h31.v (by decide +kernel) (by decide +kernel)) ?_
  refine p_aGc (r := 0) (h31.v (by decide +kernel) (by decide +kernel)) ?_
  refine p_it0 (by decide +kernel) ?_
  refine p_gK ?_
  refine p_bindg (fun Q32 hQ32 => ?_)
  unfold mX1_addWay
  show pw (bX1_addWay_4 (mX1_addWay_4 69999) _ _ _ _ _) _
  unfold bX1_addWay_4
  refine p_gFc (ji := 6) (r := 0) rfl (h31.v (by decide +kernel) (by decide +kernel)) ?_
  refine p_it1 (by decide +kernel) ?_
  refine p_gFc (ji := 4) (r := 0) rfl (h31.v (by decide +kernel) (by decide +kernel)) ?_
  refine p_pF (ji := 4) rfl (fun M33 h33 => ?_)
  replace h33 := h31.st (al := 24) (il := 4) (xl := 1) h33 (by decide +kernel) (by decide +kernel) (by decide +kernel)
  refine p_rc (r := 0) (by decide +kernel) (hQ32 _ ?_)
  dsimp only
  refine p_gFc (ji := 0) (r := 25) rfl (h33.v (by decide +kernel) (by decide +kernel)) ?_
  refine p_aGc (r := 0) (h33.v (by decide +kernel) (by decide +kernel)) ?_
  refine p_aS (fun M34 h34 => ?_)
  replace h34 := h33.st (al := 25) (il := 2) (xl := 1) h34 (by decide +kernel) (by decide +kernel) (by decide +kernel)
  show pw (bX1_layOut_95 _ _ (mX1_layOut_95 _ _ 69998) _ _ _ _ _ _) _
  unfold bX1_layOut_95
  refine p_gFc (ji := 0) (r := 25) rfl (h34.v (by decide +kernel) (by decide +kernel)) ?_
  refine p_aGc (r := 1) (h34.v (by decide +kernel) (by decide +kernel)) ?_
  refine p_it1 (by decide +kernel) ?_
  refine p_gFc (ji := 0) (r := 25) rfl (h34.v (by decide +kernel) (by decide +kernel)) ?_
  refine p_aGc (r := 0) (h34.v (by decide +kernel) (by decide +kernel)) ?_
  refine p_aS (fun M35 h35 => ?_)
  replace h35 := h34.st (al := 25) (il := 1) (xl := 1) h35 (by decide +kernel) (by decide +kernel) (by decide +kernel)
  show pw (bX1_layOut_78 _ (mX1_layOut_78 _ 69998) _ _ _ _ _ _) _
  unfold bX1_layOut_78
  refine p_gFc (ji := 0) (r := 25) rfl (h35.v (by decide +kernel) (by decide +kernel)) ?_
  refine p_aGc (r := 1) (h35.v (by decide +kernel) (by decide +kernel)) ?_
  refine p_it1 (by decide +kernel) ?_
  refine p_gFc (ji := 0) (r := 25) rfl (h35.v (by decide +kernel) (by decide +kernel)) ?_
  refine p_aGc (r := 0) (h35.v (by decide +kernel) (by decide +kernel)) ?_
  refine p_aS (fun M36 h36 => ?_)
  replace h36 := h35.st (al := 25) (il := 0) (xl := 1) h36 (by decide +kernel) (by decide +kernel) (by decide +kernel)
  show pw (bX1_layOut_61 (mX1_layOut_61 69998) _ _ _ _ _ _) _
  unfold bX1_layOut_61
  refine p_gFc (ji := 0) (r := 25) rfl (h36.v (by decide +kernel) (by decide +kernel)) ?_
  refine p_aGc (r := 1) (h36.v (by decide +kernel) (by decide +kernel)) ?_
  refine p_it1 (by decide +kernel) ?_
  refine p_rc (r := 0) (by decide +kernel) (hQ22 _ ?_)
  dsimp only
  refine p_gFc (ji := 7) (r := 0) rfl (h36.v (by decide +kernel) (by decide +kernel)) ?_
  refine p_it1 (by decide +kernel) ?_
  refine p_gK ?_
  refine p_bindg (fun Q37 hQ37 => ?_)
  unfold mX1_markLeastOnes
  refine p_gFc (ji := 2) (r := 27) rfl (h36.v (by decide +kernel) (by decide +kernel)) ?_
  refine p_gFc (ji := 5) (r := 0) rfl (h36.v (by decide +kernel) (by decide +kernel)) ?_
  refine p_gK ?_
  refine p_bindg (fun Q38 hQ38 => ?_)
  unfold mX7_takeNone
  refine p_pF (ji := 2) rfl (fun M39 h39 => ?_)
  replace h39 := h36.st (al := 27) (il := 2) (xl := 0) h39 (by decide +kernel) (by decide +kernel) (by decide +kernel)
  refine p_gFc (ji := 2) (r := 0) rfl (h39.v (by decide +kernel) (by decide +kernel)) ?_
  refine p_it0 (by decide +kernel) ?_
  unfold mX7_takeNone_37
  refine p_pF (ji := 1) rfl (fun M40 h40 => ?_)
  replace h40 := h39.st (al := 27) (il := 1) (xl := 1) h40 (by decide +kernel) (by decide +kernel) (by decide +kernel)
  show pw (bX7_takeNone_42 (mX7_takeNone_42 69999) _ _ _) _
  unfold bX7_takeNone_42
  refine p_gFc (ji := 1) (r := 1) rfl (h40.v (by decide +kernel) (by decide +kernel)) ?_
  refine p_it0 (by decide +kernel) ?_
  refine p_gFc (ji := 0) (r := 28) rfl (h40.v (by decide +kernel) (by decide +kernel)) ?_
  refine p_aS (fun M41 h41 => ?_)
  replace h41 := h40.st (al := 28) (il := 0) (xl := 0) h41 (by decide +kernel) (by decide +kernel) (by decide +kernel)
  show pw (bX7_takeNone_42 (mX7_takeNone_42 69998) _ _ _) _
  unfold bX7_takeNone_42
  refine p_gFc (ji := 1) (r := 1) rfl (h41.v (by decide +kernel) (by decide +kernel)) ?_
  refine p_it1 (by decide +kernel) ?_
  refine p_rc (r := 0) (by decide +kernel) (hQ38 _ ?_)
  dsimp only
  refine p_gFc (ji := 3) (r := 29) rfl (h41.v (by decide +kernel) (by decide +kernel)) ?_
  refine p_gFc (ji := 5) (r := 0) rfl (h41.v (by decide +kernel) (by decide +kernel)) ?_
  refine p_gK ?_
  refine p_bindg (fun Q42 hQ42 => ?_)
  unfold mX7_takeNone
  refine p_pF (ji := 2) rfl (fun M43 h43 => ?_)
  replace h43 := h41.st (al := 29) (il := 2) (xl := 0) h43 (by decide +kernel) (by decide +kernel) (by decide +kernel)
  refine p_gFc (ji := 2) (r := 0) rfl (h43.v (by decide +kernel) (by decide +kernel)) ?_
  refine p_it0 (by decide +kernel) ?_
  unfold mX7_takeNone_37
  refine p_pF (ji := 1) rfl (fun M44 h44 => ?_)
  replace h44 := h43.st (al := 29) (il := 1) (xl := 1) h44 (by decide +kernel) (by decide +kernel) (by decide +kernel)
  show pw (bX7_takeNone_42 (mX7_takeNone_42 69999) _ _ _) _
  unfold bX7_takeNone_42
  refine p_gFc (ji := 1) (r := 1) rfl (h44.v (by decide +kernel) (by decide +kernel)) ?_
  refine p_it0 (by decide +kernel) ?_
  refine p_gFc (ji := 0) (r := 30) rfl (h44.v (by decide +kernel) (by decide +kernel)) ?_
  refine p_aS (fun M45 h45 => ?_)
  replace h45 := h44.st (al := 30) (il := 0) (xl := 0) h45 (by decide +kernel) (by decide +kernel) (by decide +kernel)
  show pw (bX7_takeNone_42 (mX7_takeNone_42 69998) _ _ _) _
  unfold bX7_takeNone_42
  refine p_gFc (ji := 1) (r := 1) rfl (h45.v (by decide +kernel) (by decide +kernel)) ?_
  refine p_it1 (by decide +kernel) ?_
  refine p_rc (r := 0) (by decide +kernel) (hQ42 _ ?_)
  dsimp only
  show pw (bX1_markLeastOnes_24 (mX1_markLeastOnes_24 69999) _ _ _) _
  unfold bX1_markLeastOnes_24
  refine p_gFc (ji := 3) (r := 29) rfl (h45.v (by decide +kernel) (by decide +kernel)) ?_
  refine p_gK ?_
  refine p_bindg (fun Q46 hQ46 => ?_)
  unfold mX7_most
  refine p_gFc (ji := 2) (r := 0) rfl (h45.v (by decide +kernel) (by decide +kernel)) ?_
  refine p_rc (r := 1) (by decide +kernel) (hQ46 _ ?_)
  dsimp only
  refine p_it0 (by decide +kernel) ?_
  refine p_gFc (ji := 3) (r := 29) rfl (h45.v (by decide +kernel) (by decide +kernel)) ?_
  refine p_gK ?_
  refine p_bindg (fun Q47 hQ47 => ?_)
  unfold mX7_has
  refine p_it0 (by decide +kernel) ?_
  refine p_gK ?_
  refine p_bindg (fun Q48 hQ48 => ?_)
  unfold mX7_most
  refine p_gFc (ji := 2) (r := 0) rfl (h45.v (by decide +kernel) (by decide +kernel)) ?_
  refine p_rc (r := 1) (by decide +kernel) (hQ48 _ ?_)
  dsimp only
  refine p_it0 (by decide +kernel) ?_
  refine p_gFc (ji := 0) (r := 30) rfl (h45.v (by decide +kernel) (by decide +kernel)) ?_
  refine p_aGc (r := 0) (h45.v (by decide +kernel) (by decide +kernel)) ?_
  refine p_it1 (by decide +kernel) ?_
  refine p_rc (r := 0) (by decide +kernel) (hQ47 _ ?_)
  dsimp only
  refine p_it1 (by decide +kernel) ?_
  refine p_gFc (ji := 2) (r := 27) rfl (h45.v (by decide +kernel) (by decide +kernel)) ?_
  refine p_gK ?_
  refine p_bindg (fun Q49 hQ49 => ?_)
  unfold mX7_add
  refine p_it0 (by decide +kernel) ?_
  refine p_gK ?_
  refine p_bindg (fun Q50 hQ50 => ?_)
  unfold mX7_most
  refine p_gFc (ji := 2) (r := 0) rfl (h45.v (by decide +kernel) (by decide +kernel)) ?_
  refine p_rc (r := 1) (by decide +kernel) (hQ50 _ ?_)
  dsimp only
  refine p_it0 (by decide +kernel) ?_
  refine p_gFc (ji := 0) (r := 28) rfl (h45.v (by decide +kernel) (by decide +kernel)) ?_
  refine p_aGc (r := 0) (h45.v (by decide +kernel) (by decide +kernel)) ?_
  refine p_aS (fun M51 h51 => ?_)
  replace h51 := h45.st (al := 28) (il := 0) (xl := 1) h51 (by decide +kernel) (by decide +kernel) (by decide +kernel)
  refine p_rc (r := 0) (by decide +kernel) (hQ49 _ ?_)
  dsimp only
  show pw (bX1_markLeastOnes_56 _ (mX1_markLeastOnes_56 _ 69999) _ _ _ _) _
  unfold bX1_markLeastOnes_56
  refine p_gFc (ji := 4) (r := 1) rfl (h51.v (by decide +kernel) (by decide +kernel)) ?_
  refine p_it0 (by decide +kernel) ?_
  refine p_gFc (ji := 3) (r := 29) rfl (h51.v (by decide +kernel) (by decide +kernel)) ?_
  refine p_gK ?_
  refine p_bindg (fun Q52 hQ52 => ?_)
  unfold mX1_renumbered
  show pw (bX1_renumbered_5 (mX1_renumbered_5 69999) _ _ _ _ _ _) _
  unfold bX1_renumbered_5
  refine p_gFc (ji := 5) (r := 0) rfl (h51.v (by decide +kernel) (by decide +kernel)) ?_
  refine p_it1 (by decide +kernel) ?_
  refine p_rc (r := 0) (by decide +kernel) (hQ52 _ ?_)
  dsimp only
  refine p_gK ?_
  refine p_bindg (fun Q53 hQ53 => ?_)
  unfold mX7_add
  refine p_it0 (by decide +kernel) ?_
  refine p_gK ?_
  refine p_bindg (fun Q54 hQ54 => ?_)
  unfold mX7_most
  refine p_gFc (ji := 2) (r := 0) rfl (h51.v (by decide +kernel) (by decide +kernel)) ?_
  refine p_rc (r := 1) (by decide +kernel) (hQ54 _ ?_)
  dsimp only
  refine p_it0 (by decide +kernel) ?_
  refine p_gFc (ji := 0) (r := 30) rfl (h51.v (by decide +kernel) (by decide +kernel)) ?_
  refine p_aGc (r := 0) (h51.v (by decide +kernel) (by decide +kernel)) ?_
  refine p_aS (fun M55 h55 => ?_)
  replace h55 := h51.st (al := 30) (il := 0) (xl := 1) h55 (by decide +kernel) (by decide +kernel) (by decide +kernel)
  refine p_rc (r := 0) (by decide +kernel) (hQ53 _ ?_)
  dsimp only
  show pw (bX1_markLeastOnes_56 _ (mX1_markLeastOnes_56 _ 69998) _ _ _ _) _
  unfold bX1_markLeastOnes_56
  refine p_gFc (ji := 4) (r := 1) rfl (h55.v (by decide +kernel) (by decide +kernel)) ?_
  refine p_it1 (by decide +kernel) ?_
  unfold mX1_markLeastOnes_83
  show pw (bX1_markLeastOnes_24 (mX1_markLeastOnes_24 69998) _ _ _) _
  unfold bX1_markLeastOnes_24
  refine p_gFc (ji := 3) (r := 29) rfl (h55.v (by decide +kernel) (by decide +kernel)) ?_
  refine p_gK ?_
  refine p_bindg (fun Q56 hQ56 => ?_)
  unfold mX7_most
  refine p_gFc (ji := 2) (r := 0) rfl (h55.v (by decide +kernel) (by decide +kernel)) ?_
  refine p_rc (r := 1) (by decide +kernel) (hQ56 _ ?_)
  dsimp only
  refine p_it1 (by decide +kernel) ?_
  refine p_rc (r := 0) (by decide +kernel) (hQ37 _ ?_)
  dsimp only
  refine p_pZ (ji := 7) rfl (fun M57 h57 => ?_)
  replace h57 := h55.st (al := 24) (il := 7) (xl := 1) h57 (by decide +kernel) (by decide +kernel) (by decide +kernel)
  unfold mX1_leastOnes_21
  refine p_gFc (ji := 2) (r := 27) rfl (h57.v (by decide +kernel) (by decide +kernel)) ?_
  refine p_rc (r := 27) (by decide +kernel) (hQ21 _ ?_)
  dsimp only
  refine p_gK ?_
  refine p_bindg (fun Q58 hQ58 => ?_)
  unfold mX7_keepOnly
  show pw (bX7_keepOnly_2 (mX7_keepOnly_2 69999) _ _ _ _) _
  unfold bX7_keepOnly_2
  refine p_gFc (ji := 1) (r := 1) rfl (h57.v (by decide +kernel) (by decide +kernel)) ?_
  refine p_it0 (by decide +kernel) ?_
  refine p_gFc (ji := 0) (r := 37) rfl (h57.v (by decide +kernel) (by decide +kernel)) ?_
  refine p_aGc (r := 1) (h57.v (by decide +kernel) (by decide +kernel)) ?_
  refine p_gFc (ji := 0) (r := 28) rfl (h57.v (by decide +kernel) (by decide +kernel)) ?_
  refine p_aGc (r := 1) (h57.v (by decide +kernel) (by decide +kernel)) ?_
  refine p_aS (fun M59 h59 => ?_)
  replace h59 := h57.st (al := 37) (il := 0) (xl := 1) h59 (by decide +kernel) (by decide +kernel) (by decide +kernel)
  show pw (bX7_keepOnly_2 (mX7_keepOnly_2 69998) _ _ _ _) _
  unfold bX7_keepOnly_2
  refine p_gFc (ji := 1) (r := 1) rfl (h59.v (by decide +kernel) (by decide +kernel)) ?_
  refine p_it1 (by decide +kernel) ?_
  refine p_rc (r := 0) (by decide +kernel) (hQ58 _ ?_)
  dsimp only
  refine p_rc (r := 0) (by decide +kernel) (hQ16 _ ?_)
  dsimp only
  refine p_gFc (ji := 7) (r := 36) rfl (h59.v (by decide +kernel) (by decide +kernel)) ?_
  refine p_gK ?_
  refine p_bindg (fun Q60 hQ60 => ?_)
  unfold mX7_nth
  show pw (bX7_nth_4 (mX7_nth_4 69999) _ _ _ _) _
  unfold bX7_nth_4
  refine p_gK ?_
  refine p_bindg (fun Q61 hQ61 => ?_)
  unfold mX7_most
  refine p_gFc (ji := 2) (r := 0) rfl (h59.v (by decide +kernel) (by decide +kernel)) ?_
  refine p_rc (r := 1) (by decide +kernel) (hQ61 _ ?_)
  dsimp only
  refine p_it0 (by decide +kernel) ?_
  refine p_iflt_r (r := 0) (by decide +kernel) (fun c62 => ?_) (fun c62 => ?_)
  · skip
    refine p_rc (r := (-1)) (by decide +kernel) (hQ60 _ ?_)
    dsimp only
    refine p_rc (r := (-1)) (by decide +kernel) (hQ1 _ ?_)
    dsimp only
    refine p_gK ?_
    refine p_bindg (fun Q63 hQ63 => ?_)
    unfold mX8_becomes
    refine p_it1 (by decide +kernel) ?_
    refine p_rc (r := 0) (by decide +kernel) (hQ63 _ ?_)
    dsimp only
    refine p_zR (fun _ => ?_)
    refine p_rc (r := 0) (by decide +kernel) ?_
    show sp_form _ _
    unfold sp_form
    omega
  · skip
    refine p_gK ?_
    refine p_bindg (fun Q64 hQ64 => ?_)
    unfold mX7_has
    refine p_it0 (by decide +kernel) ?_
    refine p_gK ?_
    refine p_bindg (fun Q65 hQ65 => ?_)
    unfold mX7_most
    refine p_gFc (ji := 2) (r := 0) rfl (h59.v (by decide +kernel) (by decide +kernel)) ?_
    refine p_rc (r := 1) (by decide +kernel) (hQ65 _ ?_)
    dsimp only
    refine p_it0 (by decide +kernel) ?_
    refine p_gFc (ji := 0) (r := 37) rfl (h59.v (by decide +kernel) (by decide +kernel)) ?_
    refine p_aGc (r := 1) (h59.v (by decide +kernel) (by decide +kernel)) ?_
    refine p_it0 (by decide +kernel) ?_
    refine p_rc (r := 1) (by decide +kernel) (hQ64 _ ?_)
    dsimp only
    refine p_it0 (by decide +kernel) ?_
    refine p_ifeq_r (r := 0) (by decide +kernel) (fun c66 => ?_) (fun c66 => ?_)
    · skip
      refine p_rc (r := 0) (by decide +kernel) (hQ60 _ ?_)
      dsimp only
      refine p_rc (r := 0) (by decide +kernel) (hQ1 _ ?_)
      dsimp only
      refine p_gK ?_
      refine p_bindg (fun Q67 hQ67 => ?_)
      unfold mX8_becomes
      refine p_it0 (by decide +kernel) ?_
      refine p_gFc (ji := 1) (r := 3) rfl (h59.v (by decide +kernel) (by decide +kernel)) ?_
      refine p_pF (ji := 1) rfl (fun M68 h68 => ?_)
      replace h68 := h59.st (al := 3) (il := 1) (xl := 0) h68 (by decide +kernel) (by decide +kernel) (by decide +kernel)
      refine p_rc (r := 1) (by decide +kernel) (hQ67 _ ?_)
      dsimp only
      refine p_zR (fun _ => ?_)
      refine p_rc (r := 1) (by decide +kernel) ?_
      show sp_form _ _
      unfold sp_form
      omega
    · skip
      unfold mX7_nth_33
      show pw (bX7_nth_4 (mX7_nth_4 69998) _ _ _ _) _
      unfold bX7_nth_4
      refine p_gK ?_
      refine p_bindg (fun Q69 hQ69 => ?_)
      unfold mX7_most
      refine p_gFc (ji := 2) (r := 0) rfl (h59.v (by decide +kernel) (by decide +kernel)) ?_
      refine p_rc (r := 1) (by decide +kernel) (hQ69 _ ?_)
      dsimp only
      refine p_it1 (by decide +kernel) ?_
      refine p_rc (r := (-1)) (by decide +kernel) (hQ60 _ ?_)
      dsimp only
      refine p_rc (r := (-1)) (by decide +kernel) (hQ1 _ ?_)
      dsimp only
      refine p_gK ?_
      refine p_bindg (fun Q70 hQ70 => ?_)
      unfold mX8_becomes
      refine p_it1 (by decide +kernel) ?_
      refine p_rc (r := 0) (by decide +kernel) (hQ70 _ ?_)
      dsimp only
      refine p_zR (fun _ => ?_)
      refine p_rc (r := 0) (by decide +kernel) ?_
      show sp_form _ _
      unfold sp_form
      omega
theorem fx8_name {M : Mem} (t0 : TR 0 1 125 [] M) : pw (mX8_name 1 M) (fun q => q.1 = 0) := by
  unfold mX8_name
  refine p_gFc (ji := 0) (r := 2) rfl (t0.v (by decide +kernel) (by decide +kernel)) ?_
  refine p_gK ?_
  refine p_bindg (fun Q1 hQ1 => ?_)
  unfold mX4_leastRow
  refine p_gK ?_
  refine p_bindg (fun Q2 hQ2 => ?_)
  unfold mX4_canTell
  refine p_gFc (ji := 0) (r := 3) rfl (t0.v (by decide +kernel) (by decide +kernel)) ?_
  refine p_gFc (ji := 0) (r := 4) rfl (t0.v (by decide +kernel) (by decide +kernel)) ?_
  refine p_gFc (ji := 7) (r := 0) rfl (t0.v (by decide +kernel) (by decide +kernel)) ?_
  refine p_it0 (by decide +kernel) ?_
  refine p_rc (r := 1) (by decide +kernel) (hQ2 _ ?_)
  dsimp only
  refine p_it0 (by decide +kernel) ?_
  refine p_gFc (ji := 2) (r := 24) rfl (t0.v (by decide +kernel) (by decide +kernel)) ?_
  refine p_gFc (ji := 0) (r := 3) rfl (t0.v (by decide +kernel) (by decide +kernel)) ?_
  refine p_gFc (ji := 0) (r := 4) rfl (t0.v (by decide +kernel) (by decide +kernel)) ?_
  refine p_gFc (ji := 0) (r := 3) rfl (t0.v (by decide +kernel) (by decide +kernel)) ?_
  refine p_gFc (ji := 1) (r := 0) rfl (t0.v (by decide +kernel) (by decide +kernel)) ?_
  refine p_gK ?_
  refine p_bindg (fun Q3 hQ3 => ?_)
  unfold mX1_leastOf
  refine p_gK ?_
  refine p_bindg (fun Q4 hQ4 => ?_)
  unfold mX1_layOut
  refine p_gFc (ji := 6) (r := 0) rfl (t0.v (by decide +kernel) (by decide +kernel)) ?_
  refine p_it1 (by decide +kernel) ?_
  refine p_gFc (ji := 7) (r := 0) rfl (t0.v (by decide +kernel) (by decide +kernel)) ?_
  refine p_it1 (by decide +kernel) ?_
  refine p_pZ (ji := 6) rfl (fun M5 h5 => ?_)
  replace h5 := t0.st (al := 24) (il := 6) (xl := 1) h5 (by decide +kernel) (by decide +kernel) (by decide +kernel)
  refine p_gFc (ji := 7) (r := 0) rfl (h5.v (by decide +kernel) (by decide +kernel)) ?_
  refine p_pF (ji := 5) rfl (fun M6 h6 => ?_)
  replace h6 := h5.st (al := 24) (il := 5) (xl := 0) h6 (by decide +kernel) (by decide +kernel) (by decide +kernel)
  refine p_pF (ji := 4) rfl (fun M7 h7 => ?_)
  replace h7 := h6.st (al := 24) (il := 4) (xl := 0) h7 (by decide +kernel) (by decide +kernel) (by decide +kernel)
  refine p_bindg (fun Q8 hQ8 => ?_)
  unfold mX1_ordersOf
  show pw (bX1_ordersOf_2 (mX1_ordersOf_2 69999) _ _ _ _) _
  unfold bX1_ordersOf_2
  refine p_gFc (ji := 6) (r := 0) rfl (h7.v (by decide +kernel) (by decide +kernel)) ?_
  refine p_it1 (by decide +kernel) ?_
  refine p_rc (r := 1) (by decide +kernel) (hQ8 _ ?_)
  dsimp only
  refine p_bindg (fun Q9 hQ9 => ?_)
  unfold mX1_ordersOf
  show pw (bX1_ordersOf_2 (mX1_ordersOf_2 69999) _ _ _ _) _
  unfold bX1_ordersOf_2
  refine p_gFc (ji := 6) (r := 0) rfl (h7.v (by decide +kernel) (by decide +kernel)) ?_
  refine p_it1 (by decide +kernel) ?_
  refine p_rc (r := 1) (by decide +kernel) (hQ9 _ ?_)
  dsimp only
  refine p_bindg (fun Q10 hQ10 => ?_)
  unfold mX1_ordersOf
  show pw (bX1_ordersOf_2 (mX1_ordersOf_2 69999) _ _ _ _) _
  unfold bX1_ordersOf_2
  refine p_gFc (ji := 6) (r := 0) rfl (h7.v (by decide +kernel) (by decide +kernel)) ?_
  refine p_it1 (by decide +kernel) ?_
  refine p_rc (r := 1) (by decide +kernel) (hQ10 _ ?_)
  dsimp only
  refine p_gFc (ji := 0) (r := 25) rfl (h7.v (by decide +kernel) (by decide +kernel)) ?_
  refine p_aS (fun M11 h11 => ?_)
  replace h11 := h7.st (al := 25) (il := 0) (xl := 0) h11 (by decide +kernel) (by decide +kernel) (by decide +kernel)
  show pw (bX1_layOut_61 (mX1_layOut_61 69999) _ _ _ _ _ _) _
  unfold bX1_layOut_61
  refine p_gFc (ji := 0) (r := 25) rfl (h11.v (by decide +kernel) (by decide +kernel)) ?_
  refine p_aGc (r := 0) (h11.v (by decide +kernel) (by decide +kernel)) ?_
  refine p_it0 (by decide +kernel) ?_
  refine p_gFc (ji := 0) (r := 25) rfl (h11.v (by decide +kernel) (by decide +kernel)) ?_
  refine p_aS (fun M12 h12 => ?_)
  replace h12 := h11.st (al := 25) (il := 1) (xl := 0) h12 (by decide +kernel) (by decide +kernel) (by decide +kernel)
  show pw (bX1_layOut_78 _ (mX1_layOut_78 _ 69999) _ _ _ _ _ _) _
  unfold bX1_layOut_78
  refine p_gFc (ji := 0) (r := 25) rfl (h12.v (by decide +kernel) (by decide +kernel)) ?_
  refine p_aGc (r := 0) (h12.v (by decide +kernel) (by decide +kernel)) ?_
  refine p_it0 (by decide +kernel) ?_
  refine p_gFc (ji := 0) (r := 25) rfl (h12.v (by decide +kernel) (by decide +kernel)) ?_
  refine p_aS (fun M13 h13 => ?_)
  replace h13 := h12.st (al := 25) (il := 2) (xl := 0) h13 (by decide +kernel) (by decide +kernel) (by decide +kernel)
  show pw (bX1_layOut_95 _ _ (mX1_layOut_95 _ _ 69999) _ _ _ _ _ _) _
  unfold bX1_layOut_95
  refine p_gFc (ji := 0) (r := 25) rfl (h13.v (by decide +kernel) (by decide +kernel)) ?_
  refine p_aGc (r := 0) (h13.v (by decide +kernel) (by decide +kernel)) ?_
  refine p_it0 (by decide +kernel) ?_
  refine p_gK ?_
  refine p_bindg (fun Q14 hQ14 => ?_)
  unfold mX1_addWay
  show pw (bX1_addWay_4 (mX1_addWay_4 69999) _ _ _ _ _) _
  unfold bX1_addWay_4
  refine p_gFc (ji := 6) (r := 0) rfl (h13.v (by decide +kernel) (by decide +kernel)) ?_
  refine p_it1 (by decide +kernel) ?_
  refine p_gFc (ji := 4) (r := 0) rfl (h13.v (by decide +kernel) (by decide +kernel)) ?_
  refine p_pF (ji := 4) rfl (fun M15 h15 => ?_)
  replace h15 := h13.st (al := 24) (il := 4) (xl := 1) h15 (by decide +kernel) (by decide +kernel) (by decide +kernel)
  refine p_rc (r := 0) (by decide +kernel) (hQ14 _ ?_)
  dsimp only
  refine p_gFc (ji := 0) (r := 25) rfl (h15.v (by decide +kernel) (by decide +kernel)) ?_
  refine p_aGc (r := 0) (h15.v (by decide +kernel) (by decide +kernel)) ?_
  refine p_aS (fun M16 h16 => ?_)
  replace h16 := h15.st (al := 25) (il := 2) (xl := 1) h16 (by decide +kernel) (by decide +kernel) (by decide +kernel)
  show pw (bX1_layOut_95 _ _ (mX1_layOut_95 _ _ 69998) _ _ _ _ _ _) _
  unfold bX1_layOut_95
  refine p_gFc (ji := 0) (r := 25) rfl (h16.v (by decide +kernel) (by decide +kernel)) ?_
  refine p_aGc (r := 1) (h16.v (by decide +kernel) (by decide +kernel)) ?_
  refine p_it1 (by decide +kernel) ?_
  refine p_gFc (ji := 0) (r := 25) rfl (h16.v (by decide +kernel) (by decide +kernel)) ?_
  refine p_aGc (r := 0) (h16.v (by decide +kernel) (by decide +kernel)) ?_
  refine p_aS (fun M17 h17 => ?_)
  replace h17 := h16.st (al := 25) (il := 1) (xl := 1) h17 (by decide +kernel) (by decide +kernel) (by decide +kernel)
  show pw (bX1_layOut_78 _ (mX1_layOut_78 _ 69998) _ _ _ _ _ _) _
  unfold bX1_layOut_78
  refine p_gFc (ji := 0) (r := 25) rfl (h17.v (by decide +kernel) (by decide +kernel)) ?_
  refine p_aGc (r := 1) (h17.v (by decide +kernel) (by decide +kernel)) ?_
  refine p_it1 (by decide +kernel) ?_
  refine p_gFc (ji := 0) (r := 25) rfl (h17.v (by decide +kernel) (by decide +kernel)) ?_
  refine p_aGc (r := 0) (h17.v (by decide +kernel) (by decide +kernel)) ?_
  refine p_aS (fun M18 h18 => ?_)
  replace h18 := h17.st (al := 25) (il := 0) (xl := 1) h18 (by decide +kernel) (by decide +kernel) (by decide +kernel)
  show pw (bX1_layOut_61 (mX1_layOut_61 69998) _ _ _ _ _ _) _
  unfold bX1_layOut_61
  refine p_gFc (ji := 0) (r := 25) rfl (h18.v (by decide +kernel) (by decide +kernel)) ?_
  refine p_aGc (r := 1) (h18.v (by decide +kernel) (by decide +kernel)) ?_
  refine p_it1 (by decide +kernel) ?_
  refine p_rc (r := 0) (by decide +kernel) (hQ4 _ ?_)
  dsimp only
  show pw (bX1_leastOf_10 (mX1_leastOf_10 69999) _ _ _ _ _) _
  unfold bX1_leastOf_10
  refine p_gFc (ji := 4) (r := 1) rfl (h18.v (by decide +kernel) (by decide +kernel)) ?_
  refine p_it0 (by decide +kernel) ?_
  refine p_gK ?_
  refine p_bindg (fun Q19 hQ19 => ?_)
  unfold mX1_renumbered
  show pw (bX1_renumbered_5 (mX1_renumbered_5 69999) _ _ _ _ _ _) _
  unfold bX1_renumbered_5
  refine p_gFc (ji := 5) (r := 0) rfl (h18.v (by decide +kernel) (by decide +kernel)) ?_
  refine p_it1 (by decide +kernel) ?_
  refine p_rc (r := 0) (by decide +kernel) (hQ19 _ ?_)
  dsimp only
  refine p_some (fun v20 h20 => ?_)
  have h20 : v20 = 0 := h20.trans ((if_neg (by decide +kernel)).trans (by decide +kernel))
  subst h20
  show pw (bX1_leastOf_10 (mX1_leastOf_10 69998) _ _ _ _ _) _
  unfold bX1_leastOf_10
  refine p_gFc (ji := 4) (r := 1) rfl (h18.v (by decide +kernel) (by decide +kernel)) ?_
  refine p_it1 (by decide +kernel) ?_
  refine p_rc (r := 0) (by decide +kernel) (hQ3 _ ?_)
  dsimp only
  refine p_rc (r := 0) (by decide +kernel) (hQ1 _ ?_)
  dsimp only
  refine p_gFc (ji := 1) (r := 3) rfl (h18.v (by decide +kernel) (by decide +kernel)) ?_
  refine p_gFc (ji := 1) (r := 0) rfl (h18.v (by decide +kernel) (by decide +kernel)) ?_
  refine p_it1 (by decide +kernel) ?_
  exact p_rc (r := 0) (by decide +kernel) rfl
theorem fx8_least {l1 : Int} {M : Mem} (t0 : TR 0 1 125 [] M) (r_l1 : (-2147483648) ≤ l1 ∧ l1 ≤ 2147483647) : pw (mX8_least 1 l1 M) (fun q => sp_least l1 q.1) := by
  unfold mX8_least
  refine p_bindg (fun Q1 hQ1 => ?_)
  unfold mX3_isKind
  refine p_iflt_r (r := 0) (by decide +kernel) (fun c2 => ?_) (fun c2 => ?_)
  · skip
    refine p_rc (r := 0) (by decide +kernel) (hQ1 _ ?_)
    dsimp only
    refine p_it1 (by decide +kernel) ?_
    refine p_rc (r := (-1)) (by decide +kernel) ?_
    show sp_least _ _
    unfold sp_least
    omega
  · skip
    refine p_ifle_l (r := 3) (by decide +kernel) (fun c3 => ?_) (fun c3 => ?_)
    · skip
      refine p_rc (r := 0) (by decide +kernel) (hQ1 _ ?_)
      dsimp only
      refine p_it1 (by decide +kernel) ?_
      refine p_rc (r := (-1)) (by decide +kernel) ?_
      show sp_least _ _
      unfold sp_least
      omega
    · skip
      refine p_rc (r := 1) (by decide +kernel) (hQ1 _ ?_)
      dsimp only
      refine p_it0 (by decide +kernel) ?_
      refine p_gFc (ji := 0) (r := 2) rfl (t0.v (by decide +kernel) (by decide +kernel)) ?_
      refine p_gK ?_
      refine p_bindg (fun Q4 hQ4 => ?_)
      unfold mX4_leastSize
      refine p_gFc (ji := 0) (r := 3) rfl (t0.v (by decide +kernel) (by decide +kernel)) ?_
      refine p_gK ?_
      refine p_bindg (fun Q5 hQ5 => ?_)
      unfold mX6_viewedStories
      show pw (bX6_viewedStories_4 (mX6_viewedStories_4 69999) _ _ _ _) _
      unfold bX6_viewedStories_4
      refine p_gFc (ji := 11) (r := 0) rfl (t0.v (by decide +kernel) (by decide +kernel)) ?_
      refine p_it1 (by decide +kernel) ?_
      refine p_rc (r := 0) (by decide +kernel) (hQ5 _ ?_)
      dsimp only
      refine p_gFc (ji := 10) (r := (-1)) rfl (t0.v (by decide +kernel) (by decide +kernel)) ?_
      refine p_it0 (by decide +kernel) ?_
      refine p_gK ?_
      refine p_bindg (fun Q6 hQ6 => ?_)
      unfold mX4_findLeastSizes
      refine p_gFc (ji := 8) (r := 38) rfl (t0.v (by decide +kernel) (by decide +kernel)) ?_
      refine p_gFc (ji := 0) (r := 3) rfl (t0.v (by decide +kernel) (by decide +kernel)) ?_
      refine p_gFc (ji := 0) (r := 4) rfl (t0.v (by decide +kernel) (by decide +kernel)) ?_
      refine p_gK ?_
      refine p_bindg (fun Q7 hQ7 => ?_)
      unfold mX3_copy
      refine p_gFc (ji := 0) (r := 5) rfl (t0.v (by decide +kernel) (by decide +kernel)) ?_
      refine p_gFc (ji := 0) (r := 39) rfl (t0.v (by decide +kernel) (by decide +kernel)) ?_
      refine p_aC (fun M8 h8 => ?_)
      replace h8 := t0.cp (vs := [2, 2, 2]) (al := 39) h8 (by decide +kernel) (by decide +kernel) (by decide +kernel) (by decide +kernel)
      refine p_gFc (ji := 1) (r := 6) rfl (h8.v (by decide +kernel) (by decide +kernel)) ?_
      refine p_gFc (ji := 1) (r := 40) rfl (h8.v (by decide +kernel) (by decide +kernel)) ?_
      refine p_aC (fun M9 h9 => ?_)
      replace h9 := h8.cp (vs := [0, 0, 0, 0]) (al := 40) h9 (by decide +kernel) (by decide +kernel) (by decide +kernel) (by decide +kernel)
      refine p_gFc (ji := 2) (r := 7) rfl (h9.v (by decide +kernel) (by decide +kernel)) ?_
      refine p_gFc (ji := 2) (r := 41) rfl (h9.v (by decide +kernel) (by decide +kernel)) ?_
      refine p_aC (fun M10 h10 => ?_)
      replace h10 := h9.cp (vs := [0, 0, 0, 0]) (al := 41) h10 (by decide +kernel) (by decide +kernel) (by decide +kernel) (by decide +kernel)
      refine p_gFc (ji := 6) (r := 0) rfl (h10.v (by decide +kernel) (by decide +kernel)) ?_
      refine p_pF (ji := 6) rfl (fun M11 h11 => ?_)
      replace h11 := h10.st (al := 38) (il := 6) (xl := 0) h11 (by decide +kernel) (by decide +kernel) (by decide +kernel)
      refine p_gK ?_
      refine p_bindg (fun Q12 hQ12 => ?_)
      unfold mX3_layOut
      refine p_pF (ji := 7) rfl (fun M13 h13 => ?_)
      replace h13 := h11.st (al := 38) (il := 7) (xl := 0) h13 (by decide +kernel) (by decide +kernel) (by decide +kernel)
      show pw (bX3_layOut_7 (mX3_layOut_7 69999) _ _ _) _
      unfold bX3_layOut_7
      refine p_gFc (ji := 6) (r := 0) rfl (h13.v (by decide +kernel) (by decide +kernel)) ?_
      refine p_it1 (by decide +kernel) ?_
      refine p_rc (r := 0) (by decide +kernel) (hQ12 _ ?_)
      dsimp only
      refine p_rc (r := 0) (by decide +kernel) (hQ7 _ ?_)
      dsimp only
      show pw (bX4_findLeastSizes_16 (mX4_findLeastSizes_16 69999) _ _ _ _) _
      unfold bX4_findLeastSizes_16
      refine p_it0 (by decide +kernel) ?_
      show pw (bX4_findLeastSizes_24 _ (mX4_findLeastSizes_24 _ 69999) _ _ _ _ _) _
      unfold bX4_findLeastSizes_24
      refine p_it0 (by decide +kernel) ?_
      show pw (bX4_findLeastSizes_32 _ _ (mX4_findLeastSizes_32 _ _ 69999) _ _ _ _ _ _) _
      unfold bX4_findLeastSizes_32
      refine p_it0 (by decide +kernel) ?_
      refine p_gK ?_
      refine p_bindg (fun Q14 hQ14 => ?_)
      unfold mX4_fits
      refine p_it0 (by decide +kernel) ?_
      refine p_it1 (by decide +kernel) ?_
      refine p_gFc (ji := 8) (r := 38) rfl (h13.v (by decide +kernel) (by decide +kernel)) ?_
      refine p_gK ?_
      refine p_bindg (fun Q15 hQ15 => ?_)
      unfold mX3_resize
      refine p_bindg (fun Q16 hQ16 => ?_)
      unfold mX3_isKind
      refine p_it0 (by decide +kernel) ?_
      refine p_it0 (by decide +kernel) ?_
      refine p_rc (r := 1) (by decide +kernel) (hQ16 _ ?_)
      dsimp only
      refine p_it0 (by decide +kernel) ?_
      refine p_it0 (by decide +kernel) ?_
      refine p_it0 (by decide +kernel) ?_
      refine p_gFc (ji := 0) (r := 39) rfl (h13.v (by decide +kernel) (by decide +kernel)) ?_
      refine p_aGc (r := 2) (h13.v (by decide +kernel) (by decide +kernel)) ?_
      refine p_it0 (by decide +kernel) ?_
      refine p_gFc (ji := 0) (r := 39) rfl (h13.v (by decide +kernel) (by decide +kernel)) ?_
      refine p_aS (fun M17 h17 => ?_)
      replace h17 := h13.st (al := 39) (il := 0) (xl := 1) h17 (by decide +kernel) (by decide +kernel) (by decide +kernel)
      refine p_gK ?_
      refine p_bindg (fun Q18 hQ18 => ?_)
      unfold mX3_layOut
      refine p_pF (ji := 7) rfl (fun M19 h19 => ?_)
      replace h19 := h17.st (al := 38) (il := 7) (xl := 0) h19 (by decide +kernel) (by decide +kernel) (by decide +kernel)
      show pw (bX3_layOut_7 (mX3_layOut_7 69999) _ _ _) _
      unfold bX3_layOut_7
      refine p_gFc (ji := 6) (r := 0) rfl (h19.v (by decide +kernel) (by decide +kernel)) ?_
      refine p_it1 (by decide +kernel) ?_
      refine p_rc (r := 0) (by decide +kernel) (hQ18 _ ?_)
      dsimp only
      refine p_rc (r := 1) (by decide +kernel) (hQ15 _ ?_)
      dsimp only
      refine p_gFc (ji := 8) (r := 38) rfl (h19.v (by decide +kernel) (by decide +kernel)) ?_
      refine p_gK ?_
      refine p_bindg (fun Q20 hQ20 => ?_)
      unfold mX3_resize
      refine p_bindg (fun Q21 hQ21 => ?_)
      unfold mX3_isKind
      refine p_it0 (by decide +kernel) ?_
      refine p_it0 (by decide +kernel) ?_
      refine p_rc (r := 1) (by decide +kernel) (hQ21 _ ?_)
      dsimp only
      refine p_it0 (by decide +kernel) ?_
      refine p_it0 (by decide +kernel) ?_
      refine p_it0 (by decide +kernel) ?_
      refine p_gFc (ji := 0) (r := 39) rfl (h19.v (by decide +kernel) (by decide +kernel)) ?_
      refine p_aGc (r := 2) (h19.v (by decide +kernel) (by decide +kernel)) ?_
      refine p_it0 (by decide +kernel) ?_
      refine p_gFc (ji := 0) (r := 39) rfl (h19.v (by decide +kernel) (by decide +kernel)) ?_
      refine p_aS (fun M22 h22 => ?_)
      replace h22 := h19.st (al := 39) (il := 1) (xl := 1) h22 (by decide +kernel) (by decide +kernel) (by decide +kernel)
      refine p_gK ?_
      refine p_bindg (fun Q23 hQ23 => ?_)
      unfold mX3_layOut
      refine p_pF (ji := 7) rfl (fun M24 h24 => ?_)
      replace h24 := h22.st (al := 38) (il := 7) (xl := 0) h24 (by decide +kernel) (by decide +kernel) (by decide +kernel)
      show pw (bX3_layOut_7 (mX3_layOut_7 69999) _ _ _) _
      unfold bX3_layOut_7
      refine p_gFc (ji := 6) (r := 0) rfl (h24.v (by decide +kernel) (by decide +kernel)) ?_
      refine p_it1 (by decide +kernel) ?_
      refine p_rc (r := 0) (by decide +kernel) (hQ23 _ ?_)
      dsimp only
      refine p_rc (r := 1) (by decide +kernel) (hQ20 _ ?_)
      dsimp only
      refine p_gFc (ji := 8) (r := 38) rfl (h24.v (by decide +kernel) (by decide +kernel)) ?_
      refine p_gK ?_
      refine p_bindg (fun Q25 hQ25 => ?_)
      unfold mX3_resize
      refine p_bindg (fun Q26 hQ26 => ?_)
      unfold mX3_isKind
      refine p_it0 (by decide +kernel) ?_
      refine p_it0 (by decide +kernel) ?_
      refine p_rc (r := 1) (by decide +kernel) (hQ26 _ ?_)
      dsimp only
      refine p_it0 (by decide +kernel) ?_
      refine p_it0 (by decide +kernel) ?_
      refine p_it0 (by decide +kernel) ?_
      refine p_gFc (ji := 0) (r := 39) rfl (h24.v (by decide +kernel) (by decide +kernel)) ?_
      refine p_aGc (r := 2) (h24.v (by decide +kernel) (by decide +kernel)) ?_
      refine p_it0 (by decide +kernel) ?_
      refine p_gFc (ji := 0) (r := 39) rfl (h24.v (by decide +kernel) (by decide +kernel)) ?_
      refine p_aS (fun M27 h27 => ?_)
      replace h27 := h24.st (al := 39) (il := 2) (xl := 1) h27 (by decide +kernel) (by decide +kernel) (by decide +kernel)
      refine p_gK ?_
      refine p_bindg (fun Q28 hQ28 => ?_)
      unfold mX3_layOut
      refine p_pF (ji := 7) rfl (fun M29 h29 => ?_)
      replace h29 := h27.st (al := 38) (il := 7) (xl := 0) h29 (by decide +kernel) (by decide +kernel) (by decide +kernel)
      show pw (bX3_layOut_7 (mX3_layOut_7 69999) _ _ _) _
      unfold bX3_layOut_7
      refine p_gFc (ji := 6) (r := 0) rfl (h29.v (by decide +kernel) (by decide +kernel)) ?_
      refine p_it1 (by decide +kernel) ?_
      refine p_rc (r := 0) (by decide +kernel) (hQ28 _ ?_)
      dsimp only
      refine p_rc (r := 1) (by decide +kernel) (hQ25 _ ?_)
      dsimp only
      refine p_gFc (ji := 8) (r := 38) rfl (h29.v (by decide +kernel) (by decide +kernel)) ?_
      refine p_gFc (ji := 7) (r := 0) rfl (h29.v (by decide +kernel) (by decide +kernel)) ?_
      refine p_it1 (by decide +kernel) ?_
      refine p_gFc (ji := 7) (r := 36) rfl (h29.v (by decide +kernel) (by decide +kernel)) ?_
      refine p_gFc (ji := 8) (r := 38) rfl (h29.v (by decide +kernel) (by decide +kernel)) ?_
      refine p_gFc (ji := 7) (r := 0) rfl (h29.v (by decide +kernel) (by decide +kernel)) ?_
      refine p_gK ?_
      refine p_bindg (fun Q30 hQ30 => ?_)
      unfold mX7_takeAll
      refine p_gK ?_
      refine p_bindg (fun Q31 hQ31 => ?_)
      unfold mX7_takeNone
      refine p_pF (ji := 2) rfl (fun M32 h32 => ?_)
      replace h32 := h29.st (al := 36) (il := 2) (xl := 0) h32 (by decide +kernel) (by decide +kernel) (by decide +kernel)
      refine p_gFc (ji := 2) (r := 0) rfl (h32.v (by decide +kernel) (by decide +kernel)) ?_
      refine p_it0 (by decide +kernel) ?_
      unfold mX7_takeNone_37
      refine p_pF (ji := 1) rfl (fun M33 h33 => ?_)
      replace h33 := h32.st (al := 36) (il := 1) (xl := 1) h33 (by decide +kernel) (by decide +kernel) (by decide +kernel)
      show pw (bX7_takeNone_42 (mX7_takeNone_42 69999) _ _ _) _
      unfold bX7_takeNone_42
      refine p_gFc (ji := 1) (r := 1) rfl (h33.v (by decide +kernel) (by decide +kernel)) ?_
      refine p_it0 (by decide +kernel) ?_
      refine p_gFc (ji := 0) (r := 37) rfl (h33.v (by decide +kernel) (by decide +kernel)) ?_
      refine p_aS (fun M34 h34 => ?_)
      replace h34 := h33.st (al := 37) (il := 0) (xl := 0) h34 (by decide +kernel) (by decide +kernel) (by decide +kernel)
      show pw (bX7_takeNone_42 (mX7_takeNone_42 69998) _ _ _) _
      unfold bX7_takeNone_42
      refine p_gFc (ji := 1) (r := 1) rfl (h34.v (by decide +kernel) (by decide +kernel)) ?_
      refine p_it1 (by decide +kernel) ?_
      refine p_rc (r := 0) (by decide +kernel) (hQ31 _ ?_)
      dsimp only
      show pw (bX7_takeAll_7 (mX7_takeAll_7 69999) _ _ _) _
      unfold bX7_takeAll_7
      refine p_gFc (ji := 1) (r := 1) rfl (h34.v (by decide +kernel) (by decide +kernel)) ?_
      refine p_it0 (by decide +kernel) ?_
      refine p_gFc (ji := 0) (r := 37) rfl (h34.v (by decide +kernel) (by decide +kernel)) ?_
      refine p_gFc (ji := 2) (r := 0) rfl (h34.v (by decide +kernel) (by decide +kernel)) ?_
      refine p_it0 (by decide +kernel) ?_
      refine p_gFc (ji := 2) (r := 0) rfl (h34.v (by decide +kernel) (by decide +kernel)) ?_
      unfold mX7_takeAll_45
      refine p_aS (fun M35 h35 => ?_)
      replace h35 := h34.st (al := 37) (il := 0) (xl := 1) h35 (by decide +kernel) (by decide +kernel) (by decide +kernel)
      show pw (bX7_takeAll_7 (mX7_takeAll_7 69998) _ _ _) _
      unfold bX7_takeAll_7
      refine p_gFc (ji := 1) (r := 1) rfl (h35.v (by decide +kernel) (by decide +kernel)) ?_
      refine p_it1 (by decide +kernel) ?_
      refine p_rc (r := 0) (by decide +kernel) (hQ30 _ ?_)
      dsimp only
      show pw (bX4_fits_73 (mX4_fits_73 69999) _ _ _ _) _
      unfold bX4_fits_73
      refine p_gFc (ji := 7) (r := 36) rfl (h35.v (by decide +kernel) (by decide +kernel)) ?_
      refine p_gK ?_
      refine p_bindg (fun Q36 hQ36 => ?_)
      unfold mX7_usedWords
      refine p_gFc (ji := 1) (r := 1) rfl (h35.v (by decide +kernel) (by decide +kernel)) ?_
      refine p_rc (r := 1) (by decide +kernel) (hQ36 _ ?_)
      dsimp only
      refine p_it0 (by decide +kernel) ?_
      refine p_gFc (ji := 7) (r := 36) rfl (h35.v (by decide +kernel) (by decide +kernel)) ?_
      refine p_gFc (ji := 0) (r := 37) rfl (h35.v (by decide +kernel) (by decide +kernel)) ?_
      refine p_aGc (r := 1) (h35.v (by decide +kernel) (by decide +kernel)) ?_
      show pw (bX4_fits_100 _ (mX4_fits_100 _ 69999) _ _ _ _ _ _) _
      unfold bX4_fits_100
      refine p_it0 (by decide +kernel) ?_
      refine p_it0 (by decide +kernel) ?_
      refine p_gFc (ji := 0) (r := 3) rfl (h35.v (by decide +kernel) (by decide +kernel)) ?_
      refine p_gFc (ji := 8) (r := 14) rfl (h35.v (by decide +kernel) (by decide +kernel)) ?_
      refine p_aGc (r := 0) (h35.v (by decide +kernel) (by decide +kernel)) ?_
      refine p_it1 (by decide +kernel) ?_
      unfold mX4_fits_161
      show pw (bX4_fits_100 _ (mX4_fits_100 _ 69998) _ _ _ _ _ _) _
      unfold bX4_fits_100
      refine p_it0 (by decide +kernel) ?_
      refine p_it0 (by decide +kernel) ?_
      refine p_gFc (ji := 0) (r := 3) rfl (h35.v (by decide +kernel) (by decide +kernel)) ?_
      refine p_gFc (ji := 8) (r := 14) rfl (h35.v (by decide +kernel) (by decide +kernel)) ?_
      refine p_aGc (r := 0) (h35.v (by decide +kernel) (by decide +kernel)) ?_
      refine p_it1 (by decide +kernel) ?_
      unfold mX4_fits_161
      show pw (bX4_fits_100 _ (mX4_fits_100 _ 69997) _ _ _ _ _ _) _
      unfold bX4_fits_100
      refine p_it0 (by decide +kernel) ?_
      refine p_it0 (by decide +kernel) ?_
      refine p_gFc (ji := 0) (r := 3) rfl (h35.v (by decide +kernel) (by decide +kernel)) ?_
      refine p_gFc (ji := 8) (r := 14) rfl (h35.v (by decide +kernel) (by decide +kernel)) ?_
      refine p_aGc (r := 0) (h35.v (by decide +kernel) (by decide +kernel)) ?_
      refine p_it1 (by decide +kernel) ?_
      unfold mX4_fits_161
      show pw (bX4_fits_100 _ (mX4_fits_100 _ 69996) _ _ _ _ _ _) _
      unfold bX4_fits_100
      refine p_it0 (by decide +kernel) ?_
      refine p_it0 (by decide +kernel) ?_
      refine p_gFc (ji := 0) (r := 3) rfl (h35.v (by decide +kernel) (by decide +kernel)) ?_
      refine p_gFc (ji := 8) (r := 14) rfl (h35.v (by decide +kernel) (by decide +kernel)) ?_
      refine p_aGc (r := 0) (h35.v (by decide +kernel) (by decide +kernel)) ?_
      refine p_it1 (by decide +kernel) ?_
      unfold mX4_fits_161
      show pw (bX4_fits_100 _ (mX4_fits_100 _ 69995) _ _ _ _ _ _) _
      unfold bX4_fits_100
      refine p_it0 (by decide +kernel) ?_
      refine p_it0 (by decide +kernel) ?_
      refine p_gFc (ji := 0) (r := 3) rfl (h35.v (by decide +kernel) (by decide +kernel)) ?_
      refine p_gFc (ji := 8) (r := 14) rfl (h35.v (by decide +kernel) (by decide +kernel)) ?_
      refine p_aGc (r := 0) (h35.v (by decide +kernel) (by decide +kernel)) ?_
      refine p_it1 (by decide +kernel) ?_
      unfold mX4_fits_161
      show pw (bX4_fits_100 _ (mX4_fits_100 _ 69994) _ _ _ _ _ _) _
      unfold bX4_fits_100
      refine p_it0 (by decide +kernel) ?_
      refine p_it0 (by decide +kernel) ?_
      refine p_gFc (ji := 0) (r := 3) rfl (h35.v (by decide +kernel) (by decide +kernel)) ?_
      refine p_gFc (ji := 8) (r := 14) rfl (h35.v (by decide +kernel) (by decide +kernel)) ?_
      refine p_aGc (r := 0) (h35.v (by decide +kernel) (by decide +kernel)) ?_
      refine p_it1 (by decide +kernel) ?_
      unfold mX4_fits_161
      show pw (bX4_fits_100 _ (mX4_fits_100 _ 69993) _ _ _ _ _ _) _
      unfold bX4_fits_100
      refine p_it0 (by decide +kernel) ?_
      refine p_it0 (by decide +kernel) ?_
      refine p_gFc (ji := 0) (r := 3) rfl (h35.v (by decide +kernel) (by decide +kernel)) ?_
      refine p_gFc (ji := 8) (r := 14) rfl (h35.v (by decide +kernel) (by decide +kernel)) ?_
      refine p_aGc (r := 0) (h35.v (by decide +kernel) (by decide +kernel)) ?_
      refine p_it1 (by decide +kernel) ?_
      unfold mX4_fits_161
      show pw (bX4_fits_100 _ (mX4_fits_100 _ 69992) _ _ _ _ _ _) _
      unfold bX4_fits_100
      refine p_it0 (by decide +kernel) ?_
      refine p_it0 (by decide +kernel) ?_
      refine p_gFc (ji := 0) (r := 3) rfl (h35.v (by decide +kernel) (by decide +kernel)) ?_
      refine p_gFc (ji := 8) (r := 14) rfl (h35.v (by decide +kernel) (by decide +kernel)) ?_
      refine p_aGc (r := 0) (h35.v (by decide +kernel) (by decide +kernel)) ?_
      refine p_it1 (by decide +kernel) ?_
      unfold mX4_fits_161
      show pw (bX4_fits_100 _ (mX4_fits_100 _ 69991) _ _ _ _ _ _) _
      unfold bX4_fits_100
      refine p_it1 (by decide +kernel) ?_
      unfold mX4_fits_167
      refine p_it0 (by decide +kernel) ?_
      refine p_rc (r := 1) (by decide +kernel) (hQ14 _ ?_)
      dsimp only
      refine p_it0 (by decide +kernel) ?_
      refine p_gFc (ji := 8) (r := 38) rfl (h35.v (by decide +kernel) (by decide +kernel)) ?_
      refine p_gFc (ji := 0) (r := 39) rfl (h35.v (by decide +kernel) (by decide +kernel)) ?_
      refine p_gFc (ji := 9) (r := 45) rfl (h35.v (by decide +kernel) (by decide +kernel)) ?_
      refine p_aC (fun M37 h37 => ?_)
      replace h37 := h35.cp (vs := [1, 1, 1]) (al := 45) h37 (by decide +kernel) (by decide +kernel) (by decide +kernel) (by decide +kernel)
      refine p_rc (r := 0) (by decide +kernel) (hQ6 _ ?_)
      dsimp only
      refine p_pF (ji := 10) rfl (fun M38 h38 => ?_)
      replace h38 := h37.st (al := 2) (il := 10) (xl := 0) h38 (by decide +kernel) (by decide +kernel) (by decide +kernel)
      unfold mX4_leastSize_26
      refine p_gFc (ji := 9) (r := 45) rfl (h38.v (by decide +kernel) (by decide +kernel)) ?_
      rcases (by omega : l1 = 0 ∨ l1 = 1 ∨ l1 = 2) with e39 | e39 | e39
      · subst e39
        refine p_aGc (r := 1) (h38.v (by decide +kernel) (by decide +kernel)) ?_
        refine p_rc (r := 1) (by decide +kernel) (hQ4 _ ?_)
        dsimp only
        refine p_rc (r := 1) (by decide +kernel) ?_
        show sp_least _ _
        unfold sp_least
        omega
      · subst e39
        refine p_aGc (r := 1) (h38.v (by decide +kernel) (by decide +kernel)) ?_
        refine p_rc (r := 1) (by decide +kernel) (hQ4 _ ?_)
        dsimp only
        refine p_rc (r := 1) (by decide +kernel) ?_
        show sp_least _ _
        unfold sp_least
        omega
      · subst e39
        refine p_aGc (r := 1) (h38.v (by decide +kernel) (by decide +kernel)) ?_
        refine p_rc (r := 1) (by decide +kernel) (hQ4 _ ?_)
        dsimp only
        refine p_rc (r := 1) (by decide +kernel) ?_
        show sp_least _ _
        unfold sp_least
        omega
theorem fx8_core {l1 : Int} {M : Mem} (t0 : TR 0 1 125 [] M) (r_l1 : (-2147483648) ≤ l1 ∧ l1 ≤ 2147483647) : pw (mX8_core 1 l1 M) (fun q => q.1 = (-1)) := by
  unfold mX8_core
  refine p_gFc (ji := 0) (r := 2) rfl (t0.v (by decide +kernel) (by decide +kernel)) ?_
  refine p_gK ?_
  refine p_bindg (fun Q1 hQ1 => ?_)
  unfold mX4_coreStories
  refine p_gK ?_
  refine p_bindg (fun Q2 hQ2 => ?_)
  unfold mX4_lookUp
  refine p_gK ?_
  refine p_bindg (fun Q3 hQ3 => ?_)
  unfold mX4_canTell
  refine p_gFc (ji := 0) (r := 3) rfl (t0.v (by decide +kernel) (by decide +kernel)) ?_
  refine p_gFc (ji := 0) (r := 4) rfl (t0.v (by decide +kernel) (by decide +kernel)) ?_
  refine p_gFc (ji := 7) (r := 0) rfl (t0.v (by decide +kernel) (by decide +kernel)) ?_
  refine p_it0 (by decide +kernel) ?_
  refine p_rc (r := 1) (by decide +kernel) (hQ3 _ ?_)
  dsimp only
  refine p_it0 (by decide +kernel) ?_
  refine p_gK ?_
  refine p_bindg (fun Q4 hQ4 => ?_)
  unfold mX4_findPossible
  refine p_gFc (ji := 0) (r := 3) rfl (t0.v (by decide +kernel) (by decide +kernel)) ?_
  refine p_gFc (ji := 0) (r := 4) rfl (t0.v (by decide +kernel) (by decide +kernel)) ?_
  refine p_gFc (ji := 5) (r := 32) rfl (t0.v (by decide +kernel) (by decide +kernel)) ?_
  refine p_gFc (ji := 7) (r := 0) rfl (t0.v (by decide +kernel) (by decide +kernel)) ?_
  refine p_gK ?_
  refine p_bindg (fun Q5 hQ5 => ?_)
  unfold mX7_takeAll
  refine p_gK ?_
  refine p_bindg (fun Q6 hQ6 => ?_)
  unfold mX7_takeNone
  refine p_pF (ji := 2) rfl (fun M7 h7 => ?_)
  replace h7 := t0.st (al := 32) (il := 2) (xl := 0) h7 (by decide +kernel) (by decide +kernel) (by decide +kernel)
  refine p_gFc (ji := 2) (r := 0) rfl (h7.v (by decide +kernel) (by decide +kernel)) ?_
  refine p_it0 (by decide +kernel) ?_
  unfold mX7_takeNone_37
  refine p_pF (ji := 1) rfl (fun M8 h8 => ?_)
  replace h8 := h7.st (al := 32) (il := 1) (xl := 1) h8 (by decide +kernel) (by decide +kernel) (by decide +kernel)
  show pw (bX7_takeNone_42 (mX7_takeNone_42 69999) _ _ _) _
  unfold bX7_takeNone_42
  refine p_gFc (ji := 1) (r := 1) rfl (h8.v (by decide +kernel) (by decide +kernel)) ?_
  refine p_it0 (by decide +kernel) ?_
  refine p_gFc (ji := 0) (r := 33) rfl (h8.v (by decide +kernel) (by decide +kernel)) ?_
  refine p_aS (fun M9 h9 => ?_)
  replace h9 := h8.st (al := 33) (il := 0) (xl := 0) h9 (by decide +kernel) (by decide +kernel) (by decide +kernel)
  show pw (bX7_takeNone_42 (mX7_takeNone_42 69998) _ _ _) _
  unfold bX7_takeNone_42
  refine p_gFc (ji := 1) (r := 1) rfl (h9.v (by decide +kernel) (by decide +kernel)) ?_
  refine p_it1 (by decide +kernel) ?_
  refine p_rc (r := 0) (by decide +kernel) (hQ6 _ ?_)
  dsimp only
  show pw (bX7_takeAll_7 (mX7_takeAll_7 69999) _ _ _) _
  unfold bX7_takeAll_7
  refine p_gFc (ji := 1) (r := 1) rfl (h9.v (by decide +kernel) (by decide +kernel)) ?_
  refine p_it0 (by decide +kernel) ?_
  refine p_gFc (ji := 0) (r := 33) rfl (h9.v (by decide +kernel) (by decide +kernel)) ?_
  refine p_gFc (ji := 2) (r := 0) rfl (h9.v (by decide +kernel) (by decide +kernel)) ?_
  refine p_it0 (by decide +kernel) ?_
  refine p_gFc (ji := 2) (r := 0) rfl (h9.v (by decide +kernel) (by decide +kernel)) ?_
  unfold mX7_takeAll_45
  refine p_aS (fun M10 h10 => ?_)
  replace h10 := h9.st (al := 33) (il := 0) (xl := 1) h10 (by decide +kernel) (by decide +kernel) (by decide +kernel)
  show pw (bX7_takeAll_7 (mX7_takeAll_7 69998) _ _ _) _
  unfold bX7_takeAll_7
  refine p_gFc (ji := 1) (r := 1) rfl (h10.v (by decide +kernel) (by decide +kernel)) ?_
  refine p_it1 (by decide +kernel) ?_
  refine p_rc (r := 0) (by decide +kernel) (hQ5 _ ?_)
  dsimp only
  show pw (bX4_findPossible_21 (mX4_findPossible_21 69999) _ _ _ _) _
  unfold bX4_findPossible_21
  refine p_gFc (ji := 6) (r := 0) rfl (h10.v (by decide +kernel) (by decide +kernel)) ?_
  refine p_it1 (by decide +kernel) ?_
  refine p_rc (r := 0) (by decide +kernel) (hQ4 _ ?_)
  dsimp only
  refine p_gFc (ji := 6) (r := 34) rfl (h10.v (by decide +kernel) (by decide +kernel)) ?_
  refine p_gFc (ji := 5) (r := 32) rfl (h10.v (by decide +kernel) (by decide +kernel)) ?_
  refine p_gK ?_
  refine p_bindg (fun Q11 hQ11 => ?_)
  unfold mX7_copy
  refine p_gFc (ji := 2) (r := 0) rfl (h10.v (by decide +kernel) (by decide +kernel)) ?_
  refine p_pF (ji := 2) rfl (fun M12 h12 => ?_)
  replace h12 := h10.st (al := 34) (il := 2) (xl := 0) h12 (by decide +kernel) (by decide +kernel) (by decide +kernel)
  refine p_gFc (ji := 1) (r := 1) rfl (h12.v (by decide +kernel) (by decide +kernel)) ?_
  refine p_pF (ji := 1) rfl (fun M13 h13 => ?_)
  replace h13 := h12.st (al := 34) (il := 1) (xl := 1) h13 (by decide +kernel) (by decide +kernel) (by decide +kernel)
  refine p_gFc (ji := 0) (r := 33) rfl (h13.v (by decide +kernel) (by decide +kernel)) ?_
  refine p_gFc (ji := 0) (r := 35) rfl (h13.v (by decide +kernel) (by decide +kernel)) ?_
  refine p_gFc (ji := 1) (r := 1) rfl (h13.v (by decide +kernel) (by decide +kernel)) ?_
  refine p_aC (fun M14 h14 => ?_)
  replace h14 := h13.cp (vs := [1]) (al := 35) h14 (by decide +kernel) (by decide +kernel) (by decide +kernel) (by decide +kernel)
  refine p_rc (r := 0) (by decide +kernel) (hQ11 _ ?_)
  dsimp only
  refine p_gFc (ji := 0) (r := 3) rfl (h14.v (by decide +kernel) (by decide +kernel)) ?_
  refine p_gK ?_
  refine p_bindg (fun Q15 hQ15 => ?_)
  unfold mX6_viewedStories
  show pw (bX6_viewedStories_4 (mX6_viewedStories_4 69999) _ _ _ _) _
  unfold bX6_viewedStories_4
  refine p_gFc (ji := 11) (r := 0) rfl (h14.v (by decide +kernel) (by decide +kernel)) ?_
  refine p_it1 (by decide +kernel) ?_
  refine p_rc (r := 0) (by decide +kernel) (hQ15 _ ?_)
  dsimp only
  show pw (bX4_lookUp_34 (mX4_lookUp_34 69999) _ _ _ _) _
  unfold bX4_lookUp_34
  refine p_it0 (by decide +kernel) ?_
  refine p_it1 (by decide +kernel) ?_
  unfold mX4_lookUp_69
  show pw (bX4_lookUp_34 (mX4_lookUp_34 69998) _ _ _ _) _
  unfold bX4_lookUp_34
  refine p_it0 (by decide +kernel) ?_
  refine p_it1 (by decide +kernel) ?_
  unfold mX4_lookUp_69
  show pw (bX4_lookUp_34 (mX4_lookUp_34 69997) _ _ _ _) _
  unfold bX4_lookUp_34
  refine p_it0 (by decide +kernel) ?_
  refine p_it1 (by decide +kernel) ?_
  unfold mX4_lookUp_69
  show pw (bX4_lookUp_34 (mX4_lookUp_34 69996) _ _ _ _) _
  unfold bX4_lookUp_34
  refine p_it0 (by decide +kernel) ?_
  refine p_it1 (by decide +kernel) ?_
  unfold mX4_lookUp_69
  show pw (bX4_lookUp_34 (mX4_lookUp_34 69995) _ _ _ _) _
  unfold bX4_lookUp_34
  refine p_it0 (by decide +kernel) ?_
  refine p_it1 (by decide +kernel) ?_
  unfold mX4_lookUp_69
  show pw (bX4_lookUp_34 (mX4_lookUp_34 69994) _ _ _ _) _
  unfold bX4_lookUp_34
  refine p_it0 (by decide +kernel) ?_
  refine p_it1 (by decide +kernel) ?_
  unfold mX4_lookUp_69
  show pw (bX4_lookUp_34 (mX4_lookUp_34 69993) _ _ _ _) _
  unfold bX4_lookUp_34
  refine p_it0 (by decide +kernel) ?_
  refine p_it1 (by decide +kernel) ?_
  unfold mX4_lookUp_69
  show pw (bX4_lookUp_34 (mX4_lookUp_34 69992) _ _ _ _) _
  unfold bX4_lookUp_34
  refine p_it0 (by decide +kernel) ?_
  refine p_it1 (by decide +kernel) ?_
  unfold mX4_lookUp_69
  show pw (bX4_lookUp_34 (mX4_lookUp_34 69991) _ _ _ _) _
  unfold bX4_lookUp_34
  refine p_it1 (by decide +kernel) ?_
  refine p_rc (r := 1) (by decide +kernel) (hQ2 _ ?_)
  dsimp only
  refine p_it0 (by decide +kernel) ?_
  refine p_gFc (ji := 6) (r := 34) rfl (h14.v (by decide +kernel) (by decide +kernel)) ?_
  refine p_gK ?_
  refine p_bindg (fun Q16 hQ16 => ?_)
  unfold mX7_isNothing
  show pw (bX7_isNothing_2 (mX7_isNothing_2 69999) _ _ _) _
  unfold bX7_isNothing_2
  refine p_gFc (ji := 1) (r := 1) rfl (h14.v (by decide +kernel) (by decide +kernel)) ?_
  refine p_it0 (by decide +kernel) ?_
  refine p_gFc (ji := 0) (r := 35) rfl (h14.v (by decide +kernel) (by decide +kernel)) ?_
  refine p_aGc (r := 1) (h14.v (by decide +kernel) (by decide +kernel)) ?_
  refine p_it0 (by decide +kernel) ?_
  refine p_rc (r := 0) (by decide +kernel) (hQ16 _ ?_)
  dsimp only
  refine p_it1 (by decide +kernel) ?_
  refine p_rc (r := 0) (by decide +kernel) (hQ1 _ ?_)
  dsimp only
  refine p_bindg (fun Q17 hQ17 => ?_)
  unfold mX8_nthBit
  show pw (bX8_nthBit_4 (mX8_nthBit_4 69999) _ _ _ _) _
  unfold bX8_nthBit_4
  refine p_it0 (by decide +kernel) ?_
  refine p_it1 (by decide +kernel) ?_
  unfold mX8_nthBit_27
  show pw (bX8_nthBit_4 (mX8_nthBit_4 69998) _ _ _ _) _
  unfold bX8_nthBit_4
  refine p_it0 (by decide +kernel) ?_
  refine p_it1 (by decide +kernel) ?_
  unfold mX8_nthBit_27
  show pw (bX8_nthBit_4 (mX8_nthBit_4 69997) _ _ _ _) _
  unfold bX8_nthBit_4
  refine p_it0 (by decide +kernel) ?_
  refine p_it1 (by decide +kernel) ?_
  unfold mX8_nthBit_27
  show pw (bX8_nthBit_4 (mX8_nthBit_4 69996) _ _ _ _) _
  unfold bX8_nthBit_4
  refine p_it0 (by decide +kernel) ?_
  refine p_it1 (by decide +kernel) ?_
  unfold mX8_nthBit_27
  show pw (bX8_nthBit_4 (mX8_nthBit_4 69995) _ _ _ _) _
  unfold bX8_nthBit_4
  refine p_it0 (by decide +kernel) ?_
  refine p_it1 (by decide +kernel) ?_
  unfold mX8_nthBit_27
  show pw (bX8_nthBit_4 (mX8_nthBit_4 69994) _ _ _ _) _
  unfold bX8_nthBit_4
  refine p_it0 (by decide +kernel) ?_
  refine p_it1 (by decide +kernel) ?_
  unfold mX8_nthBit_27
  show pw (bX8_nthBit_4 (mX8_nthBit_4 69993) _ _ _ _) _
  unfold bX8_nthBit_4
  refine p_it0 (by decide +kernel) ?_
  refine p_it1 (by decide +kernel) ?_
  unfold mX8_nthBit_27
  show pw (bX8_nthBit_4 (mX8_nthBit_4 69992) _ _ _ _) _
  unfold bX8_nthBit_4
  refine p_it0 (by decide +kernel) ?_
  refine p_it1 (by decide +kernel) ?_
  unfold mX8_nthBit_27
  show pw (bX8_nthBit_4 (mX8_nthBit_4 69991) _ _ _ _) _
  unfold bX8_nthBit_4
  refine p_it1 (by decide +kernel) ?_
  refine p_rc (r := (-1)) (by decide +kernel) (hQ17 _ ?_)
  dsimp only
  exact p_rc (r := (-1)) (by decide +kernel) rfl
theorem fx8_sure {l1 l2 l3 : Int} {M : Mem} (t0 : TR 0 1 125 [] M) (r_l1 : (-2147483648) ≤ l1 ∧ l1 ≤ 2147483647) (r_l2 : (-2147483648) ≤ l2 ∧ l2 ≤ 2147483647) (r_l3 : (-2147483648) ≤ l3 ∧ l3 ≤ 2147483647) : pw (mX8_sure 1 l1 l2 l3 M) (fun q => q.1 = (-1)) := by
  unfold mX8_sure
  refine p_gFc (ji := 0) (r := 2) rfl (t0.v (by decide +kernel) (by decide +kernel)) ?_
  refine p_gFc (ji := 1) (r := 3) rfl (t0.v (by decide +kernel) (by decide +kernel)) ?_
  refine p_gFc (ji := 0) (r := 4) rfl (t0.v (by decide +kernel) (by decide +kernel)) ?_
  refine p_gK ?_
  refine p_bindg (fun Q1 hQ1 => ?_)
  unfold mX3_place
  refine p_iflt_r (r := 0) (by decide +kernel) (fun c2 => ?_) (fun c2 => ?_)
  · skip
    refine p_rc (r := (-1)) (by decide +kernel) (hQ1 _ ?_)
    dsimp only
    refine p_gK ?_
    refine p_bindg (fun Q3 hQ3 => ?_)
    unfold mX4_sureness
    refine p_it1 (by decide +kernel) ?_
    refine p_rc (r := (-1)) (by decide +kernel) (hQ3 _ ?_)
    dsimp only
    exact p_rc (r := (-1)) (by decide +kernel) rfl
  · skip
    refine p_gFc (ji := 6) (r := 0) rfl (t0.v (by decide +kernel) (by decide +kernel)) ?_
    refine p_iflt_r (r := 0) (by decide +kernel) (fun c4 => absurd c4 (by omega)) (fun c4 => ?_)
    refine p_rc (r := (-1)) (by decide +kernel) (hQ1 _ ?_)
    dsimp only
    refine p_gK ?_
    refine p_bindg (fun Q5 hQ5 => ?_)
    unfold mX4_sureness
    refine p_it1 (by decide +kernel) ?_
    refine p_rc (r := (-1)) (by decide +kernel) (hQ5 _ ?_)
    dsimp only
    exact p_rc (r := (-1)) (by decide +kernel) rfl
theorem fx8_cause {l1 l2 l3 l4 : Int} {M : Mem} (t0 : TR 0 1 125 [] M) (r_l1 : (-2147483648) ≤ l1 ∧ l1 ≤ 2147483647) (r_l2 : (-2147483648) ≤ l2 ∧ l2 ≤ 2147483647) (r_l3 : (-2147483648) ≤ l3 ∧ l3 ≤ 2147483647) (r_l4 : (-2147483648) ≤ l4 ∧ l4 ≤ 2147483647) : pw (mX8_cause 1 l1 l2 l3 l4 M) (fun q => q.1 = (-1)) := by
  unfold mX8_cause
  refine p_gFc (ji := 1) (r := 3) rfl (t0.v (by decide +kernel) (by decide +kernel)) ?_
  refine p_gFc (ji := 0) (r := 4) rfl (t0.v (by decide +kernel) (by decide +kernel)) ?_
  refine p_gK ?_
  refine p_bindg (fun Q1 hQ1 => ?_)
  unfold mX3_place
  refine p_iflt_r (r := 0) (by decide +kernel) (fun c2 => ?_) (fun c2 => ?_)
  · skip
    refine p_rc (r := (-1)) (by decide +kernel) (hQ1 _ ?_)
    dsimp only
    refine p_gFc (ji := 0) (r := 2) rfl (t0.v (by decide +kernel) (by decide +kernel)) ?_
    refine p_gK ?_
    refine p_bindg (fun Q3 hQ3 => ?_)
    unfold mX4_sureness
    refine p_it1 (by decide +kernel) ?_
    refine p_rc (r := (-1)) (by decide +kernel) (hQ3 _ ?_)
    dsimp only
    refine p_it1 (by decide +kernel) ?_
    exact p_rc (r := (-1)) (by decide +kernel) rfl
  · skip
    refine p_gFc (ji := 6) (r := 0) rfl (t0.v (by decide +kernel) (by decide +kernel)) ?_
    refine p_iflt_r (r := 0) (by decide +kernel) (fun c4 => absurd c4 (by omega)) (fun c4 => ?_)
    refine p_rc (r := (-1)) (by decide +kernel) (hQ1 _ ?_)
    dsimp only
    refine p_gFc (ji := 0) (r := 2) rfl (t0.v (by decide +kernel) (by decide +kernel)) ?_
    refine p_gK ?_
    refine p_bindg (fun Q5 hQ5 => ?_)
    unfold mX4_sureness
    refine p_it1 (by decide +kernel) ?_
    refine p_rc (r := (-1)) (by decide +kernel) (hQ5 _ ?_)
    dsimp only
    refine p_it1 (by decide +kernel) ?_
    exact p_rc (r := (-1)) (by decide +kernel) rfl
theorem fx8_without {l1 : Int} {M : Mem} (t0 : TR 0 1 125 [] M) (r_l1 : (-2147483648) ≤ l1 ∧ l1 ≤ 2147483647) : pw (mX8_without 1 l1 M) (fun q => q.1 = (-1)) := by
  unfold mX8_without
  refine p_gFc (ji := 0) (r := 2) rfl (t0.v (by decide +kernel) (by decide +kernel)) ?_
  refine p_gK ?_
  refine p_bindg (fun Q1 hQ1 => ?_)
  unfold mX4_countWithout
  refine p_gFc (ji := 0) (r := 3) rfl (t0.v (by decide +kernel) (by decide +kernel)) ?_
  refine p_gK ?_
  refine p_bindg (fun Q2 hQ2 => ?_)
  unfold mX6_viewedStories
  show pw (bX6_viewedStories_4 (mX6_viewedStories_4 69999) _ _ _ _) _
  unfold bX6_viewedStories_4
  refine p_gFc (ji := 11) (r := 0) rfl (t0.v (by decide +kernel) (by decide +kernel)) ?_
  refine p_it1 (by decide +kernel) ?_
  refine p_rc (r := 0) (by decide +kernel) (hQ2 _ ?_)
  dsimp only
  refine p_gFc (ji := 0) (r := 3) rfl (t0.v (by decide +kernel) (by decide +kernel)) ?_
  refine p_gK ?_
  refine p_bindg (fun Q3 hQ3 => ?_)
  unfold mX6_hasStory
  refine p_iflt_r (r := 0) (by decide +kernel) (fun c4 => ?_) (fun c4 => ?_)
  · skip
    refine p_rc (r := 0) (by decide +kernel) (hQ3 _ ?_)
    dsimp only
    refine p_it1 (by decide +kernel) ?_
    unfold mX4_countWithout_31
    unfold mX4_countWithout_32
    refine p_it1 (by decide +kernel) ?_
    refine p_rc (r := (-1)) (by decide +kernel) (hQ1 _ ?_)
    dsimp only
    exact p_rc (r := (-1)) (by decide +kernel) rfl
  · skip
    refine p_gFc (ji := 11) (r := 0) rfl (t0.v (by decide +kernel) (by decide +kernel)) ?_
    refine p_ifle_l (r := 0) (by decide +kernel) (fun c5 => ?_) (fun c5 => absurd (by omega) c5)
    refine p_rc (r := 0) (by decide +kernel) (hQ3 _ ?_)
    dsimp only
    refine p_it1 (by decide +kernel) ?_
    unfold mX4_countWithout_31
    unfold mX4_countWithout_32
    refine p_it1 (by decide +kernel) ?_
    refine p_rc (r := (-1)) (by decide +kernel) (hQ1 _ ?_)
    dsimp only
    exact p_rc (r := (-1)) (by decide +kernel) rfl
theorem fx8_questions {M : Mem} (t0 : TR 0 1 125 [] M) : pw (mX8_questions 1 M) (fun q => q.1 = 0) := by
  unfold mX8_questions
  refine p_gFc (ji := 0) (r := 2) rfl (t0.v (by decide +kernel) (by decide +kernel)) ?_
  refine p_gK ?_
  refine p_bindg (fun Q1 hQ1 => ?_)
  unfold mX4_fewestQuestions
  refine p_gK ?_
  refine p_bindg (fun Q2 hQ2 => ?_)
  unfold mX4_lookUp
  refine p_gK ?_
  refine p_bindg (fun Q3 hQ3 => ?_)
  unfold mX4_canTell
  refine p_gFc (ji := 0) (r := 3) rfl (t0.v (by decide +kernel) (by decide +kernel)) ?_
  refine p_gFc (ji := 0) (r := 4) rfl (t0.v (by decide +kernel) (by decide +kernel)) ?_
  refine p_gFc (ji := 7) (r := 0) rfl (t0.v (by decide +kernel) (by decide +kernel)) ?_
  refine p_it0 (by decide +kernel) ?_
  refine p_rc (r := 1) (by decide +kernel) (hQ3 _ ?_)
  dsimp only
  refine p_it0 (by decide +kernel) ?_
  refine p_gK ?_
  refine p_bindg (fun Q4 hQ4 => ?_)
  unfold mX4_findPossible
  refine p_gFc (ji := 0) (r := 3) rfl (t0.v (by decide +kernel) (by decide +kernel)) ?_
  refine p_gFc (ji := 0) (r := 4) rfl (t0.v (by decide +kernel) (by decide +kernel)) ?_
  refine p_gFc (ji := 5) (r := 32) rfl (t0.v (by decide +kernel) (by decide +kernel)) ?_
  refine p_gFc (ji := 7) (r := 0) rfl (t0.v (by decide +kernel) (by decide +kernel)) ?_
  refine p_gK ?_
  refine p_bindg (fun Q5 hQ5 => ?_)
  unfold mX7_takeAll
  refine p_gK ?_
  refine p_bindg (fun Q6 hQ6 => ?_)
  unfold mX7_takeNone
  refine p_pF (ji := 2) rfl (fun M7 h7 => ?_)
  replace h7 := t0.st (al := 32) (il := 2) (xl := 0) h7 (by decide +kernel) (by decide +kernel) (by decide +kernel)
  refine p_gFc (ji := 2) (r := 0) rfl (h7.v (by decide +kernel) (by decide +kernel)) ?_
  refine p_it0 (by decide +kernel) ?_
  unfold mX7_takeNone_37
  refine p_pF (ji := 1) rfl (fun M8 h8 => ?_)
  replace h8 := h7.st (al := 32) (il := 1) (xl := 1) h8 (by decide +kernel) (by decide +kernel) (by decide +kernel)
  show pw (bX7_takeNone_42 (mX7_takeNone_42 69999) _ _ _) _
  unfold bX7_takeNone_42
  refine p_gFc (ji := 1) (r := 1) rfl (h8.v (by decide +kernel) (by decide +kernel)) ?_
  refine p_it0 (by decide +kernel) ?_
  refine p_gFc (ji := 0) (r := 33) rfl (h8.v (by decide +kernel) (by decide +kernel)) ?_
  refine p_aS (fun M9 h9 => ?_)
  replace h9 := h8.st (al := 33) (il := 0) (xl := 0) h9 (by decide +kernel) (by decide +kernel) (by decide +kernel)
  show pw (bX7_takeNone_42 (mX7_takeNone_42 69998) _ _ _) _
  unfold bX7_takeNone_42
  refine p_gFc (ji := 1) (r := 1) rfl (h9.v (by decide +kernel) (by decide +kernel)) ?_
  refine p_it1 (by decide +kernel) ?_
  refine p_rc (r := 0) (by decide +kernel) (hQ6 _ ?_)
  dsimp only
  show pw (bX7_takeAll_7 (mX7_takeAll_7 69999) _ _ _) _
  unfold bX7_takeAll_7
  refine p_gFc (ji := 1) (r := 1) rfl (h9.v (by decide +kernel) (by decide +kernel)) ?_
  refine p_it0 (by decide +kernel) ?_
  refine p_gFc (ji := 0) (r := 33) rfl (h9.v (by decide +kernel) (by decide +kernel)) ?_
  refine p_gFc (ji := 2) (r := 0) rfl (h9.v (by decide +kernel) (by decide +kernel)) ?_
  refine p_it0 (by decide +kernel) ?_
  refine p_gFc (ji := 2) (r := 0) rfl (h9.v (by decide +kernel) (by decide +kernel)) ?_
  unfold mX7_takeAll_45
  refine p_aS (fun M10 h10 => ?_)
  replace h10 := h9.st (al := 33) (il := 0) (xl := 1) h10 (by decide +kernel) (by decide +kernel) (by decide +kernel)
  show pw (bX7_takeAll_7 (mX7_takeAll_7 69998) _ _ _) _
  unfold bX7_takeAll_7
  refine p_gFc (ji := 1) (r := 1) rfl (h10.v (by decide +kernel) (by decide +kernel)) ?_
  refine p_it1 (by decide +kernel) ?_
  refine p_rc (r := 0) (by decide +kernel) (hQ5 _ ?_)
  dsimp only
  show pw (bX4_findPossible_21 (mX4_findPossible_21 69999) _ _ _ _) _
  unfold bX4_findPossible_21
  refine p_gFc (ji := 6) (r := 0) rfl (h10.v (by decide +kernel) (by decide +kernel)) ?_
  refine p_it1 (by decide +kernel) ?_
  refine p_rc (r := 0) (by decide +kernel) (hQ4 _ ?_)
  dsimp only
  refine p_gFc (ji := 6) (r := 34) rfl (h10.v (by decide +kernel) (by decide +kernel)) ?_
  refine p_gFc (ji := 5) (r := 32) rfl (h10.v (by decide +kernel) (by decide +kernel)) ?_
  refine p_gK ?_
  refine p_bindg (fun Q11 hQ11 => ?_)
  unfold mX7_copy
  refine p_gFc (ji := 2) (r := 0) rfl (h10.v (by decide +kernel) (by decide +kernel)) ?_
  refine p_pF (ji := 2) rfl (fun M12 h12 => ?_)
  replace h12 := h10.st (al := 34) (il := 2) (xl := 0) h12 (by decide +kernel) (by decide +kernel) (by decide +kernel)
  refine p_gFc (ji := 1) (r := 1) rfl (h12.v (by decide +kernel) (by decide +kernel)) ?_
  refine p_pF (ji := 1) rfl (fun M13 h13 => ?_)
  replace h13 := h12.st (al := 34) (il := 1) (xl := 1) h13 (by decide +kernel) (by decide +kernel) (by decide +kernel)
  refine p_gFc (ji := 0) (r := 33) rfl (h13.v (by decide +kernel) (by decide +kernel)) ?_
  refine p_gFc (ji := 0) (r := 35) rfl (h13.v (by decide +kernel) (by decide +kernel)) ?_
  refine p_gFc (ji := 1) (r := 1) rfl (h13.v (by decide +kernel) (by decide +kernel)) ?_
  refine p_aC (fun M14 h14 => ?_)
  replace h14 := h13.cp (vs := [1]) (al := 35) h14 (by decide +kernel) (by decide +kernel) (by decide +kernel) (by decide +kernel)
  refine p_rc (r := 0) (by decide +kernel) (hQ11 _ ?_)
  dsimp only
  refine p_gFc (ji := 0) (r := 3) rfl (h14.v (by decide +kernel) (by decide +kernel)) ?_
  refine p_gK ?_
  refine p_bindg (fun Q15 hQ15 => ?_)
  unfold mX6_viewedStories
  show pw (bX6_viewedStories_4 (mX6_viewedStories_4 69999) _ _ _ _) _
  unfold bX6_viewedStories_4
  refine p_gFc (ji := 11) (r := 0) rfl (h14.v (by decide +kernel) (by decide +kernel)) ?_
  refine p_it1 (by decide +kernel) ?_
  refine p_rc (r := 0) (by decide +kernel) (hQ15 _ ?_)
  dsimp only
  show pw (bX4_lookUp_34 (mX4_lookUp_34 69999) _ _ _ _) _
  unfold bX4_lookUp_34
  refine p_it0 (by decide +kernel) ?_
  refine p_it1 (by decide +kernel) ?_
  unfold mX4_lookUp_69
  show pw (bX4_lookUp_34 (mX4_lookUp_34 69998) _ _ _ _) _
  unfold bX4_lookUp_34
  refine p_it0 (by decide +kernel) ?_
  refine p_it1 (by decide +kernel) ?_
  unfold mX4_lookUp_69
  show pw (bX4_lookUp_34 (mX4_lookUp_34 69997) _ _ _ _) _
  unfold bX4_lookUp_34
  refine p_it0 (by decide +kernel) ?_
  refine p_it1 (by decide +kernel) ?_
  unfold mX4_lookUp_69
  show pw (bX4_lookUp_34 (mX4_lookUp_34 69996) _ _ _ _) _
  unfold bX4_lookUp_34
  refine p_it0 (by decide +kernel) ?_
  refine p_it1 (by decide +kernel) ?_
  unfold mX4_lookUp_69
  show pw (bX4_lookUp_34 (mX4_lookUp_34 69995) _ _ _ _) _
  unfold bX4_lookUp_34
  refine p_it0 (by decide +kernel) ?_
  refine p_it1 (by decide +kernel) ?_
  unfold mX4_lookUp_69
  show pw (bX4_lookUp_34 (mX4_lookUp_34 69994) _ _ _ _) _
  unfold bX4_lookUp_34
  refine p_it0 (by decide +kernel) ?_
  refine p_it1 (by decide +kernel) ?_
  unfold mX4_lookUp_69
  show pw (bX4_lookUp_34 (mX4_lookUp_34 69993) _ _ _ _) _
  unfold bX4_lookUp_34
  refine p_it0 (by decide +kernel) ?_
  refine p_it1 (by decide +kernel) ?_
  unfold mX4_lookUp_69
  show pw (bX4_lookUp_34 (mX4_lookUp_34 69992) _ _ _ _) _
  unfold bX4_lookUp_34
  refine p_it0 (by decide +kernel) ?_
  refine p_it1 (by decide +kernel) ?_
  unfold mX4_lookUp_69
  show pw (bX4_lookUp_34 (mX4_lookUp_34 69991) _ _ _ _) _
  unfold bX4_lookUp_34
  refine p_it1 (by decide +kernel) ?_
  refine p_rc (r := 1) (by decide +kernel) (hQ2 _ ?_)
  dsimp only
  refine p_it0 (by decide +kernel) ?_
  refine p_gFc (ji := 6) (r := 34) rfl (h14.v (by decide +kernel) (by decide +kernel)) ?_
  refine p_gK ?_
  refine p_bindg (fun Q16 hQ16 => ?_)
  unfold mX7_isNothing
  show pw (bX7_isNothing_2 (mX7_isNothing_2 69999) _ _ _) _
  unfold bX7_isNothing_2
  refine p_gFc (ji := 1) (r := 1) rfl (h14.v (by decide +kernel) (by decide +kernel)) ?_
  refine p_it0 (by decide +kernel) ?_
  refine p_gFc (ji := 0) (r := 35) rfl (h14.v (by decide +kernel) (by decide +kernel)) ?_
  refine p_aGc (r := 1) (h14.v (by decide +kernel) (by decide +kernel)) ?_
  refine p_it0 (by decide +kernel) ?_
  refine p_rc (r := 0) (by decide +kernel) (hQ16 _ ?_)
  dsimp only
  refine p_it1 (by decide +kernel) ?_
  refine p_gFc (ji := 6) (r := 34) rfl (h14.v (by decide +kernel) (by decide +kernel)) ?_
  refine p_gK ?_
  refine p_bindg (fun Q17 hQ17 => ?_)
  unfold mX7_count
  show pw (bX7_count_4 (mX7_count_4 69999) _ _ _ _) _
  unfold bX7_count_4
  refine p_gFc (ji := 1) (r := 1) rfl (h14.v (by decide +kernel) (by decide +kernel)) ?_
  refine p_it0 (by decide +kernel) ?_
  refine p_gFc (ji := 0) (r := 35) rfl (h14.v (by decide +kernel) (by decide +kernel)) ?_
  refine p_aGc (r := 1) (h14.v (by decide +kernel) (by decide +kernel)) ?_
  refine p_bindg (fun Q18 hQ18 => ?_)
  unfold mJ13_bitCount_95d88
  refine p_some (fun v19 h19 => ?_)
  have h19 : v19 = 1 := h19.trans (by decide +kernel)
  subst h19
  refine p_some (fun v20 h20 => ?_)
  have h20 : v20 = 1 := h20.trans (by decide +kernel)
  subst h20
  refine p_some (fun v21 h21 => ?_)
  have h21 : v21 = 1 := h21.trans (by decide +kernel)
  subst h21
  refine p_some (fun v22 h22 => ?_)
  have h22 : v22 = 1 := h22.trans (by decide +kernel)
  subst h22
  refine p_some (fun v23 h23 => ?_)
  have h23 : v23 = 1 := h23.trans (by decide +kernel)
  subst h23
  refine p_rc (r := 1) (by decide +kernel) (hQ18 _ ?_)
  dsimp only
  show pw (bX7_count_4 (mX7_count_4 69998) _ _ _ _) _
  unfold bX7_count_4
  refine p_gFc (ji := 1) (r := 1) rfl (h14.v (by decide +kernel) (by decide +kernel)) ?_
  refine p_it1 (by decide +kernel) ?_
  refine p_rc (r := 1) (by decide +kernel) (hQ17 _ ?_)
  dsimp only
  refine p_it1 (by decide +kernel) ?_
  refine p_gK ?_
  refine p_bindg (fun Q24 hQ24 => ?_)
  unfold mX4_takeAsked
  show pw (bX4_takeAsked_4 (mX4_takeAsked_4 69999) _ _ _ _) _
  unfold bX4_takeAsked_4
  refine p_it0 (by decide +kernel) ?_
  refine p_gFc (ji := 11) (r := 46) rfl (h14.v (by decide +kernel) (by decide +kernel)) ?_
  refine p_aS (fun M25 h25 => ?_)
  replace h25 := h14.st (al := 46) (il := 0) (xl := 0) h25 (by decide +kernel) (by decide +kernel) (by decide +kernel)
  show pw (bX4_takeAsked_4 (mX4_takeAsked_4 69998) _ _ _ _) _
  unfold bX4_takeAsked_4
  refine p_it0 (by decide +kernel) ?_
  refine p_gFc (ji := 11) (r := 46) rfl (h25.v (by decide +kernel) (by decide +kernel)) ?_
  refine p_aS (fun M26 h26 => ?_)
  replace h26 := h25.st (al := 46) (il := 1) (xl := 0) h26 (by decide +kernel) (by decide +kernel) (by decide +kernel)
  show pw (bX4_takeAsked_4 (mX4_takeAsked_4 69997) _ _ _ _) _
  unfold bX4_takeAsked_4
  refine p_it0 (by decide +kernel) ?_
  refine p_gFc (ji := 11) (r := 46) rfl (h26.v (by decide +kernel) (by decide +kernel)) ?_
  refine p_aS (fun M27 h27 => ?_)
  replace h27 := h26.st (al := 46) (il := 2) (xl := 0) h27 (by decide +kernel) (by decide +kernel) (by decide +kernel)
  show pw (bX4_takeAsked_4 (mX4_takeAsked_4 69996) _ _ _ _) _
  unfold bX4_takeAsked_4
  refine p_it0 (by decide +kernel) ?_
  refine p_gFc (ji := 11) (r := 46) rfl (h27.v (by decide +kernel) (by decide +kernel)) ?_
  refine p_aS (fun M28 h28 => ?_)
  replace h28 := h27.st (al := 46) (il := 3) (xl := 0) h28 (by decide +kernel) (by decide +kernel) (by decide +kernel)
  show pw (bX4_takeAsked_4 (mX4_takeAsked_4 69995) _ _ _ _) _
  unfold bX4_takeAsked_4
  refine p_it0 (by decide +kernel) ?_
  refine p_gFc (ji := 11) (r := 46) rfl (h28.v (by decide +kernel) (by decide +kernel)) ?_
  refine p_aS (fun M29 h29 => ?_)
  replace h29 := h28.st (al := 46) (il := 4) (xl := 0) h29 (by decide +kernel) (by decide +kernel) (by decide +kernel)
  show pw (bX4_takeAsked_4 (mX4_takeAsked_4 69994) _ _ _ _) _
  unfold bX4_takeAsked_4
  refine p_it0 (by decide +kernel) ?_
  refine p_gFc (ji := 11) (r := 46) rfl (h29.v (by decide +kernel) (by decide +kernel)) ?_
  refine p_aS (fun M30 h30 => ?_)
  replace h30 := h29.st (al := 46) (il := 5) (xl := 0) h30 (by decide +kernel) (by decide +kernel) (by decide +kernel)
  show pw (bX4_takeAsked_4 (mX4_takeAsked_4 69993) _ _ _ _) _
  unfold bX4_takeAsked_4
  refine p_it0 (by decide +kernel) ?_
  refine p_gFc (ji := 11) (r := 46) rfl (h30.v (by decide +kernel) (by decide +kernel)) ?_
  refine p_aS (fun M31 h31 => ?_)
  replace h31 := h30.st (al := 46) (il := 6) (xl := 0) h31 (by decide +kernel) (by decide +kernel) (by decide +kernel)
  show pw (bX4_takeAsked_4 (mX4_takeAsked_4 69992) _ _ _ _) _
  unfold bX4_takeAsked_4
  refine p_it0 (by decide +kernel) ?_
  refine p_gFc (ji := 11) (r := 46) rfl (h31.v (by decide +kernel) (by decide +kernel)) ?_
  refine p_aS (fun M32 h32 => ?_)
  replace h32 := h31.st (al := 46) (il := 7) (xl := 0) h32 (by decide +kernel) (by decide +kernel) (by decide +kernel)
  show pw (bX4_takeAsked_4 (mX4_takeAsked_4 69991) _ _ _ _) _
  unfold bX4_takeAsked_4
  refine p_it0 (by decide +kernel) ?_
  refine p_gFc (ji := 11) (r := 46) rfl (h32.v (by decide +kernel) (by decide +kernel)) ?_
  refine p_aS (fun M33 h33 => ?_)
  replace h33 := h32.st (al := 46) (il := 8) (xl := 0) h33 (by decide +kernel) (by decide +kernel) (by decide +kernel)
  show pw (bX4_takeAsked_4 (mX4_takeAsked_4 69990) _ _ _ _) _
  unfold bX4_takeAsked_4
  refine p_it0 (by decide +kernel) ?_
  refine p_gFc (ji := 11) (r := 46) rfl (h33.v (by decide +kernel) (by decide +kernel)) ?_
  refine p_aS (fun M34 h34 => ?_)
  replace h34 := h33.st (al := 46) (il := 9) (xl := 0) h34 (by decide +kernel) (by decide +kernel) (by decide +kernel)
  show pw (bX4_takeAsked_4 (mX4_takeAsked_4 69989) _ _ _ _) _
  unfold bX4_takeAsked_4
  refine p_it0 (by decide +kernel) ?_
  refine p_gFc (ji := 11) (r := 46) rfl (h34.v (by decide +kernel) (by decide +kernel)) ?_
  refine p_aS (fun M35 h35 => ?_)
  replace h35 := h34.st (al := 46) (il := 10) (xl := 0) h35 (by decide +kernel) (by decide +kernel) (by decide +kernel)
  show pw (bX4_takeAsked_4 (mX4_takeAsked_4 69988) _ _ _ _) _
  unfold bX4_takeAsked_4
  refine p_it0 (by decide +kernel) ?_
  refine p_gFc (ji := 11) (r := 46) rfl (h35.v (by decide +kernel) (by decide +kernel)) ?_
  refine p_aS (fun M36 h36 => ?_)
  replace h36 := h35.st (al := 46) (il := 11) (xl := 0) h36 (by decide +kernel) (by decide +kernel) (by decide +kernel)
  show pw (bX4_takeAsked_4 (mX4_takeAsked_4 69987) _ _ _ _) _
  unfold bX4_takeAsked_4
  refine p_it1 (by decide +kernel) ?_
  refine p_gFc (ji := 6) (r := 34) rfl (h36.v (by decide +kernel) (by decide +kernel)) ?_
  refine p_gK ?_
  refine p_bindg (fun Q37 hQ37 => ?_)
  unfold mX7_count
  show pw (bX7_count_4 (mX7_count_4 69999) _ _ _ _) _
  unfold bX7_count_4
  refine p_gFc (ji := 1) (r := 1) rfl (h36.v (by decide +kernel) (by decide +kernel)) ?_
  refine p_it0 (by decide +kernel) ?_
  refine p_gFc (ji := 0) (r := 35) rfl (h36.v (by decide +kernel) (by decide +kernel)) ?_
  refine p_aGc (r := 1) (h36.v (by decide +kernel) (by decide +kernel)) ?_
  refine p_bindg (fun Q38 hQ38 => ?_)
  unfold mJ13_bitCount_95d88
  refine p_some (fun v39 h39 => ?_)
  have h39 : v39 = 1 := h39.trans (by decide +kernel)
  subst h39
  refine p_some (fun v40 h40 => ?_)
  have h40 : v40 = 1 := h40.trans (by decide +kernel)
  subst h40
  refine p_some (fun v41 h41 => ?_)
  have h41 : v41 = 1 := h41.trans (by decide +kernel)
  subst h41
  refine p_some (fun v42 h42 => ?_)
  have h42 : v42 = 1 := h42.trans (by decide +kernel)
  subst h42
  refine p_some (fun v43 h43 => ?_)
  have h43 : v43 = 1 := h43.trans (by decide +kernel)
  subst h43
  refine p_rc (r := 1) (by decide +kernel) (hQ38 _ ?_)
  dsimp only
  show pw (bX7_count_4 (mX7_count_4 69998) _ _ _ _) _
  unfold bX7_count_4
  refine p_gFc (ji := 1) (r := 1) rfl (h36.v (by decide +kernel) (by decide +kernel)) ?_
  refine p_it1 (by decide +kernel) ?_
  refine p_rc (r := 1) (by decide +kernel) (hQ37 _ ?_)
  dsimp only
  show pw (bX4_takeAsked_33 (mX4_takeAsked_33 69999) _ _ _ _ _) _
  unfold bX4_takeAsked_33
  refine p_it0 (by decide +kernel) ?_
  refine p_gFc (ji := 6) (r := 34) rfl (h36.v (by decide +kernel) (by decide +kernel)) ?_
  refine p_gK ?_
  refine p_bindg (fun Q44 hQ44 => ?_)
  unfold mX7_nth
  show pw (bX7_nth_4 (mX7_nth_4 69999) _ _ _ _) _
  unfold bX7_nth_4
  refine p_gK ?_
  refine p_bindg (fun Q45 hQ45 => ?_)
  unfold mX7_most
  refine p_gFc (ji := 2) (r := 0) rfl (h36.v (by decide +kernel) (by decide +kernel)) ?_
  refine p_rc (r := 1) (by decide +kernel) (hQ45 _ ?_)
  dsimp only
  refine p_it0 (by decide +kernel) ?_
  refine p_it0 (by decide +kernel) ?_
  refine p_gK ?_
  refine p_bindg (fun Q46 hQ46 => ?_)
  unfold mX7_has
  refine p_it0 (by decide +kernel) ?_
  refine p_gK ?_
  refine p_bindg (fun Q47 hQ47 => ?_)
  unfold mX7_most
  refine p_gFc (ji := 2) (r := 0) rfl (h36.v (by decide +kernel) (by decide +kernel)) ?_
  refine p_rc (r := 1) (by decide +kernel) (hQ47 _ ?_)
  dsimp only
  refine p_it0 (by decide +kernel) ?_
  refine p_gFc (ji := 0) (r := 35) rfl (h36.v (by decide +kernel) (by decide +kernel)) ?_
  refine p_aGc (r := 1) (h36.v (by decide +kernel) (by decide +kernel)) ?_
  refine p_it0 (by decide +kernel) ?_
  refine p_rc (r := 1) (by decide +kernel) (hQ46 _ ?_)
  dsimp only
  refine p_it0 (by decide +kernel) ?_
  refine p_it1 (by decide +kernel) ?_
  refine p_rc (r := 0) (by decide +kernel) (hQ44 _ ?_)
  dsimp only
  show pw (bX4_takeAsked_51 _ (mX4_takeAsked_51 _ 69999) _ _ _ _ _ _ _) _
  unfold bX4_takeAsked_51
  refine p_gFc (ji := 0) (r := 3) rfl (h36.v (by decide +kernel) (by decide +kernel)) ?_
  refine p_gFc (ji := 0) (r := 4) rfl (h36.v (by decide +kernel) (by decide +kernel)) ?_
  refine p_gFc (ji := 7) (r := 0) rfl (h36.v (by decide +kernel) (by decide +kernel)) ?_
  refine p_it1 (by decide +kernel) ?_
  unfold mX4_takeAsked_112
  show pw (bX4_takeAsked_33 (mX4_takeAsked_33 69998) _ _ _ _ _) _
  unfold bX4_takeAsked_33
  refine p_it1 (by decide +kernel) ?_
  refine p_rc (r := 1) (by decide +kernel) (hQ24 _ ?_)
  dsimp only
  show pw (bX4_fewestQuestions_38 (mX4_fewestQuestions_38 69999) _ _ _ _) _
  unfold bX4_fewestQuestions_38
  refine p_it0 (by decide +kernel) ?_
  refine p_gFc (ji := 11) (r := 46) rfl (h36.v (by decide +kernel) (by decide +kernel)) ?_
  refine p_bindg (fun Q48 hQ48 => ?_)
  show pw (mX4_suffice (gX4_suffice 7) _ _ _ _) _
  unfold mX4_suffice
  refine p_bindg (fun Q49 hQ49 => ?_)
  unfold mJ6_bitCount_0f7a4
  refine p_some (fun v50 h50 => ?_)
  have h50 : v50 = 1 := h50.trans (by decide +kernel)
  subst h50
  refine p_some (fun v51 h51 => ?_)
  have h51 : v51 = 1 := h51.trans (by decide +kernel)
  subst h51
  refine p_some (fun v52 h52 => ?_)
  have h52 : v52 = 1 := h52.trans (by decide +kernel)
  subst h52
  refine p_some (fun v53 h53 => ?_)
  have h53 : v53 = 1 := h53.trans (by decide +kernel)
  subst h53
  refine p_some (fun v54 h54 => ?_)
  have h54 : v54 = 1 := h54.trans (by decide +kernel)
  subst h54
  refine p_rc (r := 1) (by decide +kernel) (hQ49 _ ?_)
  dsimp only
  refine p_it0 (by decide +kernel) ?_
  refine p_rc (r := 1) (by decide +kernel) (hQ48 _ ?_)
  dsimp only
  refine p_it0 (by decide +kernel) ?_
  refine p_rc (r := 0) (by decide +kernel) (hQ1 _ ?_)
  dsimp only
  exact p_rc (r := 0) (by decide +kernel) rfl
theorem fx8_settle {l1 : Int} {M : Mem} (t0 : TR 0 1 125 [] M) (r_l1 : (-2147483648) ≤ l1 ∧ l1 ≤ 2147483647) : pw (mX8_settle 1 l1 M) (fun q => q.1 = (-1)) := by
  unfold mX8_settle
  refine p_gFc (ji := 0) (r := 2) rfl (t0.v (by decide +kernel) (by decide +kernel)) ?_
  refine p_gK ?_
  refine p_bindg (fun Q1 hQ1 => ?_)
  unfold mX4_settlingPlace
  refine p_gK ?_
  refine p_bindg (fun Q2 hQ2 => ?_)
  unfold mX4_lookUp
  refine p_gK ?_
  refine p_bindg (fun Q3 hQ3 => ?_)
  unfold mX4_canTell
  refine p_gFc (ji := 0) (r := 3) rfl (t0.v (by decide +kernel) (by decide +kernel)) ?_
  refine p_gFc (ji := 0) (r := 4) rfl (t0.v (by decide +kernel) (by decide +kernel)) ?_
  refine p_gFc (ji := 7) (r := 0) rfl (t0.v (by decide +kernel) (by decide +kernel)) ?_
  refine p_it0 (by decide +kernel) ?_
  refine p_rc (r := 1) (by decide +kernel) (hQ3 _ ?_)
  dsimp only
  refine p_it0 (by decide +kernel) ?_
  refine p_gK ?_
  refine p_bindg (fun Q4 hQ4 => ?_)
  unfold mX4_findPossible
  refine p_gFc (ji := 0) (r := 3) rfl (t0.v (by decide +kernel) (by decide +kernel)) ?_
  refine p_gFc (ji := 0) (r := 4) rfl (t0.v (by decide +kernel) (by decide +kernel)) ?_
  refine p_gFc (ji := 5) (r := 32) rfl (t0.v (by decide +kernel) (by decide +kernel)) ?_
  refine p_gFc (ji := 7) (r := 0) rfl (t0.v (by decide +kernel) (by decide +kernel)) ?_
  refine p_gK ?_
  refine p_bindg (fun Q5 hQ5 => ?_)
  unfold mX7_takeAll
  refine p_gK ?_
  refine p_bindg (fun Q6 hQ6 => ?_)
  unfold mX7_takeNone
  refine p_pF (ji := 2) rfl (fun M7 h7 => ?_)
  replace h7 := t0.st (al := 32) (il := 2) (xl := 0) h7 (by decide +kernel) (by decide +kernel) (by decide +kernel)
  refine p_gFc (ji := 2) (r := 0) rfl (h7.v (by decide +kernel) (by decide +kernel)) ?_
  refine p_it0 (by decide +kernel) ?_
  unfold mX7_takeNone_37
  refine p_pF (ji := 1) rfl (fun M8 h8 => ?_)
  replace h8 := h7.st (al := 32) (il := 1) (xl := 1) h8 (by decide +kernel) (by decide +kernel) (by decide +kernel)
  show pw (bX7_takeNone_42 (mX7_takeNone_42 69999) _ _ _) _
  unfold bX7_takeNone_42
  refine p_gFc (ji := 1) (r := 1) rfl (h8.v (by decide +kernel) (by decide +kernel)) ?_
  refine p_it0 (by decide +kernel) ?_
  refine p_gFc (ji := 0) (r := 33) rfl (h8.v (by decide +kernel) (by decide +kernel)) ?_
  refine p_aS (fun M9 h9 => ?_)
  replace h9 := h8.st (al := 33) (il := 0) (xl := 0) h9 (by decide +kernel) (by decide +kernel) (by decide +kernel)
  show pw (bX7_takeNone_42 (mX7_takeNone_42 69998) _ _ _) _
  unfold bX7_takeNone_42
  refine p_gFc (ji := 1) (r := 1) rfl (h9.v (by decide +kernel) (by decide +kernel)) ?_
  refine p_it1 (by decide +kernel) ?_
  refine p_rc (r := 0) (by decide +kernel) (hQ6 _ ?_)
  dsimp only
  show pw (bX7_takeAll_7 (mX7_takeAll_7 69999) _ _ _) _
  unfold bX7_takeAll_7
  refine p_gFc (ji := 1) (r := 1) rfl (h9.v (by decide +kernel) (by decide +kernel)) ?_
  refine p_it0 (by decide +kernel) ?_
  refine p_gFc (ji := 0) (r := 33) rfl (h9.v (by decide +kernel) (by decide +kernel)) ?_
  refine p_gFc (ji := 2) (r := 0) rfl (h9.v (by decide +kernel) (by decide +kernel)) ?_
  refine p_it0 (by decide +kernel) ?_
  refine p_gFc (ji := 2) (r := 0) rfl (h9.v (by decide +kernel) (by decide +kernel)) ?_
  unfold mX7_takeAll_45
  refine p_aS (fun M10 h10 => ?_)
  replace h10 := h9.st (al := 33) (il := 0) (xl := 1) h10 (by decide +kernel) (by decide +kernel) (by decide +kernel)
  show pw (bX7_takeAll_7 (mX7_takeAll_7 69998) _ _ _) _
  unfold bX7_takeAll_7
  refine p_gFc (ji := 1) (r := 1) rfl (h10.v (by decide +kernel) (by decide +kernel)) ?_
  refine p_it1 (by decide +kernel) ?_
  refine p_rc (r := 0) (by decide +kernel) (hQ5 _ ?_)
  dsimp only
  show pw (bX4_findPossible_21 (mX4_findPossible_21 69999) _ _ _ _) _
  unfold bX4_findPossible_21
  refine p_gFc (ji := 6) (r := 0) rfl (h10.v (by decide +kernel) (by decide +kernel)) ?_
  refine p_it1 (by decide +kernel) ?_
  refine p_rc (r := 0) (by decide +kernel) (hQ4 _ ?_)
  dsimp only
  refine p_gFc (ji := 6) (r := 34) rfl (h10.v (by decide +kernel) (by decide +kernel)) ?_
  refine p_gFc (ji := 5) (r := 32) rfl (h10.v (by decide +kernel) (by decide +kernel)) ?_
  refine p_gK ?_
  refine p_bindg (fun Q11 hQ11 => ?_)
  unfold mX7_copy
  refine p_gFc (ji := 2) (r := 0) rfl (h10.v (by decide +kernel) (by decide +kernel)) ?_
  refine p_pF (ji := 2) rfl (fun M12 h12 => ?_)
  replace h12 := h10.st (al := 34) (il := 2) (xl := 0) h12 (by decide +kernel) (by decide +kernel) (by decide +kernel)
  refine p_gFc (ji := 1) (r := 1) rfl (h12.v (by decide +kernel) (by decide +kernel)) ?_
  refine p_pF (ji := 1) rfl (fun M13 h13 => ?_)
  replace h13 := h12.st (al := 34) (il := 1) (xl := 1) h13 (by decide +kernel) (by decide +kernel) (by decide +kernel)
  refine p_gFc (ji := 0) (r := 33) rfl (h13.v (by decide +kernel) (by decide +kernel)) ?_
  refine p_gFc (ji := 0) (r := 35) rfl (h13.v (by decide +kernel) (by decide +kernel)) ?_
  refine p_gFc (ji := 1) (r := 1) rfl (h13.v (by decide +kernel) (by decide +kernel)) ?_
  refine p_aC (fun M14 h14 => ?_)
  replace h14 := h13.cp (vs := [1]) (al := 35) h14 (by decide +kernel) (by decide +kernel) (by decide +kernel) (by decide +kernel)
  refine p_rc (r := 0) (by decide +kernel) (hQ11 _ ?_)
  dsimp only
  refine p_gFc (ji := 0) (r := 3) rfl (h14.v (by decide +kernel) (by decide +kernel)) ?_
  refine p_gK ?_
  refine p_bindg (fun Q15 hQ15 => ?_)
  unfold mX6_viewedStories
  show pw (bX6_viewedStories_4 (mX6_viewedStories_4 69999) _ _ _ _) _
  unfold bX6_viewedStories_4
  refine p_gFc (ji := 11) (r := 0) rfl (h14.v (by decide +kernel) (by decide +kernel)) ?_
  refine p_it1 (by decide +kernel) ?_
  refine p_rc (r := 0) (by decide +kernel) (hQ15 _ ?_)
  dsimp only
  show pw (bX4_lookUp_34 (mX4_lookUp_34 69999) _ _ _ _) _
  unfold bX4_lookUp_34
  refine p_it0 (by decide +kernel) ?_
  refine p_it1 (by decide +kernel) ?_
  unfold mX4_lookUp_69
  show pw (bX4_lookUp_34 (mX4_lookUp_34 69998) _ _ _ _) _
  unfold bX4_lookUp_34
  refine p_it0 (by decide +kernel) ?_
  refine p_it1 (by decide +kernel) ?_
  unfold mX4_lookUp_69
  show pw (bX4_lookUp_34 (mX4_lookUp_34 69997) _ _ _ _) _
  unfold bX4_lookUp_34
  refine p_it0 (by decide +kernel) ?_
  refine p_it1 (by decide +kernel) ?_
  unfold mX4_lookUp_69
  show pw (bX4_lookUp_34 (mX4_lookUp_34 69996) _ _ _ _) _
  unfold bX4_lookUp_34
  refine p_it0 (by decide +kernel) ?_
  refine p_it1 (by decide +kernel) ?_
  unfold mX4_lookUp_69
  show pw (bX4_lookUp_34 (mX4_lookUp_34 69995) _ _ _ _) _
  unfold bX4_lookUp_34
  refine p_it0 (by decide +kernel) ?_
  refine p_it1 (by decide +kernel) ?_
  unfold mX4_lookUp_69
  show pw (bX4_lookUp_34 (mX4_lookUp_34 69994) _ _ _ _) _
  unfold bX4_lookUp_34
  refine p_it0 (by decide +kernel) ?_
  refine p_it1 (by decide +kernel) ?_
  unfold mX4_lookUp_69
  show pw (bX4_lookUp_34 (mX4_lookUp_34 69993) _ _ _ _) _
  unfold bX4_lookUp_34
  refine p_it0 (by decide +kernel) ?_
  refine p_it1 (by decide +kernel) ?_
  unfold mX4_lookUp_69
  show pw (bX4_lookUp_34 (mX4_lookUp_34 69992) _ _ _ _) _
  unfold bX4_lookUp_34
  refine p_it0 (by decide +kernel) ?_
  refine p_it1 (by decide +kernel) ?_
  unfold mX4_lookUp_69
  show pw (bX4_lookUp_34 (mX4_lookUp_34 69991) _ _ _ _) _
  unfold bX4_lookUp_34
  refine p_it1 (by decide +kernel) ?_
  refine p_rc (r := 1) (by decide +kernel) (hQ2 _ ?_)
  dsimp only
  refine p_it0 (by decide +kernel) ?_
  refine p_gFc (ji := 6) (r := 34) rfl (h14.v (by decide +kernel) (by decide +kernel)) ?_
  refine p_gK ?_
  refine p_bindg (fun Q16 hQ16 => ?_)
  unfold mX7_isNothing
  show pw (bX7_isNothing_2 (mX7_isNothing_2 69999) _ _ _) _
  unfold bX7_isNothing_2
  refine p_gFc (ji := 1) (r := 1) rfl (h14.v (by decide +kernel) (by decide +kernel)) ?_
  refine p_it0 (by decide +kernel) ?_
  refine p_gFc (ji := 0) (r := 35) rfl (h14.v (by decide +kernel) (by decide +kernel)) ?_
  refine p_aGc (r := 1) (h14.v (by decide +kernel) (by decide +kernel)) ?_
  refine p_it0 (by decide +kernel) ?_
  refine p_rc (r := 0) (by decide +kernel) (hQ16 _ ?_)
  dsimp only
  refine p_it1 (by decide +kernel) ?_
  show pw (bX4_settlingPlace_23 (mX4_settlingPlace_23 69999) _ _ _ _) _
  unfold bX4_settlingPlace_23
  refine p_gFc (ji := 0) (r := 3) rfl (h14.v (by decide +kernel) (by decide +kernel)) ?_
  refine p_gFc (ji := 0) (r := 4) rfl (h14.v (by decide +kernel) (by decide +kernel)) ?_
  refine p_gFc (ji := 7) (r := 0) rfl (h14.v (by decide +kernel) (by decide +kernel)) ?_
  refine p_it1 (by decide +kernel) ?_
  refine p_rc (r := (-1)) (by decide +kernel) (hQ1 _ ?_)
  dsimp only
  refine p_it1 (by decide +kernel) ?_
  exact p_rc (r := (-1)) (by decide +kernel) rfl
theorem fx8_near {M : Mem} (t0 : TR 0 1 125 [] M) : pw (mX8_near 1 M) (fun q => q.1 = 0) := by
  unfold mX8_near
  refine p_gFc (ji := 0) (r := 2) rfl (t0.v (by decide +kernel) (by decide +kernel)) ?_
  refine p_gK ?_
  refine p_bindg (fun Q1 hQ1 => ?_)
  unfold mX4_nearestWorld
  refine p_gK ?_
  refine p_bindg (fun Q2 hQ2 => ?_)
  unfold mX4_lookUp
  refine p_gK ?_
  refine p_bindg (fun Q3 hQ3 => ?_)
  unfold mX4_canTell
  refine p_gFc (ji := 0) (r := 3) rfl (t0.v (by decide +kernel) (by decide +kernel)) ?_
  refine p_gFc (ji := 0) (r := 4) rfl (t0.v (by decide +kernel) (by decide +kernel)) ?_
  refine p_gFc (ji := 7) (r := 0) rfl (t0.v (by decide +kernel) (by decide +kernel)) ?_
  refine p_it0 (by decide +kernel) ?_
  refine p_rc (r := 1) (by decide +kernel) (hQ3 _ ?_)
  dsimp only
  refine p_it0 (by decide +kernel) ?_
  refine p_gK ?_
  refine p_bindg (fun Q4 hQ4 => ?_)
  unfold mX4_findPossible
  refine p_gFc (ji := 0) (r := 3) rfl (t0.v (by decide +kernel) (by decide +kernel)) ?_
  refine p_gFc (ji := 0) (r := 4) rfl (t0.v (by decide +kernel) (by decide +kernel)) ?_
  refine p_gFc (ji := 5) (r := 32) rfl (t0.v (by decide +kernel) (by decide +kernel)) ?_
  refine p_gFc (ji := 7) (r := 0) rfl (t0.v (by decide +kernel) (by decide +kernel)) ?_
  refine p_gK ?_
  refine p_bindg (fun Q5 hQ5 => ?_)
  unfold mX7_takeAll
  refine p_gK ?_
  refine p_bindg (fun Q6 hQ6 => ?_)
  unfold mX7_takeNone
  refine p_pF (ji := 2) rfl (fun M7 h7 => ?_)
  replace h7 := t0.st (al := 32) (il := 2) (xl := 0) h7 (by decide +kernel) (by decide +kernel) (by decide +kernel)
  refine p_gFc (ji := 2) (r := 0) rfl (h7.v (by decide +kernel) (by decide +kernel)) ?_
  refine p_it0 (by decide +kernel) ?_
  unfold mX7_takeNone_37
  refine p_pF (ji := 1) rfl (fun M8 h8 => ?_)
  replace h8 := h7.st (al := 32) (il := 1) (xl := 1) h8 (by decide +kernel) (by decide +kernel) (by decide +kernel)
  show pw (bX7_takeNone_42 (mX7_takeNone_42 69999) _ _ _) _
  unfold bX7_takeNone_42
  refine p_gFc (ji := 1) (r := 1) rfl (h8.v (by decide +kernel) (by decide +kernel)) ?_
  refine p_it0 (by decide +kernel) ?_
  refine p_gFc (ji := 0) (r := 33) rfl (h8.v (by decide +kernel) (by decide +kernel)) ?_
  refine p_aS (fun M9 h9 => ?_)
  replace h9 := h8.st (al := 33) (il := 0) (xl := 0) h9 (by decide +kernel) (by decide +kernel) (by decide +kernel)
  show pw (bX7_takeNone_42 (mX7_takeNone_42 69998) _ _ _) _
  unfold bX7_takeNone_42
  refine p_gFc (ji := 1) (r := 1) rfl (h9.v (by decide +kernel) (by decide +kernel)) ?_
  refine p_it1 (by decide +kernel) ?_
  refine p_rc (r := 0) (by decide +kernel) (hQ6 _ ?_)
  dsimp only
  show pw (bX7_takeAll_7 (mX7_takeAll_7 69999) _ _ _) _
  unfold bX7_takeAll_7
  refine p_gFc (ji := 1) (r := 1) rfl (h9.v (by decide +kernel) (by decide +kernel)) ?_
  refine p_it0 (by decide +kernel) ?_
  refine p_gFc (ji := 0) (r := 33) rfl (h9.v (by decide +kernel) (by decide +kernel)) ?_
  refine p_gFc (ji := 2) (r := 0) rfl (h9.v (by decide +kernel) (by decide +kernel)) ?_
  refine p_it0 (by decide +kernel) ?_
  refine p_gFc (ji := 2) (r := 0) rfl (h9.v (by decide +kernel) (by decide +kernel)) ?_
  unfold mX7_takeAll_45
  refine p_aS (fun M10 h10 => ?_)
  replace h10 := h9.st (al := 33) (il := 0) (xl := 1) h10 (by decide +kernel) (by decide +kernel) (by decide +kernel)
  show pw (bX7_takeAll_7 (mX7_takeAll_7 69998) _ _ _) _
  unfold bX7_takeAll_7
  refine p_gFc (ji := 1) (r := 1) rfl (h10.v (by decide +kernel) (by decide +kernel)) ?_
  refine p_it1 (by decide +kernel) ?_
  refine p_rc (r := 0) (by decide +kernel) (hQ5 _ ?_)
  dsimp only
  show pw (bX4_findPossible_21 (mX4_findPossible_21 69999) _ _ _ _) _
  unfold bX4_findPossible_21
  refine p_gFc (ji := 6) (r := 0) rfl (h10.v (by decide +kernel) (by decide +kernel)) ?_
  refine p_it1 (by decide +kernel) ?_
  refine p_rc (r := 0) (by decide +kernel) (hQ4 _ ?_)
  dsimp only
  refine p_gFc (ji := 6) (r := 34) rfl (h10.v (by decide +kernel) (by decide +kernel)) ?_
  refine p_gFc (ji := 5) (r := 32) rfl (h10.v (by decide +kernel) (by decide +kernel)) ?_
  refine p_gK ?_
  refine p_bindg (fun Q11 hQ11 => ?_)
  unfold mX7_copy
  refine p_gFc (ji := 2) (r := 0) rfl (h10.v (by decide +kernel) (by decide +kernel)) ?_
  refine p_pF (ji := 2) rfl (fun M12 h12 => ?_)
  replace h12 := h10.st (al := 34) (il := 2) (xl := 0) h12 (by decide +kernel) (by decide +kernel) (by decide +kernel)
  refine p_gFc (ji := 1) (r := 1) rfl (h12.v (by decide +kernel) (by decide +kernel)) ?_
  refine p_pF (ji := 1) rfl (fun M13 h13 => ?_)
  replace h13 := h12.st (al := 34) (il := 1) (xl := 1) h13 (by decide +kernel) (by decide +kernel) (by decide +kernel)
  refine p_gFc (ji := 0) (r := 33) rfl (h13.v (by decide +kernel) (by decide +kernel)) ?_
  refine p_gFc (ji := 0) (r := 35) rfl (h13.v (by decide +kernel) (by decide +kernel)) ?_
  refine p_gFc (ji := 1) (r := 1) rfl (h13.v (by decide +kernel) (by decide +kernel)) ?_
  refine p_aC (fun M14 h14 => ?_)
  replace h14 := h13.cp (vs := [1]) (al := 35) h14 (by decide +kernel) (by decide +kernel) (by decide +kernel) (by decide +kernel)
  refine p_rc (r := 0) (by decide +kernel) (hQ11 _ ?_)
  dsimp only
  refine p_gFc (ji := 0) (r := 3) rfl (h14.v (by decide +kernel) (by decide +kernel)) ?_
  refine p_gK ?_
  refine p_bindg (fun Q15 hQ15 => ?_)
  unfold mX6_viewedStories
  show pw (bX6_viewedStories_4 (mX6_viewedStories_4 69999) _ _ _ _) _
  unfold bX6_viewedStories_4
  refine p_gFc (ji := 11) (r := 0) rfl (h14.v (by decide +kernel) (by decide +kernel)) ?_
  refine p_it1 (by decide +kernel) ?_
  refine p_rc (r := 0) (by decide +kernel) (hQ15 _ ?_)
  dsimp only
  show pw (bX4_lookUp_34 (mX4_lookUp_34 69999) _ _ _ _) _
  unfold bX4_lookUp_34
  refine p_it0 (by decide +kernel) ?_
  refine p_it1 (by decide +kernel) ?_
  unfold mX4_lookUp_69
  show pw (bX4_lookUp_34 (mX4_lookUp_34 69998) _ _ _ _) _
  unfold bX4_lookUp_34
  refine p_it0 (by decide +kernel) ?_
  refine p_it1 (by decide +kernel) ?_
  unfold mX4_lookUp_69
  show pw (bX4_lookUp_34 (mX4_lookUp_34 69997) _ _ _ _) _
  unfold bX4_lookUp_34
  refine p_it0 (by decide +kernel) ?_
  refine p_it1 (by decide +kernel) ?_
  unfold mX4_lookUp_69
  show pw (bX4_lookUp_34 (mX4_lookUp_34 69996) _ _ _ _) _
  unfold bX4_lookUp_34
  refine p_it0 (by decide +kernel) ?_
  refine p_it1 (by decide +kernel) ?_
  unfold mX4_lookUp_69
  show pw (bX4_lookUp_34 (mX4_lookUp_34 69995) _ _ _ _) _
  unfold bX4_lookUp_34
  refine p_it0 (by decide +kernel) ?_
  refine p_it1 (by decide +kernel) ?_
  unfold mX4_lookUp_69
  show pw (bX4_lookUp_34 (mX4_lookUp_34 69994) _ _ _ _) _
  unfold bX4_lookUp_34
  refine p_it0 (by decide +kernel) ?_
  refine p_it1 (by decide +kernel) ?_
  unfold mX4_lookUp_69
  show pw (bX4_lookUp_34 (mX4_lookUp_34 69993) _ _ _ _) _
  unfold bX4_lookUp_34
  refine p_it0 (by decide +kernel) ?_
  refine p_it1 (by decide +kernel) ?_
  unfold mX4_lookUp_69
  show pw (bX4_lookUp_34 (mX4_lookUp_34 69992) _ _ _ _) _
  unfold bX4_lookUp_34
  refine p_it0 (by decide +kernel) ?_
  refine p_it1 (by decide +kernel) ?_
  unfold mX4_lookUp_69
  show pw (bX4_lookUp_34 (mX4_lookUp_34 69991) _ _ _ _) _
  unfold bX4_lookUp_34
  refine p_it1 (by decide +kernel) ?_
  refine p_rc (r := 1) (by decide +kernel) (hQ2 _ ?_)
  dsimp only
  refine p_it0 (by decide +kernel) ?_
  show pw (bX4_nearestWorld_16 (mX4_nearestWorld_16 69999) _ _ _ _ _) _
  unfold bX4_nearestWorld_16
  refine p_gFc (ji := 6) (r := 34) rfl (h14.v (by decide +kernel) (by decide +kernel)) ?_
  refine p_gK ?_
  refine p_bindg (fun Q16 hQ16 => ?_)
  unfold mX7_most
  refine p_gFc (ji := 2) (r := 0) rfl (h14.v (by decide +kernel) (by decide +kernel)) ?_
  refine p_rc (r := 1) (by decide +kernel) (hQ16 _ ?_)
  dsimp only
  refine p_it0 (by decide +kernel) ?_
  refine p_gFc (ji := 0) (r := 3) rfl (h14.v (by decide +kernel) (by decide +kernel)) ?_
  refine p_gFc (ji := 1) (r := 0) rfl (h14.v (by decide +kernel) (by decide +kernel)) ?_
  refine p_bindg (fun Q17 hQ17 => ?_)
  unfold mJ13_bitCount_95d88
  refine p_some (fun v18 h18 => ?_)
  have h18 : v18 = 0 := h18.trans (by decide +kernel)
  subst h18
  refine p_some (fun v19 h19 => ?_)
  have h19 : v19 = 0 := h19.trans (by decide +kernel)
  subst h19
  refine p_some (fun v20 h20 => ?_)
  have h20 : v20 = 0 := h20.trans (by decide +kernel)
  subst h20
  refine p_some (fun v21 h21 => ?_)
  have h21 : v21 = 0 := h21.trans (by decide +kernel)
  subst h21
  refine p_some (fun v22 h22 => ?_)
  have h22 : v22 = 0 := h22.trans (by decide +kernel)
  subst h22
  refine p_rc (r := 0) (by decide +kernel) (hQ17 _ ?_)
  dsimp only
  refine p_it0 (by decide +kernel) ?_
  refine p_gFc (ji := 6) (r := 34) rfl (h14.v (by decide +kernel) (by decide +kernel)) ?_
  refine p_gK ?_
  refine p_bindg (fun Q23 hQ23 => ?_)
  unfold mX7_has
  refine p_it0 (by decide +kernel) ?_
  refine p_gK ?_
  refine p_bindg (fun Q24 hQ24 => ?_)
  unfold mX7_most
  refine p_gFc (ji := 2) (r := 0) rfl (h14.v (by decide +kernel) (by decide +kernel)) ?_
  refine p_rc (r := 1) (by decide +kernel) (hQ24 _ ?_)
  dsimp only
  refine p_it0 (by decide +kernel) ?_
  refine p_gFc (ji := 0) (r := 35) rfl (h14.v (by decide +kernel) (by decide +kernel)) ?_
  refine p_aGc (r := 1) (h14.v (by decide +kernel) (by decide +kernel)) ?_
  refine p_it0 (by decide +kernel) ?_
  refine p_rc (r := 1) (by decide +kernel) (hQ23 _ ?_)
  dsimp only
  refine p_it0 (by decide +kernel) ?_
  unfold mX4_nearestWorld_64
  show pw (bX4_nearestWorld_16 (mX4_nearestWorld_16 69998) _ _ _ _ _) _
  unfold bX4_nearestWorld_16
  refine p_gFc (ji := 6) (r := 34) rfl (h14.v (by decide +kernel) (by decide +kernel)) ?_
  refine p_gK ?_
  refine p_bindg (fun Q25 hQ25 => ?_)
  unfold mX7_most
  refine p_gFc (ji := 2) (r := 0) rfl (h14.v (by decide +kernel) (by decide +kernel)) ?_
  refine p_rc (r := 1) (by decide +kernel) (hQ25 _ ?_)
  dsimp only
  refine p_it1 (by decide +kernel) ?_
  refine p_rc (r := 0) (by decide +kernel) (hQ1 _ ?_)
  dsimp only
  refine p_it0 (by decide +kernel) ?_
  refine p_gFc (ji := 1) (r := 3) rfl (h14.v (by decide +kernel) (by decide +kernel)) ?_
  refine p_gFc (ji := 1) (r := 0) rfl (h14.v (by decide +kernel) (by decide +kernel)) ?_
  refine p_bindg (fun Q26 hQ26 => ?_)
  unfold mJ13_bitCount_95d88
  refine p_some (fun v27 h27 => ?_)
  have h27 : v27 = 0 := h27.trans (by decide +kernel)
  subst h27
  refine p_some (fun v28 h28 => ?_)
  have h28 : v28 = 0 := h28.trans (by decide +kernel)
  subst h28
  refine p_some (fun v29 h29 => ?_)
  have h29 : v29 = 0 := h29.trans (by decide +kernel)
  subst h29
  refine p_some (fun v30 h30 => ?_)
  have h30 : v30 = 0 := h30.trans (by decide +kernel)
  subst h30
  refine p_some (fun v31 h31 => ?_)
  have h31 : v31 = 0 := h31.trans (by decide +kernel)
  subst h31
  refine p_rc (r := 0) (by decide +kernel) (hQ26 _ ?_)
  dsimp only
  refine p_gFc (ji := 1) (r := 3) rfl (h14.v (by decide +kernel) (by decide +kernel)) ?_
  refine p_pF (ji := 1) rfl (fun M32 h32 => ?_)
  replace h32 := h14.st (al := 3) (il := 1) (xl := 0) h32 (by decide +kernel) (by decide +kernel) (by decide +kernel)
  exact p_rc (r := 0) (by decide +kernel) rfl
theorem fx8_holds {l1 : Int} {M : Mem} (t0 : TR 0 1 125 [] M) (r_l1 : (-2147483648) ≤ l1 ∧ l1 ≤ 2147483647) : pw (mX8_holds 1 l1 M) (fun q => q.1 = (-1)) := by
  unfold mX8_holds
  refine p_ifeq_r (r := 0) (by decide +kernel) (fun c1 => ?_) (fun c1 => ?_)
  · skip
    refine p_gFc (ji := 0) (r := 2) rfl (t0.v (by decide +kernel) (by decide +kernel)) ?_
    refine p_gK ?_
    refine p_bindg (fun Q2 hQ2 => ?_)
    unfold mX4_countGuessWorlds
    refine p_gFc (ji := 0) (r := 3) rfl (t0.v (by decide +kernel) (by decide +kernel)) ?_
    refine p_gFc (ji := 12) (r := 0) rfl (t0.v (by decide +kernel) (by decide +kernel)) ?_
    refine p_it1 (by decide +kernel) ?_
    refine p_rc (r := (-1)) (by decide +kernel) (hQ2 _ ?_)
    dsimp only
    exact p_rc (r := (-1)) (by decide +kernel) rfl
  · skip
    refine p_ifeq_r (r := 1) (by decide +kernel) (fun c3 => ?_) (fun c3 => ?_)
    · skip
      refine p_gFc (ji := 0) (r := 2) rfl (t0.v (by decide +kernel) (by decide +kernel)) ?_
      refine p_gK ?_
      refine p_bindg (fun Q4 hQ4 => ?_)
      unfold mX4_countGuessForms
      refine p_gFc (ji := 0) (r := 3) rfl (t0.v (by decide +kernel) (by decide +kernel)) ?_
      refine p_gFc (ji := 12) (r := 0) rfl (t0.v (by decide +kernel) (by decide +kernel)) ?_
      refine p_it1 (by decide +kernel) ?_
      refine p_rc (r := (-1)) (by decide +kernel) (hQ4 _ ?_)
      dsimp only
      exact p_rc (r := (-1)) (by decide +kernel) rfl
    · skip
      exact p_rc (r := (-1)) (by decide +kernel) rfl
theorem fx8_against {M : Mem} (t0 : TR 0 1 125 [] M) : pw (mX8_against 1 M) (fun q => q.1 = 0) := by
  unfold mX8_against
  refine p_gFc (ji := 0) (r := 2) rfl (t0.v (by decide +kernel) (by decide +kernel)) ?_
  refine p_gK ?_
  refine p_bindg (fun Q1 hQ1 => ?_)
  unfold mX4_formAgainst
  refine p_gFc (ji := 0) (r := 3) rfl (t0.v (by decide +kernel) (by decide +kernel)) ?_
  refine p_gFc (ji := 12) (r := 0) rfl (t0.v (by decide +kernel) (by decide +kernel)) ?_
  refine p_it1 (by decide +kernel) ?_
  refine p_rc (r := (-1)) (by decide +kernel) (hQ1 _ ?_)
  dsimp only
  refine p_gK ?_
  refine p_bindg (fun Q2 hQ2 => ?_)
  unfold mX8_becomes
  refine p_it1 (by decide +kernel) ?_
  refine p_rc (r := 0) (by decide +kernel) (hQ2 _ ?_)
  dsimp only
  refine p_zR (fun _ => ?_)
  exact p_rc (r := 0) (by decide +kernel) rfl
theorem fx8_many {l1 : Int} {M : Mem} (t0 : TR 0 1 125 [] M) (r_l1 : (-2147483648) ≤ l1 ∧ l1 ≤ 2147483647) : pw (mX8_many 1 l1 M) (fun q => sp_many l1 q.1) := by
  unfold mX8_many
  refine p_ifeq_r (r := 0) (by decide +kernel) (fun c1 => ?_) (fun c1 => ?_)
  · skip
    refine p_gFc (ji := 1) (r := 3) rfl (t0.v (by decide +kernel) (by decide +kernel)) ?_
    refine p_gFc (ji := 0) (r := 4) rfl (t0.v (by decide +kernel) (by decide +kernel)) ?_
    refine p_gFc (ji := 0) (r := 5) rfl (t0.v (by decide +kernel) (by decide +kernel)) ?_
    obtain rfl : l1 = 0 := by omega
    refine p_aGc (r := 2) (t0.v (by decide +kernel) (by decide +kernel)) ?_
    refine p_rc (r := 2) (by decide +kernel) ?_
    show sp_many _ _
    unfold sp_many
    omega
  · skip
    refine p_ifeq_r (r := 1) (by decide +kernel) (fun c3 => ?_) (fun c3 => ?_)
    · skip
      refine p_gFc (ji := 1) (r := 3) rfl (t0.v (by decide +kernel) (by decide +kernel)) ?_
      refine p_gFc (ji := 0) (r := 4) rfl (t0.v (by decide +kernel) (by decide +kernel)) ?_
      refine p_gFc (ji := 0) (r := 5) rfl (t0.v (by decide +kernel) (by decide +kernel)) ?_
      obtain rfl : l1 = 1 := by omega
      refine p_aGc (r := 2) (t0.v (by decide +kernel) (by decide +kernel)) ?_
      refine p_rc (r := 2) (by decide +kernel) ?_
      show sp_many _ _
      unfold sp_many
      omega
    · skip
      refine p_ifeq_r (r := 2) (by decide +kernel) (fun c5 => ?_) (fun c5 => ?_)
      · skip
        refine p_gFc (ji := 1) (r := 3) rfl (t0.v (by decide +kernel) (by decide +kernel)) ?_
        refine p_gFc (ji := 0) (r := 4) rfl (t0.v (by decide +kernel) (by decide +kernel)) ?_
        refine p_gFc (ji := 0) (r := 5) rfl (t0.v (by decide +kernel) (by decide +kernel)) ?_
        obtain rfl : l1 = 2 := by omega
        refine p_aGc (r := 2) (t0.v (by decide +kernel) (by decide +kernel)) ?_
        refine p_rc (r := 2) (by decide +kernel) ?_
        show sp_many _ _
        unfold sp_many
        omega
      · skip
        refine p_ifeq_r (r := 3) (by decide +kernel) (fun c7 => ?_) (fun c7 => ?_)
        · skip
          refine p_gFc (ji := 1) (r := 3) rfl (t0.v (by decide +kernel) (by decide +kernel)) ?_
          refine p_gFc (ji := 0) (r := 4) rfl (t0.v (by decide +kernel) (by decide +kernel)) ?_
          refine p_gFc (ji := 6) (r := 0) rfl (t0.v (by decide +kernel) (by decide +kernel)) ?_
          refine p_rc (r := 0) (by decide +kernel) ?_
          show sp_many _ _
          unfold sp_many
          omega
        · skip
          refine p_ifeq_r (r := 4) (by decide +kernel) (fun c8 => ?_) (fun c8 => ?_)
          · skip
            refine p_gFc (ji := 1) (r := 3) rfl (t0.v (by decide +kernel) (by decide +kernel)) ?_
            refine p_gFc (ji := 11) (r := 0) rfl (t0.v (by decide +kernel) (by decide +kernel)) ?_
            refine p_rc (r := 0) (by decide +kernel) ?_
            show sp_many _ _
            unfold sp_many
            omega
          · skip
            refine p_ifeq_r (r := 5) (by decide +kernel) (fun c9 => ?_) (fun c9 => ?_)
            · skip
              refine p_gFc (ji := 1) (r := 3) rfl (t0.v (by decide +kernel) (by decide +kernel)) ?_
              refine p_gFc (ji := 13) (r := 0) rfl (t0.v (by decide +kernel) (by decide +kernel)) ?_
              refine p_rc (r := 0) (by decide +kernel) ?_
              show sp_many _ _
              unfold sp_many
              omega
            · skip
              refine p_ifeq_r (r := 6) (by decide +kernel) (fun c10 => ?_) (fun c10 => ?_)
              · skip
                refine p_gFc (ji := 1) (r := 3) rfl (t0.v (by decide +kernel) (by decide +kernel)) ?_
                refine p_gFc (ji := 14) (r := (-1)) rfl (t0.v (by decide +kernel) (by decide +kernel)) ?_
                refine p_rc (r := (-1)) (by decide +kernel) ?_
                show sp_many _ _
                unfold sp_many
                omega
              · skip
                refine p_ifeq_r (r := 7) (by decide +kernel) (fun c11 => ?_) (fun c11 => ?_)
                · skip
                  refine p_gFc (ji := 1) (r := 3) rfl (t0.v (by decide +kernel) (by decide +kernel)) ?_
                  refine p_gK ?_
                  refine p_bindg (fun Q12 hQ12 => ?_)
                  unfold mX6_viewedStories
                  show pw (bX6_viewedStories_4 (mX6_viewedStories_4 69999) _ _ _ _) _
                  unfold bX6_viewedStories_4
                  refine p_gFc (ji := 11) (r := 0) rfl (t0.v (by decide +kernel) (by decide +kernel)) ?_
                  refine p_it1 (by decide +kernel) ?_
                  refine p_rc (r := 0) (by decide +kernel) (hQ12 _ ?_)
                  dsimp only
                  refine p_rc (r := 0) (by decide +kernel) ?_
                  show sp_many _ _
                  unfold sp_many
                  omega
                · skip
                  refine p_ifeq_r (r := 8) (by decide +kernel) (fun c13 => ?_) (fun c13 => ?_)
                  · skip
                    refine p_gFc (ji := 1) (r := 3) rfl (t0.v (by decide +kernel) (by decide +kernel)) ?_
                    refine p_gFc (ji := 1) (r := 0) rfl (t0.v (by decide +kernel) (by decide +kernel)) ?_
                    refine p_bindg (fun Q14 hQ14 => ?_)
                    unfold mJ13_bitCount_95d88
                    refine p_some (fun v15 h15 => ?_)
                    have h15 : v15 = 0 := h15.trans (by decide +kernel)
                    subst h15
                    refine p_some (fun v16 h16 => ?_)
                    have h16 : v16 = 0 := h16.trans (by decide +kernel)
                    subst h16
                    refine p_some (fun v17 h17 => ?_)
                    have h17 : v17 = 0 := h17.trans (by decide +kernel)
                    subst h17
                    refine p_some (fun v18 h18 => ?_)
                    have h18 : v18 = 0 := h18.trans (by decide +kernel)
                    subst h18
                    refine p_some (fun v19 h19 => ?_)
                    have h19 : v19 = 0 := h19.trans (by decide +kernel)
                    subst h19
                    refine p_rc (r := 0) (by decide +kernel) (hQ14 _ ?_)
                    dsimp only
                    refine p_rc (r := 0) (by decide +kernel) ?_
                    show sp_many _ _
                    unfold sp_many
                    omega
                  · skip
                    refine p_ifeq_r (r := 9) (by decide +kernel) (fun c20 => ?_) (fun c20 => ?_)
                    · skip
                      refine p_gFc (ji := 1) (r := 3) rfl (t0.v (by decide +kernel) (by decide +kernel)) ?_
                      refine p_gFc (ji := 12) (r := 0) rfl (t0.v (by decide +kernel) (by decide +kernel)) ?_
                      refine p_it1 (by decide +kernel) ?_
                      refine p_rc (r := 0) (by decide +kernel) ?_
                      show sp_many _ _
                      unfold sp_many
                      omega
                    · skip
                      refine p_ifeq_r (r := 10) (by decide +kernel) (fun c21 => ?_) (fun c21 => ?_)
                      · skip
                        refine p_gFc (ji := 1) (r := 3) rfl (t0.v (by decide +kernel) (by decide +kernel)) ?_
                        refine p_gFc (ji := 18) (r := 0) rfl (t0.v (by decide +kernel) (by decide +kernel)) ?_
                        refine p_rc (r := 0) (by decide +kernel) ?_
                        show sp_many _ _
                        unfold sp_many
                        omega
                      · skip
                        refine p_rc (r := (-2)) (by decide +kernel) ?_
                        show sp_many _ _
                        unfold sp_many
                        omega
