/-! ===== the answers of the reference on the fresh memory ===== -/
theorem fx9_tell {l1 l2 l3 l4 : Int} {M : Mem} (t0 : TR 162 126 169 [] M) (r_l1 : (-2147483648) ≤ l1 ∧ l1 ≤ 2147483647) (r_l2 : (-2147483648) ≤ l2 ∧ l2 ≤ 2147483647) (r_l3 : (-2147483648) ≤ l3 ∧ l3 ≤ 2147483647) (r_l4 : (-2147483648) ≤ l4 ∧ l4 ≤ 2147483647) : pw (mX9_tell 126 l1 l2 l3 l4 M) (fun q => q.1 = 0) := by
  unfold mX9_tell
  refine p_pF (ji := 0) rfl (fun M1 h1 => ?_)
  replace h1 := t0.st (al := 126) (il := 0) (xl := 0) h1 (by decide +kernel) (by decide +kernel) (by decide +kernel)
  refine p_gK ?_
  refine p_bindg (fun Q2 hQ2 => ?_)
  unfold mX9_toldFact
  refine p_gK ?_
  refine p_bindg (fun Q3 hQ3 => ?_)
  unfold mX9_bringSizes
  show pw (bX9_bringSizes_2 (mX9_bringSizes_2 69999) _ _ _) _
  unfold bX9_bringSizes_2
  refine p_it0 (by decide +kernel) ?_
  refine p_gFc (ji := 26) (r := 152) rfl (h1.v (by decide +kernel) (by decide +kernel)) ?_
  refine p_gFc (ji := 7) (r := 133) rfl (h1.v (by decide +kernel) (by decide +kernel)) ?_
  refine p_aGc (r := 2) (h1.v (by decide +kernel) (by decide +kernel)) ?_
  refine p_aS (fun M4 h4 => ?_)
  replace h4 := h1.st (al := 152) (il := 0) (xl := 2) h4 (by decide +kernel) (by decide +kernel) (by decide +kernel)
  show pw (bX9_bringSizes_2 (mX9_bringSizes_2 69998) _ _ _) _
  unfold bX9_bringSizes_2
  refine p_it0 (by decide +kernel) ?_
  refine p_gFc (ji := 26) (r := 152) rfl (h4.v (by decide +kernel) (by decide +kernel)) ?_
  refine p_gFc (ji := 7) (r := 133) rfl (h4.v (by decide +kernel) (by decide +kernel)) ?_
  refine p_aGc (r := 2) (h4.v (by decide +kernel) (by decide +kernel)) ?_
  refine p_aS (fun M5 h5 => ?_)
  replace h5 := h4.st (al := 152) (il := 1) (xl := 2) h5 (by decide +kernel) (by decide +kernel) (by decide +kernel)
  show pw (bX9_bringSizes_2 (mX9_bringSizes_2 69997) _ _ _) _
  unfold bX9_bringSizes_2
  refine p_it0 (by decide +kernel) ?_
  refine p_gFc (ji := 26) (r := 152) rfl (h5.v (by decide +kernel) (by decide +kernel)) ?_
  refine p_gFc (ji := 7) (r := 133) rfl (h5.v (by decide +kernel) (by decide +kernel)) ?_
  refine p_aGc (r := 2) (h5.v (by decide +kernel) (by decide +kernel)) ?_
  refine p_aS (fun M6 h6 => ?_)
  replace h6 := h5.st (al := 152) (il := 2) (xl := 2) h6 (by decide +kernel) (by decide +kernel) (by decide +kernel)
  show pw (bX9_bringSizes_2 (mX9_bringSizes_2 69996) _ _ _) _
  unfold bX9_bringSizes_2
  refine p_it1 (by decide +kernel) ?_
  refine p_gK ?_
  refine p_bindg (fun Q7 hQ7 => ?_)
  unfold mX9_findStarts
  refine p_gFc (ji := 27) (r := 153) rfl (h6.v (by decide +kernel) (by decide +kernel)) ?_
  refine p_aS (fun M8 h8 => ?_)
  replace h8 := h6.st (al := 153) (il := 0) (xl := 0) h8 (by decide +kernel) (by decide +kernel) (by decide +kernel)
  show pw (bX9_findStarts_9 (mX9_findStarts_9 69999) _ _ _) _
  unfold bX9_findStarts_9
  refine p_gFc (ji := 8) (r := 134) rfl (h8.v (by decide +kernel) (by decide +kernel)) ?_
  refine p_aGc (r := 0) (h8.v (by decide +kernel) (by decide +kernel)) ?_
  refine p_it1 (by decide +kernel) ?_
  refine p_rc (r := 0) (by decide +kernel) (hQ7 _ ?_)
  dsimp only
  refine p_rc (r := 0) (by decide +kernel) (hQ3 _ ?_)
  dsimp only
  refine p_gK ?_
  refine p_bindg (fun Q9 hQ9 => ?_)
  unfold mX9_isRelation
  refine p_gFc (ji := 8) (r := 134) rfl (h8.v (by decide +kernel) (by decide +kernel)) ?_
  refine p_aGc (r := 0) (h8.v (by decide +kernel) (by decide +kernel)) ?_
  refine p_bindg (fun Q10 hQ10 => ?_)
  unfold mX9_in
  refine p_iflt_r (r := 0) (by decide +kernel) (fun c11 => ?_) (fun c11 => ?_)
  · skip
    refine p_rc (r := 0) (by decide +kernel) (hQ10 _ ?_)
    dsimp only
    refine p_zR (fun _ => ?_)
    refine p_rc (r := 0) (by decide +kernel) (hQ9 _ ?_)
    dsimp only
    refine p_it1 (by decide +kernel) ?_
    refine p_rc (r := (-1)) (by decide +kernel) (hQ2 _ ?_)
    dsimp only
    refine p_it1 (by decide +kernel) ?_
    exact p_rc (r := 0) (by decide +kernel) rfl
  · skip
    refine p_iflt_l (r := (-1)) (by decide +kernel) (fun c12 => ?_) (fun c12 => absurd (by omega) c12)
    refine p_rc (r := 0) (by decide +kernel) (hQ10 _ ?_)
    dsimp only
    refine p_zR (fun _ => ?_)
    refine p_rc (r := 0) (by decide +kernel) (hQ9 _ ?_)
    dsimp only
    refine p_it1 (by decide +kernel) ?_
    refine p_rc (r := (-1)) (by decide +kernel) (hQ2 _ ?_)
    dsimp only
    refine p_it1 (by decide +kernel) ?_
    exact p_rc (r := 0) (by decide +kernel) rfl
theorem fx9_fact {l1 l2 l3 : Int} {M : Mem} (t0 : TR 162 126 169 [] M) (r_l1 : (-2147483648) ≤ l1 ∧ l1 ≤ 2147483647) (r_l2 : (-2147483648) ≤ l2 ∧ l2 ≤ 2147483647) (r_l3 : (-2147483648) ≤ l3 ∧ l3 ≤ 2147483647) : pw (mX9_fact 126 l1 l2 l3 M) (fun q => q.1 = (-1)) := by
  unfold mX9_fact
  refine p_pF (ji := 0) rfl (fun M1 h1 => ?_)
  replace h1 := t0.st (al := 126) (il := 0) (xl := 0) h1 (by decide +kernel) (by decide +kernel) (by decide +kernel)
  refine p_gK ?_
  refine p_bindg (fun Q2 hQ2 => ?_)
  unfold mX9_toldFact
  refine p_gK ?_
  refine p_bindg (fun Q3 hQ3 => ?_)
  unfold mX9_bringSizes
  show pw (bX9_bringSizes_2 (mX9_bringSizes_2 69999) _ _ _) _
  unfold bX9_bringSizes_2
  refine p_it0 (by decide +kernel) ?_
  refine p_gFc (ji := 26) (r := 152) rfl (h1.v (by decide +kernel) (by decide +kernel)) ?_
  refine p_gFc (ji := 7) (r := 133) rfl (h1.v (by decide +kernel) (by decide +kernel)) ?_
  refine p_aGc (r := 2) (h1.v (by decide +kernel) (by decide +kernel)) ?_
  refine p_aS (fun M4 h4 => ?_)
  replace h4 := h1.st (al := 152) (il := 0) (xl := 2) h4 (by decide +kernel) (by decide +kernel) (by decide +kernel)
  show pw (bX9_bringSizes_2 (mX9_bringSizes_2 69998) _ _ _) _
  unfold bX9_bringSizes_2
  refine p_it0 (by decide +kernel) ?_
  refine p_gFc (ji := 26) (r := 152) rfl (h4.v (by decide +kernel) (by decide +kernel)) ?_
  refine p_gFc (ji := 7) (r := 133) rfl (h4.v (by decide +kernel) (by decide +kernel)) ?_
  refine p_aGc (r := 2) (h4.v (by decide +kernel) (by decide +kernel)) ?_
  refine p_aS (fun M5 h5 => ?_)
  replace h5 := h4.st (al := 152) (il := 1) (xl := 2) h5 (by decide +kernel) (by decide +kernel) (by decide +kernel)
  show pw (bX9_bringSizes_2 (mX9_bringSizes_2 69997) _ _ _) _
  unfold bX9_bringSizes_2
  refine p_it0 (by decide +kernel) ?_
  refine p_gFc (ji := 26) (r := 152) rfl (h5.v (by decide +kernel) (by decide +kernel)) ?_
  refine p_gFc (ji := 7) (r := 133) rfl (h5.v (by decide +kernel) (by decide +kernel)) ?_
  refine p_aGc (r := 2) (h5.v (by decide +kernel) (by decide +kernel)) ?_
  refine p_aS (fun M6 h6 => ?_)
  replace h6 := h5.st (al := 152) (il := 2) (xl := 2) h6 (by decide +kernel) (by decide +kernel) (by decide +kernel)
  show pw (bX9_bringSizes_2 (mX9_bringSizes_2 69996) _ _ _) _
  unfold bX9_bringSizes_2
  refine p_it1 (by decide +kernel) ?_
  refine p_gK ?_
  refine p_bindg (fun Q7 hQ7 => ?_)
  unfold mX9_findStarts
  refine p_gFc (ji := 27) (r := 153) rfl (h6.v (by decide +kernel) (by decide +kernel)) ?_
  refine p_aS (fun M8 h8 => ?_)
  replace h8 := h6.st (al := 153) (il := 0) (xl := 0) h8 (by decide +kernel) (by decide +kernel) (by decide +kernel)
  show pw (bX9_findStarts_9 (mX9_findStarts_9 69999) _ _ _) _
  unfold bX9_findStarts_9
  refine p_gFc (ji := 8) (r := 134) rfl (h8.v (by decide +kernel) (by decide +kernel)) ?_
  refine p_aGc (r := 0) (h8.v (by decide +kernel) (by decide +kernel)) ?_
  refine p_it1 (by decide +kernel) ?_
  refine p_rc (r := 0) (by decide +kernel) (hQ7 _ ?_)
  dsimp only
  refine p_rc (r := 0) (by decide +kernel) (hQ3 _ ?_)
  dsimp only
  refine p_gK ?_
  refine p_bindg (fun Q9 hQ9 => ?_)
  unfold mX9_isRelation
  refine p_gFc (ji := 8) (r := 134) rfl (h8.v (by decide +kernel) (by decide +kernel)) ?_
  refine p_aGc (r := 0) (h8.v (by decide +kernel) (by decide +kernel)) ?_
  refine p_bindg (fun Q10 hQ10 => ?_)
  unfold mX9_in
  refine p_iflt_r (r := 0) (by decide +kernel) (fun c11 => ?_) (fun c11 => ?_)
  · skip
    refine p_rc (r := 0) (by decide +kernel) (hQ10 _ ?_)
    dsimp only
    refine p_zR (fun _ => ?_)
    refine p_rc (r := 0) (by decide +kernel) (hQ9 _ ?_)
    dsimp only
    refine p_it1 (by decide +kernel) ?_
    refine p_rc (r := (-1)) (by decide +kernel) (hQ2 _ ?_)
    dsimp only
    refine p_it1 (by decide +kernel) ?_
    exact p_rc (r := (-1)) (by decide +kernel) rfl
  · skip
    refine p_iflt_l (r := (-1)) (by decide +kernel) (fun c12 => ?_) (fun c12 => absurd (by omega) c12)
    refine p_rc (r := 0) (by decide +kernel) (hQ10 _ ?_)
    dsimp only
    refine p_zR (fun _ => ?_)
    refine p_rc (r := 0) (by decide +kernel) (hQ9 _ ?_)
    dsimp only
    refine p_it1 (by decide +kernel) ?_
    refine p_rc (r := (-1)) (by decide +kernel) (hQ2 _ ?_)
    dsimp only
    refine p_it1 (by decide +kernel) ?_
    exact p_rc (r := (-1)) (by decide +kernel) rfl
theorem fx9_apart {l1 : Int} {M : Mem} (t0 : TR 162 126 169 [] M) (r_l1 : (-2147483648) ≤ l1 ∧ l1 ≤ 2147483647) : pw (mX9_apart 126 l1 M) (fun q => q.1 = (-1)) := by
  unfold mX9_apart
  refine p_pF (ji := 0) rfl (fun M1 h1 => ?_)
  replace h1 := t0.st (al := 126) (il := 0) (xl := 0) h1 (by decide +kernel) (by decide +kernel) (by decide +kernel)
  refine p_bindg (fun Q2 hQ2 => ?_)
  unfold mX9_in
  refine p_iflt_r (r := 0) (by decide +kernel) (fun c3 => ?_) (fun c3 => ?_)
  · skip
    refine p_rc (r := 0) (by decide +kernel) (hQ2 _ ?_)
    dsimp only
    refine p_it1 (by decide +kernel) ?_
    exact p_rc (r := (-1)) (by decide +kernel) rfl
  · skip
    refine p_iflt_l (r := 3) (by decide +kernel) (fun c4 => ?_) (fun c4 => ?_)
    · skip
      refine p_rc (r := 0) (by decide +kernel) (hQ2 _ ?_)
      dsimp only
      refine p_it1 (by decide +kernel) ?_
      exact p_rc (r := (-1)) (by decide +kernel) rfl
    · skip
      refine p_rc (r := 1) (by decide +kernel) (hQ2 _ ?_)
      dsimp only
      refine p_it0 (by decide +kernel) ?_
      refine p_gFc (ji := 25) (r := 151) rfl (h1.v (by decide +kernel) (by decide +kernel)) ?_
      rcases (by omega : l1 = 0 ∨ l1 = 1 ∨ l1 = 2 ∨ l1 = 3) with e5 | e5 | e5 | e5
      · subst e5
        refine p_aGc (r := 0) (h1.v (by decide +kernel) (by decide +kernel)) ?_
        refine p_it1 (by decide +kernel) ?_
        exact p_rc (r := (-1)) (by decide +kernel) rfl
      · subst e5
        refine p_aGc (r := 0) (h1.v (by decide +kernel) (by decide +kernel)) ?_
        refine p_it1 (by decide +kernel) ?_
        exact p_rc (r := (-1)) (by decide +kernel) rfl
      · subst e5
        refine p_aGc (r := 0) (h1.v (by decide +kernel) (by decide +kernel)) ?_
        refine p_it1 (by decide +kernel) ?_
        exact p_rc (r := (-1)) (by decide +kernel) rfl
      · subst e5
        refine p_aGc (r := 0) (h1.v (by decide +kernel) (by decide +kernel)) ?_
        refine p_it1 (by decide +kernel) ?_
        exact p_rc (r := (-1)) (by decide +kernel) rfl
theorem fx9_story {M : Mem} (t0 : TR 162 126 169 [] M) : pw (mX9_story 126 M) (fun q => q.1 = (-1)) := by
  unfold mX9_story
  refine p_pF (ji := 0) rfl (fun M1 h1 => ?_)
  replace h1 := t0.st (al := 126) (il := 0) (xl := 0) h1 (by decide +kernel) (by decide +kernel) (by decide +kernel)
  refine p_gFc (ji := 12) (r := 138) rfl (h1.v (by decide +kernel) (by decide +kernel)) ?_
  refine p_aGc (r := 0) (h1.v (by decide +kernel) (by decide +kernel)) ?_
  refine p_it0 (by decide +kernel) ?_
  refine p_gK ?_
  refine p_bindg (fun Q2 hQ2 => ?_)
  unfold mX9_readText
  refine p_gFc (ji := 2) (r := 128) rfl (h1.v (by decide +kernel) (by decide +kernel)) ?_
  refine p_aGc (r := 0) (h1.v (by decide +kernel) (by decide +kernel)) ?_
  refine p_pF (ji := 30) rfl (fun M3 h3 => ?_)
  replace h3 := h1.st (al := 126) (il := 30) (xl := 0) h3 (by decide +kernel) (by decide +kernel) (by decide +kernel)
  refine p_gFc (ji := 2) (r := 128) rfl (h3.v (by decide +kernel) (by decide +kernel)) ?_
  refine p_aS (fun M4 h4 => ?_)
  replace h4 := h3.st (al := 128) (il := 0) (xl := 0) h4 (by decide +kernel) (by decide +kernel) (by decide +kernel)
  refine p_gFc (ji := 3) (r := 129) rfl (h4.v (by decide +kernel) (by decide +kernel)) ?_
  refine p_aS (fun M5 h5 => ?_)
  replace h5 := h4.st (al := 129) (il := 0) (xl := 0) h5 (by decide +kernel) (by decide +kernel) (by decide +kernel)
  refine p_gFc (ji := 4) (r := 130) rfl (h5.v (by decide +kernel) (by decide +kernel)) ?_
  refine p_aS (fun M6 h6 => ?_)
  replace h6 := h5.st (al := 130) (il := 0) (xl := (-1)) h6 (by decide +kernel) (by decide +kernel) (by decide +kernel)
  refine p_pF (ji := 29) rfl (fun M7 h7 => ?_)
  replace h7 := h6.st (al := 126) (il := 29) (xl := 0) h7 (by decide +kernel) (by decide +kernel) (by decide +kernel)
  refine p_pF (ji := 35) rfl (fun M8 h8 => ?_)
  replace h8 := h7.st (al := 126) (il := 35) (xl := (-1)) h8 (by decide +kernel) (by decide +kernel) (by decide +kernel)
  refine p_pF (ji := 36) rfl (fun M9 h9 => ?_)
  replace h9 := h8.st (al := 126) (il := 36) (xl := 0) h9 (by decide +kernel) (by decide +kernel) (by decide +kernel)
  refine p_pF (ji := 37) rfl (fun M10 h10 => ?_)
  replace h10 := h9.st (al := 126) (il := 37) (xl := 0) h10 (by decide +kernel) (by decide +kernel) (by decide +kernel)
  refine p_pF (ji := 38) rfl (fun M11 h11 => ?_)
  replace h11 := h10.st (al := 126) (il := 38) (xl := 0) h11 (by decide +kernel) (by decide +kernel) (by decide +kernel)
  refine p_pF (ji := 40) rfl (fun M12 h12 => ?_)
  replace h12 := h11.st (al := 126) (il := 40) (xl := 0) h12 (by decide +kernel) (by decide +kernel) (by decide +kernel)
  refine p_gK ?_
  refine p_bindg (fun Q13 hQ13 => ?_)
  unfold mX9_wait
  refine p_gFc (ji := 39) (r := 155) rfl (h12.v (by decide +kernel) (by decide +kernel)) ?_
  refine p_gFc (ji := 38) (r := 0) rfl (h12.v (by decide +kernel) (by decide +kernel)) ?_
  refine p_aS (fun M14 h14 => ?_)
  replace h14 := h12.st (al := 155) (il := 0) (xl := 255) h14 (by decide +kernel) (by decide +kernel) (by decide +kernel)
  refine p_gFc (ji := 38) (r := 0) rfl (h14.v (by decide +kernel) (by decide +kernel)) ?_
  refine p_pF (ji := 38) rfl (fun M15 h15 => ?_)
  replace h15 := h14.st (al := 126) (il := 38) (xl := 1) h15 (by decide +kernel) (by decide +kernel) (by decide +kernel)
  refine p_rc (r := 0) (by decide +kernel) (hQ13 _ ?_)
  dsimp only
  refine p_gK ?_
  refine p_bindg (fun Q16 hQ16 => ?_)
  unfold mX9_token
  show pw (bX9_token_0 (mX9_token_0 69999) _ _) _
  unfold bX9_token_0
  refine p_gK ?_
  refine p_bindg (fun Q17 hQ17 => ?_)
  unfold mX9_see
  refine p_gFc (ji := 29) (r := 0) rfl (h15.v (by decide +kernel) (by decide +kernel)) ?_
  refine p_gFc (ji := 30) (r := 0) rfl (h15.v (by decide +kernel) (by decide +kernel)) ?_
  refine p_it1 (by decide +kernel) ?_
  refine p_rc (r := (-1)) (by decide +kernel) (hQ17 _ ?_)
  dsimp only
  refine p_it0 (by decide +kernel) ?_
  refine p_gK ?_
  refine p_bindg (fun Q18 hQ18 => ?_)
  unfold mX9_see
  refine p_gFc (ji := 29) (r := 0) rfl (h15.v (by decide +kernel) (by decide +kernel)) ?_
  refine p_gFc (ji := 30) (r := 0) rfl (h15.v (by decide +kernel) (by decide +kernel)) ?_
  refine p_it1 (by decide +kernel) ?_
  refine p_rc (r := (-1)) (by decide +kernel) (hQ18 _ ?_)
  dsimp only
  refine p_it0 (by decide +kernel) ?_
  refine p_gFc (ji := 29) (r := 0) rfl (h15.v (by decide +kernel) (by decide +kernel)) ?_
  refine p_pF (ji := 31) rfl (fun M19 h19 => ?_)
  replace h19 := h15.st (al := 126) (il := 31) (xl := 0) h19 (by decide +kernel) (by decide +kernel) (by decide +kernel)
  refine p_gK ?_
  refine p_bindg (fun Q20 hQ20 => ?_)
  unfold mX9_see
  refine p_gFc (ji := 29) (r := 0) rfl (h19.v (by decide +kernel) (by decide +kernel)) ?_
  refine p_gFc (ji := 30) (r := 0) rfl (h19.v (by decide +kernel) (by decide +kernel)) ?_
  refine p_it1 (by decide +kernel) ?_
  refine p_rc (r := (-1)) (by decide +kernel) (hQ20 _ ?_)
  dsimp only
  refine p_pF (ji := 33) rfl (fun M21 h21 => ?_)
  replace h21 := h19.st (al := 126) (il := 33) (xl := 0) h21 (by decide +kernel) (by decide +kernel) (by decide +kernel)
  refine p_pF (ji := 34) rfl (fun M22 h22 => ?_)
  replace h22 := h21.st (al := 126) (il := 34) (xl := 0) h22 (by decide +kernel) (by decide +kernel) (by decide +kernel)
  refine p_it0 (by decide +kernel) ?_
  refine p_pF (ji := 32) rfl (fun M23 h23 => ?_)
  replace h23 := h22.st (al := 126) (il := 32) (xl := 0) h23 (by decide +kernel) (by decide +kernel) (by decide +kernel)
  refine p_rc (r := 0) (by decide +kernel) (hQ16 _ ?_)
  dsimp only
  show pw (bX9_readText_74 (mX9_readText_74 69999) _ _ _) _
  unfold bX9_readText_74
  refine p_it0 (by decide +kernel) ?_
  refine p_gFc (ji := 38) (r := 1) rfl (h23.v (by decide +kernel) (by decide +kernel)) ?_
  refine p_it0 (by decide +kernel) ?_
  refine p_gFc (ji := 38) (r := 1) rfl (h23.v (by decide +kernel) (by decide +kernel)) ?_
  refine p_pF (ji := 38) rfl (fun M24 h24 => ?_)
  replace h24 := h23.st (al := 126) (il := 38) (xl := 0) h24 (by decide +kernel) (by decide +kernel) (by decide +kernel)
  refine p_gFc (ji := 39) (r := 155) rfl (h24.v (by decide +kernel) (by decide +kernel)) ?_
  refine p_gFc (ji := 38) (r := 0) rfl (h24.v (by decide +kernel) (by decide +kernel)) ?_
  refine p_aGc (r := 255) (h24.v (by decide +kernel) (by decide +kernel)) ?_
  refine p_gK ?_
  refine p_bindg (fun Q25 hQ25 => ?_)
  unfold mX9_readPart
  refine p_gFc (ji := 40) (r := 0) rfl (h24.v (by decide +kernel) (by decide +kernel)) ?_
  refine p_it0 (by decide +kernel) ?_
  unfold mX9_readPart_18
  refine p_gFc (ji := 40) (r := 0) rfl (h24.v (by decide +kernel) (by decide +kernel)) ?_
  refine p_it0 (by decide +kernel) ?_
  refine p_gFc (ji := 40) (r := 0) rfl (h24.v (by decide +kernel) (by decide +kernel)) ?_
  unfold mX9_readPart_36
  refine p_gFc (ji := 40) (r := 0) rfl (h24.v (by decide +kernel) (by decide +kernel)) ?_
  refine p_pF (ji := 40) rfl (fun M26 h26 => ?_)
  replace h26 := h24.st (al := 126) (il := 40) (xl := 1) h26 (by decide +kernel) (by decide +kernel) (by decide +kernel)
  refine p_gFc (ji := 41) (r := 156) rfl (h26.v (by decide +kernel) (by decide +kernel)) ?_
  refine p_gK ?_
  refine p_bindg (fun Q27 hQ27 => ?_)
  unfold mX9_actOf
  refine p_gK ?_
  refine p_bindg (fun Q28 hQ28 => ?_)
  unfold mX9_isWord
  refine p_gFc (ji := 32) (r := 0) rfl (h26.v (by decide +kernel) (by decide +kernel)) ?_
  refine p_it0 (by decide +kernel) ?_
  refine p_rc (r := 0) (by decide +kernel) (hQ28 _ ?_)
  dsimp only
  refine p_it1 (by decide +kernel) ?_
  refine p_gK ?_
  refine p_bindg (fun Q29 hQ29 => ?_)
  unfold mX9_isWord
  refine p_gFc (ji := 32) (r := 0) rfl (h26.v (by decide +kernel) (by decide +kernel)) ?_
  refine p_it0 (by decide +kernel) ?_
  refine p_rc (r := 0) (by decide +kernel) (hQ29 _ ?_)
  dsimp only
  refine p_it1 (by decide +kernel) ?_
  refine p_gK ?_
  refine p_bindg (fun Q30 hQ30 => ?_)
  unfold mX9_isWord
  refine p_gFc (ji := 32) (r := 0) rfl (h26.v (by decide +kernel) (by decide +kernel)) ?_
  refine p_it0 (by decide +kernel) ?_
  refine p_rc (r := 0) (by decide +kernel) (hQ30 _ ?_)
  dsimp only
  refine p_it1 (by decide +kernel) ?_
  refine p_gK ?_
  refine p_bindg (fun Q31 hQ31 => ?_)
  unfold mX9_isWord
  refine p_gFc (ji := 32) (r := 0) rfl (h26.v (by decide +kernel) (by decide +kernel)) ?_
  refine p_it0 (by decide +kernel) ?_
  refine p_rc (r := 0) (by decide +kernel) (hQ31 _ ?_)
  dsimp only
  refine p_it1 (by decide +kernel) ?_
  refine p_gK ?_
  refine p_bindg (fun Q32 hQ32 => ?_)
  unfold mX9_isWord
  refine p_gFc (ji := 32) (r := 0) rfl (h26.v (by decide +kernel) (by decide +kernel)) ?_
  refine p_it0 (by decide +kernel) ?_
  refine p_rc (r := 0) (by decide +kernel) (hQ32 _ ?_)
  dsimp only
  refine p_it1 (by decide +kernel) ?_
  refine p_gK ?_
  refine p_bindg (fun Q33 hQ33 => ?_)
  unfold mX9_isWord
  refine p_gFc (ji := 32) (r := 0) rfl (h26.v (by decide +kernel) (by decide +kernel)) ?_
  refine p_it0 (by decide +kernel) ?_
  refine p_rc (r := 0) (by decide +kernel) (hQ33 _ ?_)
  dsimp only
  refine p_it1 (by decide +kernel) ?_
  refine p_gK ?_
  refine p_bindg (fun Q34 hQ34 => ?_)
  unfold mX9_isWord
  refine p_gFc (ji := 32) (r := 0) rfl (h26.v (by decide +kernel) (by decide +kernel)) ?_
  refine p_it0 (by decide +kernel) ?_
  refine p_rc (r := 0) (by decide +kernel) (hQ34 _ ?_)
  dsimp only
  refine p_it1 (by decide +kernel) ?_
  refine p_gK ?_
  refine p_bindg (fun Q35 hQ35 => ?_)
  unfold mX9_isWord
  refine p_gFc (ji := 32) (r := 0) rfl (h26.v (by decide +kernel) (by decide +kernel)) ?_
  refine p_it0 (by decide +kernel) ?_
  refine p_rc (r := 0) (by decide +kernel) (hQ35 _ ?_)
  dsimp only
  refine p_it1 (by decide +kernel) ?_
  refine p_gK ?_
  refine p_bindg (fun Q36 hQ36 => ?_)
  unfold mX9_isWord
  refine p_gFc (ji := 32) (r := 0) rfl (h26.v (by decide +kernel) (by decide +kernel)) ?_
  refine p_it0 (by decide +kernel) ?_
  refine p_rc (r := 0) (by decide +kernel) (hQ36 _ ?_)
  dsimp only
  refine p_it1 (by decide +kernel) ?_
  refine p_gK ?_
  refine p_bindg (fun Q37 hQ37 => ?_)
  unfold mX9_isWord
  refine p_gFc (ji := 32) (r := 0) rfl (h26.v (by decide +kernel) (by decide +kernel)) ?_
  refine p_it0 (by decide +kernel) ?_
  refine p_rc (r := 0) (by decide +kernel) (hQ37 _ ?_)
  dsimp only
  refine p_it1 (by decide +kernel) ?_
  refine p_gK ?_
  refine p_bindg (fun Q38 hQ38 => ?_)
  unfold mX9_isWord
  refine p_gFc (ji := 32) (r := 0) rfl (h26.v (by decide +kernel) (by decide +kernel)) ?_
  refine p_it0 (by decide +kernel) ?_
  refine p_rc (r := 0) (by decide +kernel) (hQ38 _ ?_)
  dsimp only
  refine p_it1 (by decide +kernel) ?_
  refine p_rc (r := (-1)) (by decide +kernel) (hQ27 _ ?_)
  dsimp only
  refine p_aS (fun M39 h39 => ?_)
  replace h39 := h26.st (al := 156) (il := 0) (xl := (-1)) h39 (by decide +kernel) (by decide +kernel) (by decide +kernel)
  refine p_gFc (ji := 41) (r := 156) rfl (h39.v (by decide +kernel) (by decide +kernel)) ?_
  refine p_aGc (r := (-1)) (h39.v (by decide +kernel) (by decide +kernel)) ?_
  refine p_it1 (by decide +kernel) ?_
  refine p_gK ?_
  refine p_bindg (fun Q40 hQ40 => ?_)
  unfold mX9_readRelation
  refine p_gK ?_
  refine p_bindg (fun Q41 hQ41 => ?_)
  unfold mX9_relOf
  refine p_gK ?_
  refine p_bindg (fun Q42 hQ42 => ?_)
  unfold mX9_isWord
  refine p_gFc (ji := 32) (r := 0) rfl (h39.v (by decide +kernel) (by decide +kernel)) ?_
  refine p_it0 (by decide +kernel) ?_
  refine p_rc (r := 0) (by decide +kernel) (hQ42 _ ?_)
  dsimp only
  refine p_it1 (by decide +kernel) ?_
  refine p_gK ?_
  refine p_bindg (fun Q43 hQ43 => ?_)
  unfold mX9_isWord
  refine p_gFc (ji := 32) (r := 0) rfl (h39.v (by decide +kernel) (by decide +kernel)) ?_
  refine p_it0 (by decide +kernel) ?_
  refine p_rc (r := 0) (by decide +kernel) (hQ43 _ ?_)
  dsimp only
  refine p_it1 (by decide +kernel) ?_
  refine p_gK ?_
  refine p_bindg (fun Q44 hQ44 => ?_)
  unfold mX9_isWord
  refine p_gFc (ji := 32) (r := 0) rfl (h39.v (by decide +kernel) (by decide +kernel)) ?_
  refine p_it0 (by decide +kernel) ?_
  refine p_rc (r := 0) (by decide +kernel) (hQ44 _ ?_)
  dsimp only
  refine p_it1 (by decide +kernel) ?_
  refine p_gK ?_
  refine p_bindg (fun Q45 hQ45 => ?_)
  unfold mX9_isWord
  refine p_gFc (ji := 32) (r := 0) rfl (h39.v (by decide +kernel) (by decide +kernel)) ?_
  refine p_it0 (by decide +kernel) ?_
  refine p_rc (r := 0) (by decide +kernel) (hQ45 _ ?_)
  dsimp only
  refine p_it1 (by decide +kernel) ?_
  unfold mX9_relOf_57
  refine p_gFc (ji := 8) (r := 134) rfl (h39.v (by decide +kernel) (by decide +kernel)) ?_
  refine p_aGc (r := 0) (h39.v (by decide +kernel) (by decide +kernel)) ?_
  refine p_it0 (by decide +kernel) ?_
  refine p_rc (r := (-1)) (by decide +kernel) (hQ41 _ ?_)
  dsimp only
  refine p_it1 (by decide +kernel) ?_
  refine p_gFc (ji := 31) (r := 0) rfl (h39.v (by decide +kernel) (by decide +kernel)) ?_
  refine p_pF (ji := 35) rfl (fun M46 h46 => ?_)
  replace h46 := h39.st (al := 126) (il := 35) (xl := 0) h46 (by decide +kernel) (by decide +kernel) (by decide +kernel)
  refine p_rc (r := 0) (by decide +kernel) (hQ40 _ ?_)
  dsimp only
  refine p_zR (fun _ => ?_)
  refine p_rc (r := 0) (by decide +kernel) (hQ25 _ ?_)
  dsimp only
  show pw (bX9_readText_74 (mX9_readText_74 69998) _ _ _) _
  unfold bX9_readText_74
  refine p_it1 (by decide +kernel) ?_
  unfold mX9_readText_112
  refine p_it1 (by decide +kernel) ?_
  unfold mX9_readText_133
  refine p_gFc (ji := 3) (r := 129) rfl (h46.v (by decide +kernel) (by decide +kernel)) ?_
  refine p_it1 (by decide +kernel) ?_
  unfold mX9_readText_150
  refine p_aS (fun M47 h47 => ?_)
  replace h47 := h46.st (al := 129) (il := 0) (xl := 1) h47 (by decide +kernel) (by decide +kernel) (by decide +kernel)
  refine p_gFc (ji := 4) (r := 130) rfl (h47.v (by decide +kernel) (by decide +kernel)) ?_
  refine p_it1 (by decide +kernel) ?_
  refine p_gFc (ji := 35) (r := 0) rfl (h47.v (by decide +kernel) (by decide +kernel)) ?_
  unfold mX9_readText_182
  refine p_aS (fun M48 h48 => ?_)
  replace h48 := h47.st (al := 130) (il := 0) (xl := 0) h48 (by decide +kernel) (by decide +kernel) (by decide +kernel)
  refine p_gFc (ji := 3) (r := 129) rfl (h48.v (by decide +kernel) (by decide +kernel)) ?_
  refine p_aGc (r := 1) (h48.v (by decide +kernel) (by decide +kernel)) ?_
  refine p_it0 (by decide +kernel) ?_
  refine p_rc (r := 0) (by decide +kernel) (hQ2 _ ?_)
  dsimp only
  refine p_it1 (by decide +kernel) ?_
  exact p_rc (r := (-1)) (by decide +kernel) rfl
theorem fx9_guess {M : Mem} (t0 : TR 162 126 169 [] M) : pw (mX9_guess 126 M) (fun q => q.1 = (-1)) := by
  unfold mX9_guess
  refine p_pF (ji := 0) rfl (fun M1 h1 => ?_)
  replace h1 := t0.st (al := 126) (il := 0) (xl := 0) h1 (by decide +kernel) (by decide +kernel) (by decide +kernel)
  refine p_gK ?_
  refine p_bindg (fun Q2 hQ2 => ?_)
  unfold mX9_readText
  refine p_gFc (ji := 2) (r := 128) rfl (h1.v (by decide +kernel) (by decide +kernel)) ?_
  refine p_aGc (r := 0) (h1.v (by decide +kernel) (by decide +kernel)) ?_
  refine p_pF (ji := 30) rfl (fun M3 h3 => ?_)
  replace h3 := h1.st (al := 126) (il := 30) (xl := 0) h3 (by decide +kernel) (by decide +kernel) (by decide +kernel)
  refine p_gFc (ji := 2) (r := 128) rfl (h3.v (by decide +kernel) (by decide +kernel)) ?_
  refine p_aS (fun M4 h4 => ?_)
  replace h4 := h3.st (al := 128) (il := 0) (xl := 0) h4 (by decide +kernel) (by decide +kernel) (by decide +kernel)
  refine p_gFc (ji := 3) (r := 129) rfl (h4.v (by decide +kernel) (by decide +kernel)) ?_
  refine p_aS (fun M5 h5 => ?_)
  replace h5 := h4.st (al := 129) (il := 0) (xl := 0) h5 (by decide +kernel) (by decide +kernel) (by decide +kernel)
  refine p_gFc (ji := 4) (r := 130) rfl (h5.v (by decide +kernel) (by decide +kernel)) ?_
  refine p_aS (fun M6 h6 => ?_)
  replace h6 := h5.st (al := 130) (il := 0) (xl := (-1)) h6 (by decide +kernel) (by decide +kernel) (by decide +kernel)
  refine p_pF (ji := 29) rfl (fun M7 h7 => ?_)
  replace h7 := h6.st (al := 126) (il := 29) (xl := 0) h7 (by decide +kernel) (by decide +kernel) (by decide +kernel)
  refine p_pF (ji := 35) rfl (fun M8 h8 => ?_)
  replace h8 := h7.st (al := 126) (il := 35) (xl := (-1)) h8 (by decide +kernel) (by decide +kernel) (by decide +kernel)
  refine p_pF (ji := 36) rfl (fun M9 h9 => ?_)
  replace h9 := h8.st (al := 126) (il := 36) (xl := 0) h9 (by decide +kernel) (by decide +kernel) (by decide +kernel)
  refine p_pF (ji := 37) rfl (fun M10 h10 => ?_)
  replace h10 := h9.st (al := 126) (il := 37) (xl := 0) h10 (by decide +kernel) (by decide +kernel) (by decide +kernel)
  refine p_pF (ji := 38) rfl (fun M11 h11 => ?_)
  replace h11 := h10.st (al := 126) (il := 38) (xl := 0) h11 (by decide +kernel) (by decide +kernel) (by decide +kernel)
  refine p_pF (ji := 40) rfl (fun M12 h12 => ?_)
  replace h12 := h11.st (al := 126) (il := 40) (xl := 0) h12 (by decide +kernel) (by decide +kernel) (by decide +kernel)
  refine p_gK ?_
  refine p_bindg (fun Q13 hQ13 => ?_)
  unfold mX9_wait
  refine p_gFc (ji := 39) (r := 155) rfl (h12.v (by decide +kernel) (by decide +kernel)) ?_
  refine p_gFc (ji := 38) (r := 0) rfl (h12.v (by decide +kernel) (by decide +kernel)) ?_
  refine p_aS (fun M14 h14 => ?_)
  replace h14 := h12.st (al := 155) (il := 0) (xl := 255) h14 (by decide +kernel) (by decide +kernel) (by decide +kernel)
  refine p_gFc (ji := 38) (r := 0) rfl (h14.v (by decide +kernel) (by decide +kernel)) ?_
  refine p_pF (ji := 38) rfl (fun M15 h15 => ?_)
  replace h15 := h14.st (al := 126) (il := 38) (xl := 1) h15 (by decide +kernel) (by decide +kernel) (by decide +kernel)
  refine p_rc (r := 0) (by decide +kernel) (hQ13 _ ?_)
  dsimp only
  refine p_gK ?_
  refine p_bindg (fun Q16 hQ16 => ?_)
  unfold mX9_token
  show pw (bX9_token_0 (mX9_token_0 69999) _ _) _
  unfold bX9_token_0
  refine p_gK ?_
  refine p_bindg (fun Q17 hQ17 => ?_)
  unfold mX9_see
  refine p_gFc (ji := 29) (r := 0) rfl (h15.v (by decide +kernel) (by decide +kernel)) ?_
  refine p_gFc (ji := 30) (r := 0) rfl (h15.v (by decide +kernel) (by decide +kernel)) ?_
  refine p_it1 (by decide +kernel) ?_
  refine p_rc (r := (-1)) (by decide +kernel) (hQ17 _ ?_)
  dsimp only
  refine p_it0 (by decide +kernel) ?_
  refine p_gK ?_
  refine p_bindg (fun Q18 hQ18 => ?_)
  unfold mX9_see
  refine p_gFc (ji := 29) (r := 0) rfl (h15.v (by decide +kernel) (by decide +kernel)) ?_
  refine p_gFc (ji := 30) (r := 0) rfl (h15.v (by decide +kernel) (by decide +kernel)) ?_
  refine p_it1 (by decide +kernel) ?_
  refine p_rc (r := (-1)) (by decide +kernel) (hQ18 _ ?_)
  dsimp only
  refine p_it0 (by decide +kernel) ?_
  refine p_gFc (ji := 29) (r := 0) rfl (h15.v (by decide +kernel) (by decide +kernel)) ?_
  refine p_pF (ji := 31) rfl (fun M19 h19 => ?_)
  replace h19 := h15.st (al := 126) (il := 31) (xl := 0) h19 (by decide +kernel) (by decide +kernel) (by decide +kernel)
  refine p_gK ?_
  refine p_bindg (fun Q20 hQ20 => ?_)
  unfold mX9_see
  refine p_gFc (ji := 29) (r := 0) rfl (h19.v (by decide +kernel) (by decide +kernel)) ?_
  refine p_gFc (ji := 30) (r := 0) rfl (h19.v (by decide +kernel) (by decide +kernel)) ?_
  refine p_it1 (by decide +kernel) ?_
  refine p_rc (r := (-1)) (by decide +kernel) (hQ20 _ ?_)
  dsimp only
  refine p_pF (ji := 33) rfl (fun M21 h21 => ?_)
  replace h21 := h19.st (al := 126) (il := 33) (xl := 0) h21 (by decide +kernel) (by decide +kernel) (by decide +kernel)
  refine p_pF (ji := 34) rfl (fun M22 h22 => ?_)
  replace h22 := h21.st (al := 126) (il := 34) (xl := 0) h22 (by decide +kernel) (by decide +kernel) (by decide +kernel)
  refine p_it0 (by decide +kernel) ?_
  refine p_pF (ji := 32) rfl (fun M23 h23 => ?_)
  replace h23 := h22.st (al := 126) (il := 32) (xl := 0) h23 (by decide +kernel) (by decide +kernel) (by decide +kernel)
  refine p_rc (r := 0) (by decide +kernel) (hQ16 _ ?_)
  dsimp only
  show pw (bX9_readText_74 (mX9_readText_74 69999) _ _ _) _
  unfold bX9_readText_74
  refine p_it0 (by decide +kernel) ?_
  refine p_gFc (ji := 38) (r := 1) rfl (h23.v (by decide +kernel) (by decide +kernel)) ?_
  refine p_it0 (by decide +kernel) ?_
  refine p_gFc (ji := 38) (r := 1) rfl (h23.v (by decide +kernel) (by decide +kernel)) ?_
  refine p_pF (ji := 38) rfl (fun M24 h24 => ?_)
  replace h24 := h23.st (al := 126) (il := 38) (xl := 0) h24 (by decide +kernel) (by decide +kernel) (by decide +kernel)
  refine p_gFc (ji := 39) (r := 155) rfl (h24.v (by decide +kernel) (by decide +kernel)) ?_
  refine p_gFc (ji := 38) (r := 0) rfl (h24.v (by decide +kernel) (by decide +kernel)) ?_
  refine p_aGc (r := 255) (h24.v (by decide +kernel) (by decide +kernel)) ?_
  refine p_gK ?_
  refine p_bindg (fun Q25 hQ25 => ?_)
  unfold mX9_readPart
  refine p_gFc (ji := 40) (r := 0) rfl (h24.v (by decide +kernel) (by decide +kernel)) ?_
  refine p_it0 (by decide +kernel) ?_
  unfold mX9_readPart_18
  refine p_gFc (ji := 40) (r := 0) rfl (h24.v (by decide +kernel) (by decide +kernel)) ?_
  refine p_it0 (by decide +kernel) ?_
  refine p_gFc (ji := 40) (r := 0) rfl (h24.v (by decide +kernel) (by decide +kernel)) ?_
  unfold mX9_readPart_36
  refine p_gFc (ji := 40) (r := 0) rfl (h24.v (by decide +kernel) (by decide +kernel)) ?_
  refine p_pF (ji := 40) rfl (fun M26 h26 => ?_)
  replace h26 := h24.st (al := 126) (il := 40) (xl := 1) h26 (by decide +kernel) (by decide +kernel) (by decide +kernel)
  refine p_gFc (ji := 41) (r := 156) rfl (h26.v (by decide +kernel) (by decide +kernel)) ?_
  refine p_gK ?_
  refine p_bindg (fun Q27 hQ27 => ?_)
  unfold mX9_actOf
  refine p_gK ?_
  refine p_bindg (fun Q28 hQ28 => ?_)
  unfold mX9_isWord
  refine p_gFc (ji := 32) (r := 0) rfl (h26.v (by decide +kernel) (by decide +kernel)) ?_
  refine p_it0 (by decide +kernel) ?_
  refine p_rc (r := 0) (by decide +kernel) (hQ28 _ ?_)
  dsimp only
  refine p_it1 (by decide +kernel) ?_
  refine p_gK ?_
  refine p_bindg (fun Q29 hQ29 => ?_)
  unfold mX9_isWord
  refine p_gFc (ji := 32) (r := 0) rfl (h26.v (by decide +kernel) (by decide +kernel)) ?_
  refine p_it0 (by decide +kernel) ?_
  refine p_rc (r := 0) (by decide +kernel) (hQ29 _ ?_)
  dsimp only
  refine p_it1 (by decide +kernel) ?_
  refine p_gK ?_
  refine p_bindg (fun Q30 hQ30 => ?_)
  unfold mX9_isWord
  refine p_gFc (ji := 32) (r := 0) rfl (h26.v (by decide +kernel) (by decide +kernel)) ?_
  refine p_it0 (by decide +kernel) ?_
  refine p_rc (r := 0) (by decide +kernel) (hQ30 _ ?_)
  dsimp only
  refine p_it1 (by decide +kernel) ?_
  refine p_gK ?_
  refine p_bindg (fun Q31 hQ31 => ?_)
  unfold mX9_isWord
  refine p_gFc (ji := 32) (r := 0) rfl (h26.v (by decide +kernel) (by decide +kernel)) ?_
  refine p_it0 (by decide +kernel) ?_
  refine p_rc (r := 0) (by decide +kernel) (hQ31 _ ?_)
  dsimp only
  refine p_it1 (by decide +kernel) ?_
  refine p_gK ?_
  refine p_bindg (fun Q32 hQ32 => ?_)
  unfold mX9_isWord
  refine p_gFc (ji := 32) (r := 0) rfl (h26.v (by decide +kernel) (by decide +kernel)) ?_
  refine p_it0 (by decide +kernel) ?_
  refine p_rc (r := 0) (by decide +kernel) (hQ32 _ ?_)
  dsimp only
  refine p_it1 (by decide +kernel) ?_
  refine p_gK ?_
  refine p_bindg (fun Q33 hQ33 => ?_)
  unfold mX9_isWord
  refine p_gFc (ji := 32) (r := 0) rfl (h26.v (by decide +kernel) (by decide +kernel)) ?_
  refine p_it0 (by decide +kernel) ?_
  refine p_rc (r := 0) (by decide +kernel) (hQ33 _ ?_)
  dsimp only
  refine p_it1 (by decide +kernel) ?_
  refine p_gK ?_
  refine p_bindg (fun Q34 hQ34 => ?_)
  unfold mX9_isWord
  refine p_gFc (ji := 32) (r := 0) rfl (h26.v (by decide +kernel) (by decide +kernel)) ?_
  refine p_it0 (by decide +kernel) ?_
  refine p_rc (r := 0) (by decide +kernel) (hQ34 _ ?_)
  dsimp only
  refine p_it1 (by decide +kernel) ?_
  refine p_gK ?_
  refine p_bindg (fun Q35 hQ35 => ?_)
  unfold mX9_isWord
  refine p_gFc (ji := 32) (r := 0) rfl (h26.v (by decide +kernel) (by decide +kernel)) ?_
  refine p_it0 (by decide +kernel) ?_
  refine p_rc (r := 0) (by decide +kernel) (hQ35 _ ?_)
  dsimp only
  refine p_it1 (by decide +kernel) ?_
  refine p_gK ?_
  refine p_bindg (fun Q36 hQ36 => ?_)
  unfold mX9_isWord
  refine p_gFc (ji := 32) (r := 0) rfl (h26.v (by decide +kernel) (by decide +kernel)) ?_
  refine p_it0 (by decide +kernel) ?_
  refine p_rc (r := 0) (by decide +kernel) (hQ36 _ ?_)
  dsimp only
  refine p_it1 (by decide +kernel) ?_
  refine p_gK ?_
  refine p_bindg (fun Q37 hQ37 => ?_)
  unfold mX9_isWord
  refine p_gFc (ji := 32) (r := 0) rfl (h26.v (by decide +kernel) (by decide +kernel)) ?_
  refine p_it0 (by decide +kernel) ?_
  refine p_rc (r := 0) (by decide +kernel) (hQ37 _ ?_)
  dsimp only
  refine p_it1 (by decide +kernel) ?_
  refine p_gK ?_
  refine p_bindg (fun Q38 hQ38 => ?_)
  unfold mX9_isWord
  refine p_gFc (ji := 32) (r := 0) rfl (h26.v (by decide +kernel) (by decide +kernel)) ?_
  refine p_it0 (by decide +kernel) ?_
  refine p_rc (r := 0) (by decide +kernel) (hQ38 _ ?_)
  dsimp only
  refine p_it1 (by decide +kernel) ?_
  refine p_rc (r := (-1)) (by decide +kernel) (hQ27 _ ?_)
  dsimp only
  refine p_aS (fun M39 h39 => ?_)
  replace h39 := h26.st (al := 156) (il := 0) (xl := (-1)) h39 (by decide +kernel) (by decide +kernel) (by decide +kernel)
  refine p_gFc (ji := 41) (r := 156) rfl (h39.v (by decide +kernel) (by decide +kernel)) ?_
  refine p_aGc (r := (-1)) (h39.v (by decide +kernel) (by decide +kernel)) ?_
  refine p_it1 (by decide +kernel) ?_
  refine p_gK ?_
  refine p_bindg (fun Q40 hQ40 => ?_)
  unfold mX9_readRelation
  refine p_gK ?_
  refine p_bindg (fun Q41 hQ41 => ?_)
  unfold mX9_relOf
  refine p_gK ?_
  refine p_bindg (fun Q42 hQ42 => ?_)
  unfold mX9_isWord
  refine p_gFc (ji := 32) (r := 0) rfl (h39.v (by decide +kernel) (by decide +kernel)) ?_
  refine p_it0 (by decide +kernel) ?_
  refine p_rc (r := 0) (by decide +kernel) (hQ42 _ ?_)
  dsimp only
  refine p_it1 (by decide +kernel) ?_
  refine p_gK ?_
  refine p_bindg (fun Q43 hQ43 => ?_)
  unfold mX9_isWord
  refine p_gFc (ji := 32) (r := 0) rfl (h39.v (by decide +kernel) (by decide +kernel)) ?_
  refine p_it0 (by decide +kernel) ?_
  refine p_rc (r := 0) (by decide +kernel) (hQ43 _ ?_)
  dsimp only
  refine p_it1 (by decide +kernel) ?_
  refine p_gK ?_
  refine p_bindg (fun Q44 hQ44 => ?_)
  unfold mX9_isWord
  refine p_gFc (ji := 32) (r := 0) rfl (h39.v (by decide +kernel) (by decide +kernel)) ?_
  refine p_it0 (by decide +kernel) ?_
  refine p_rc (r := 0) (by decide +kernel) (hQ44 _ ?_)
  dsimp only
  refine p_it1 (by decide +kernel) ?_
  refine p_gK ?_
  refine p_bindg (fun Q45 hQ45 => ?_)
  unfold mX9_isWord
  refine p_gFc (ji := 32) (r := 0) rfl (h39.v (by decide +kernel) (by decide +kernel)) ?_
  refine p_it0 (by decide +kernel) ?_
  refine p_rc (r := 0) (by decide +kernel) (hQ45 _ ?_)
  dsimp only
  refine p_it1 (by decide +kernel) ?_
  unfold mX9_relOf_57
  refine p_gFc (ji := 8) (r := 134) rfl (h39.v (by decide +kernel) (by decide +kernel)) ?_
  refine p_aGc (r := 0) (h39.v (by decide +kernel) (by decide +kernel)) ?_
  refine p_it0 (by decide +kernel) ?_
  refine p_rc (r := (-1)) (by decide +kernel) (hQ41 _ ?_)
  dsimp only
  refine p_it1 (by decide +kernel) ?_
  refine p_gFc (ji := 31) (r := 0) rfl (h39.v (by decide +kernel) (by decide +kernel)) ?_
  refine p_pF (ji := 35) rfl (fun M46 h46 => ?_)
  replace h46 := h39.st (al := 126) (il := 35) (xl := 0) h46 (by decide +kernel) (by decide +kernel) (by decide +kernel)
  refine p_rc (r := 0) (by decide +kernel) (hQ40 _ ?_)
  dsimp only
  refine p_zR (fun _ => ?_)
  refine p_rc (r := 0) (by decide +kernel) (hQ25 _ ?_)
  dsimp only
  show pw (bX9_readText_74 (mX9_readText_74 69998) _ _ _) _
  unfold bX9_readText_74
  refine p_it1 (by decide +kernel) ?_
  unfold mX9_readText_112
  refine p_it1 (by decide +kernel) ?_
  unfold mX9_readText_133
  refine p_gFc (ji := 3) (r := 129) rfl (h46.v (by decide +kernel) (by decide +kernel)) ?_
  refine p_it1 (by decide +kernel) ?_
  unfold mX9_readText_150
  refine p_aS (fun M47 h47 => ?_)
  replace h47 := h46.st (al := 129) (il := 0) (xl := 1) h47 (by decide +kernel) (by decide +kernel) (by decide +kernel)
  refine p_gFc (ji := 4) (r := 130) rfl (h47.v (by decide +kernel) (by decide +kernel)) ?_
  refine p_it1 (by decide +kernel) ?_
  refine p_gFc (ji := 35) (r := 0) rfl (h47.v (by decide +kernel) (by decide +kernel)) ?_
  unfold mX9_readText_182
  refine p_aS (fun M48 h48 => ?_)
  replace h48 := h47.st (al := 130) (il := 0) (xl := 0) h48 (by decide +kernel) (by decide +kernel) (by decide +kernel)
  refine p_gFc (ji := 3) (r := 129) rfl (h48.v (by decide +kernel) (by decide +kernel)) ?_
  refine p_aGc (r := 1) (h48.v (by decide +kernel) (by decide +kernel)) ?_
  refine p_it0 (by decide +kernel) ?_
  refine p_rc (r := 0) (by decide +kernel) (hQ2 _ ?_)
  dsimp only
  refine p_it1 (by decide +kernel) ?_
  exact p_rc (r := (-1)) (by decide +kernel) rfl
theorem fx9_fault {l1 : Int} {M : Mem} (t0 : TR 162 126 169 [] M) (r_l1 : (-2147483648) ≤ l1 ∧ l1 ≤ 2147483647) : pw (mX9_fault 126 l1 M) (fun q => sp_fault l1 q.1) := by
  unfold mX9_fault
  refine p_pF (ji := 0) rfl (fun M1 h1 => ?_)
  replace h1 := t0.st (al := 126) (il := 0) (xl := 0) h1 (by decide +kernel) (by decide +kernel) (by decide +kernel)
  refine p_ifeq_r (r := 0) (by decide +kernel) (fun c2 => ?_) (fun c2 => ?_)
  · skip
    refine p_gFc (ji := 3) (r := 129) rfl (h1.v (by decide +kernel) (by decide +kernel)) ?_
    refine p_aGc (r := 0) (h1.v (by decide +kernel) (by decide +kernel)) ?_
    refine p_rc (r := 0) (by decide +kernel) ?_
    show sp_fault _ _
    unfold sp_fault
    omega
  · skip
    refine p_ifeq_r (r := 1) (by decide +kernel) (fun c3 => ?_) (fun c3 => ?_)
    · skip
      refine p_gFc (ji := 4) (r := 130) rfl (h1.v (by decide +kernel) (by decide +kernel)) ?_
      refine p_aGc (r := (-1)) (h1.v (by decide +kernel) (by decide +kernel)) ?_
      refine p_rc (r := (-1)) (by decide +kernel) ?_
      show sp_fault _ _
      unfold sp_fault
      omega
    · skip
      refine p_rc (r := (-1)) (by decide +kernel) ?_
      show sp_fault _ _
      unfold sp_fault
      omega
theorem fx9_strike {l1 : Int} {M : Mem} (t0 : TR 162 126 169 [] M) (r_l1 : (-2147483648) ≤ l1 ∧ l1 ≤ 2147483647) : pw (mX9_strike 126 l1 M) (fun q => q.1 = 0) := by
  unfold mX9_strike
  refine p_pF (ji := 0) rfl (fun M1 h1 => ?_)
  replace h1 := t0.st (al := 126) (il := 0) (xl := 0) h1 (by decide +kernel) (by decide +kernel) (by decide +kernel)
  refine p_gFc (ji := 12) (r := 138) rfl (h1.v (by decide +kernel) (by decide +kernel)) ?_
  refine p_aGc (r := 0) (h1.v (by decide +kernel) (by decide +kernel)) ?_
  refine p_bindg (fun Q2 hQ2 => ?_)
  unfold mX9_in
  refine p_iflt_r (r := 0) (by decide +kernel) (fun c3 => ?_) (fun c3 => ?_)
  · skip
    refine p_rc (r := 0) (by decide +kernel) (hQ2 _ ?_)
    dsimp only
    refine p_it1 (by decide +kernel) ?_
    exact p_rc (r := 0) (by decide +kernel) rfl
  · skip
    refine p_iflt_l (r := (-1)) (by decide +kernel) (fun c4 => ?_) (fun c4 => absurd (by omega) c4)
    refine p_rc (r := 0) (by decide +kernel) (hQ2 _ ?_)
    dsimp only
    refine p_it1 (by decide +kernel) ?_
    exact p_rc (r := 0) (by decide +kernel) rfl
theorem fx9_so {l1 : Int} {M : Mem} (t0 : TR 162 126 169 [] M) (r_l1 : (-2147483648) ≤ l1 ∧ l1 ≤ 2147483647) : pw (mX9_so 126 l1 M) (fun q => q.1 = (-1)) := by
  unfold mX9_so
  refine p_pF (ji := 0) rfl (fun M1 h1 => ?_)
  replace h1 := t0.st (al := 126) (il := 0) (xl := 0) h1 (by decide +kernel) (by decide +kernel) (by decide +kernel)
  refine p_ifeq_r (r := (-1)) (by decide +kernel) (fun c2 => ?_) (fun c2 => ?_)
  · skip
    unfold mX9_so_16
    refine p_ifeq_r (r := (-1)) (by decide +kernel) (fun c3 => ?_) (fun c3 => absurd (by omega) c3)
    refine p_gFc (ji := 15) (r := 141) rfl (h1.v (by decide +kernel) (by decide +kernel)) ?_
    refine p_aGc (r := 0) (h1.v (by decide +kernel) (by decide +kernel)) ?_
    refine p_it1 (by decide +kernel) ?_
    exact p_rc (r := (-1)) (by decide +kernel) rfl
  · skip
    unfold mX9_so_16
    refine p_ifeq_r (r := (-1)) (by decide +kernel) (fun c4 => absurd c4 (by omega)) (fun c4 => ?_)
    refine p_gFc (ji := 12) (r := 138) rfl (h1.v (by decide +kernel) (by decide +kernel)) ?_
    refine p_aGc (r := 0) (h1.v (by decide +kernel) (by decide +kernel)) ?_
    refine p_bindg (fun Q5 hQ5 => ?_)
    unfold mX9_in
    refine p_iflt_r (r := 0) (by decide +kernel) (fun c6 => ?_) (fun c6 => ?_)
    · skip
      refine p_rc (r := 0) (by decide +kernel) (hQ5 _ ?_)
      dsimp only
      refine p_it1 (by decide +kernel) ?_
      exact p_rc (r := (-1)) (by decide +kernel) rfl
    · skip
      refine p_iflt_l (r := (-1)) (by decide +kernel) (fun c7 => ?_) (fun c7 => absurd (by omega) c7)
      refine p_rc (r := 0) (by decide +kernel) (hQ5 _ ?_)
      dsimp only
      refine p_it1 (by decide +kernel) ?_
      exact p_rc (r := (-1)) (by decide +kernel) rfl
theorem fx9_breaks {l1 l2 : Int} {M : Mem} (t0 : TR 162 126 169 [] M) (r_l1 : (-2147483648) ≤ l1 ∧ l1 ≤ 2147483647) (r_l2 : (-2147483648) ≤ l2 ∧ l2 ≤ 2147483647) : pw (mX9_breaks 126 l1 l2 M) (fun q => q.1 = (-1)) := by
  unfold mX9_breaks
  refine p_pF (ji := 0) rfl (fun M1 h1 => ?_)
  replace h1 := t0.st (al := 126) (il := 0) (xl := 0) h1 (by decide +kernel) (by decide +kernel) (by decide +kernel)
  refine p_gFc (ji := 12) (r := 138) rfl (h1.v (by decide +kernel) (by decide +kernel)) ?_
  refine p_aGc (r := 0) (h1.v (by decide +kernel) (by decide +kernel)) ?_
  refine p_bindg (fun Q2 hQ2 => ?_)
  unfold mX9_in
  refine p_iflt_r (r := 0) (by decide +kernel) (fun c3 => ?_) (fun c3 => ?_)
  · skip
    refine p_rc (r := 0) (by decide +kernel) (hQ2 _ ?_)
    dsimp only
    refine p_it1 (by decide +kernel) ?_
    exact p_rc (r := (-1)) (by decide +kernel) rfl
  · skip
    refine p_iflt_l (r := (-1)) (by decide +kernel) (fun c4 => ?_) (fun c4 => absurd (by omega) c4)
    refine p_rc (r := 0) (by decide +kernel) (hQ2 _ ?_)
    dsimp only
    refine p_it1 (by decide +kernel) ?_
    exact p_rc (r := (-1)) (by decide +kernel) rfl
theorem fx9_worlds {M : Mem} (t0 : TR 162 126 169 [] M) : pw (mX9_worlds 126 M) (fun q => q.1 = 1) := by
  unfold mX9_worlds
  refine p_pF (ji := 0) rfl (fun M1 h1 => ?_)
  replace h1 := t0.st (al := 126) (il := 0) (xl := 0) h1 (by decide +kernel) (by decide +kernel) (by decide +kernel)
  refine p_gK ?_
  refine p_bindg (fun Q2 hQ2 => ?_)
  unfold mX9_canTell
  refine p_gK ?_
  refine p_bindg (fun Q3 hQ3 => ?_)
  unfold mX9_bringSizes
  show pw (bX9_bringSizes_2 (mX9_bringSizes_2 69999) _ _ _) _
  unfold bX9_bringSizes_2
  refine p_it0 (by decide +kernel) ?_
  refine p_gFc (ji := 26) (r := 152) rfl (h1.v (by decide +kernel) (by decide +kernel)) ?_
  refine p_gFc (ji := 7) (r := 133) rfl (h1.v (by decide +kernel) (by decide +kernel)) ?_
  refine p_aGc (r := 2) (h1.v (by decide +kernel) (by decide +kernel)) ?_
  refine p_aS (fun M4 h4 => ?_)
  replace h4 := h1.st (al := 152) (il := 0) (xl := 2) h4 (by decide +kernel) (by decide +kernel) (by decide +kernel)
  show pw (bX9_bringSizes_2 (mX9_bringSizes_2 69998) _ _ _) _
  unfold bX9_bringSizes_2
  refine p_it0 (by decide +kernel) ?_
  refine p_gFc (ji := 26) (r := 152) rfl (h4.v (by decide +kernel) (by decide +kernel)) ?_
  refine p_gFc (ji := 7) (r := 133) rfl (h4.v (by decide +kernel) (by decide +kernel)) ?_
  refine p_aGc (r := 2) (h4.v (by decide +kernel) (by decide +kernel)) ?_
  refine p_aS (fun M5 h5 => ?_)
  replace h5 := h4.st (al := 152) (il := 1) (xl := 2) h5 (by decide +kernel) (by decide +kernel) (by decide +kernel)
  show pw (bX9_bringSizes_2 (mX9_bringSizes_2 69997) _ _ _) _
  unfold bX9_bringSizes_2
  refine p_it0 (by decide +kernel) ?_
  refine p_gFc (ji := 26) (r := 152) rfl (h5.v (by decide +kernel) (by decide +kernel)) ?_
  refine p_gFc (ji := 7) (r := 133) rfl (h5.v (by decide +kernel) (by decide +kernel)) ?_
  refine p_aGc (r := 2) (h5.v (by decide +kernel) (by decide +kernel)) ?_
  refine p_aS (fun M6 h6 => ?_)
  replace h6 := h5.st (al := 152) (il := 2) (xl := 2) h6 (by decide +kernel) (by decide +kernel) (by decide +kernel)
  show pw (bX9_bringSizes_2 (mX9_bringSizes_2 69996) _ _ _) _
  unfold bX9_bringSizes_2
  refine p_it1 (by decide +kernel) ?_
  refine p_gK ?_
  refine p_bindg (fun Q7 hQ7 => ?_)
  unfold mX9_findStarts
  refine p_gFc (ji := 27) (r := 153) rfl (h6.v (by decide +kernel) (by decide +kernel)) ?_
  refine p_aS (fun M8 h8 => ?_)
  replace h8 := h6.st (al := 153) (il := 0) (xl := 0) h8 (by decide +kernel) (by decide +kernel) (by decide +kernel)
  show pw (bX9_findStarts_9 (mX9_findStarts_9 69999) _ _ _) _
  unfold bX9_findStarts_9
  refine p_gFc (ji := 8) (r := 134) rfl (h8.v (by decide +kernel) (by decide +kernel)) ?_
  refine p_aGc (r := 0) (h8.v (by decide +kernel) (by decide +kernel)) ?_
  refine p_it1 (by decide +kernel) ?_
  refine p_rc (r := 0) (by decide +kernel) (hQ7 _ ?_)
  dsimp only
  refine p_rc (r := 0) (by decide +kernel) (hQ3 _ ?_)
  dsimp only
  refine p_gK ?_
  refine p_bindg (fun Q9 hQ9 => ?_)
  unfold mX9_manyFacts
  refine p_gFc (ji := 27) (r := 153) rfl (h8.v (by decide +kernel) (by decide +kernel)) ?_
  refine p_gFc (ji := 8) (r := 134) rfl (h8.v (by decide +kernel) (by decide +kernel)) ?_
  refine p_aGc (r := 0) (h8.v (by decide +kernel) (by decide +kernel)) ?_
  refine p_aGc (r := 0) (h8.v (by decide +kernel) (by decide +kernel)) ?_
  refine p_rc (r := 0) (by decide +kernel) (hQ9 _ ?_)
  dsimp only
  refine p_it0 (by decide +kernel) ?_
  refine p_rc (r := 1) (by decide +kernel) (hQ2 _ ?_)
  dsimp only
  refine p_it0 (by decide +kernel) ?_
  refine p_gK ?_
  refine p_bindg (fun Q10 hQ10 => ?_)
  unfold mX9_prepare
  refine p_gK ?_
  refine p_bindg (fun Q11 hQ11 => ?_)
  unfold mX9_told
  refine p_gFc (ji := 6) (r := 132) rfl (h8.v (by decide +kernel) (by decide +kernel)) ?_
  refine p_aGc (r := (-1)) (h8.v (by decide +kernel) (by decide +kernel)) ?_
  refine p_it1 (by decide +kernel) ?_
  refine p_gFc (ji := 5) (r := 131) rfl (h8.v (by decide +kernel) (by decide +kernel)) ?_
  refine p_aGc (r := 0) (h8.v (by decide +kernel) (by decide +kernel)) ?_
  unfold mX9_told_25
  show pw (bX9_told_30 (mX9_told_30 69999) _ _ _ _ _) _
  unfold bX9_told_30
  refine p_gFc (ji := 12) (r := 138) rfl (h8.v (by decide +kernel) (by decide +kernel)) ?_
  refine p_aGc (r := 0) (h8.v (by decide +kernel) (by decide +kernel)) ?_
  refine p_it1 (by decide +kernel) ?_
  refine p_rc (r := 0) (by decide +kernel) (hQ11 _ ?_)
  dsimp only
  refine p_pF (ji := 48) rfl (fun M12 h12 => ?_)
  replace h12 := h8.st (al := 126) (il := 48) (xl := 0) h12 (by decide +kernel) (by decide +kernel) (by decide +kernel)
  refine p_gK ?_
  refine p_bindg (fun Q13 hQ13 => ?_)
  unfold mX9_findKnown
  refine p_gFc (ji := 6) (r := 132) rfl (h12.v (by decide +kernel) (by decide +kernel)) ?_
  refine p_aGc (r := (-1)) (h12.v (by decide +kernel) (by decide +kernel)) ?_
  refine p_it1 (by decide +kernel) ?_
  refine p_gFc (ji := 5) (r := 131) rfl (h12.v (by decide +kernel) (by decide +kernel)) ?_
  refine p_aGc (r := 0) (h12.v (by decide +kernel) (by decide +kernel)) ?_
  unfold mX9_findKnown_25
  refine p_gK ?_
  refine p_bindg (fun Q14 hQ14 => ?_)
  unfold mX9_manyFacts
  refine p_gFc (ji := 27) (r := 153) rfl (h12.v (by decide +kernel) (by decide +kernel)) ?_
  refine p_gFc (ji := 8) (r := 134) rfl (h12.v (by decide +kernel) (by decide +kernel)) ?_
  refine p_aGc (r := 0) (h12.v (by decide +kernel) (by decide +kernel)) ?_
  refine p_aGc (r := 0) (h12.v (by decide +kernel) (by decide +kernel)) ?_
  refine p_rc (r := 0) (by decide +kernel) (hQ14 _ ?_)
  dsimp only
  refine p_pF (ji := 49) rfl (fun M15 h15 => ?_)
  replace h15 := h12.st (al := 126) (il := 49) (xl := 0) h15 (by decide +kernel) (by decide +kernel) (by decide +kernel)
  refine p_pF (ji := 50) rfl (fun M16 h16 => ?_)
  replace h16 := h15.st (al := 126) (il := 50) (xl := 0) h16 (by decide +kernel) (by decide +kernel) (by decide +kernel)
  show pw (bX9_findKnown_43 (mX9_findKnown_43 69999) _ _ _ _ _) _
  unfold bX9_findKnown_43
  refine p_gFc (ji := 20) (r := 146) rfl (h16.v (by decide +kernel) (by decide +kernel)) ?_
  refine p_aGc (r := 0) (h16.v (by decide +kernel) (by decide +kernel)) ?_
  refine p_it1 (by decide +kernel) ?_
  refine p_rc (r := 0) (by decide +kernel) (hQ13 _ ?_)
  dsimp only
  refine p_rc (r := 0) (by decide +kernel) (hQ10 _ ?_)
  dsimp only
  show pw (bX9_worlds_22 (mX9_worlds_22 69999) _ _ _ _) _
  unfold bX9_worlds_22
  refine p_gK ?_
  refine p_bindg (fun Q17 hQ17 => ?_)
  unfold mX9_manyFacts
  refine p_gFc (ji := 27) (r := 153) rfl (h16.v (by decide +kernel) (by decide +kernel)) ?_
  refine p_gFc (ji := 8) (r := 134) rfl (h16.v (by decide +kernel) (by decide +kernel)) ?_
  refine p_aGc (r := 0) (h16.v (by decide +kernel) (by decide +kernel)) ?_
  refine p_aGc (r := 0) (h16.v (by decide +kernel) (by decide +kernel)) ?_
  refine p_rc (r := 0) (by decide +kernel) (hQ17 _ ?_)
  dsimp only
  refine p_it0 (by decide +kernel) ?_
  refine p_gK ?_
  refine p_bindg (fun Q18 hQ18 => ?_)
  unfold mX9_isWorld
  refine p_gK ?_
  refine p_bindg (fun Q19 hQ19 => ?_)
  unfold mX9_isAsKnown
  refine p_gFc (ji := 49) (r := 0) rfl (h16.v (by decide +kernel) (by decide +kernel)) ?_
  refine p_gFc (ji := 50) (r := 0) rfl (h16.v (by decide +kernel) (by decide +kernel)) ?_
  refine p_it1 (by decide +kernel) ?_
  refine p_rc (r := 1) (by decide +kernel) (hQ19 _ ?_)
  dsimp only
  refine p_it0 (by decide +kernel) ?_
  refine p_gK ?_
  refine p_bindg (fun Q20 hQ20 => ?_)
  unfold mX9_layWorld
  refine p_gK ?_
  refine p_bindg (fun Q21 hQ21 => ?_)
  unfold mX9_manyFacts
  refine p_gFc (ji := 27) (r := 153) rfl (h16.v (by decide +kernel) (by decide +kernel)) ?_
  refine p_gFc (ji := 8) (r := 134) rfl (h16.v (by decide +kernel) (by decide +kernel)) ?_
  refine p_aGc (r := 0) (h16.v (by decide +kernel) (by decide +kernel)) ?_
  refine p_aGc (r := 0) (h16.v (by decide +kernel) (by decide +kernel)) ?_
  refine p_rc (r := 0) (by decide +kernel) (hQ21 _ ?_)
  dsimp only
  show pw (bX9_layWorld_7 (mX9_layWorld_7 69999) _ _ _ _ _) _
  unfold bX9_layWorld_7
  refine p_it1 (by decide +kernel) ?_
  refine p_rc (r := 0) (by decide +kernel) (hQ20 _ ?_)
  dsimp only
  show pw (bX9_isWorld_17 (mX9_isWorld_17 69999) _ _ _) _
  unfold bX9_isWorld_17
  refine p_gFc (ji := 12) (r := 138) rfl (h16.v (by decide +kernel) (by decide +kernel)) ?_
  refine p_aGc (r := 0) (h16.v (by decide +kernel) (by decide +kernel)) ?_
  refine p_it1 (by decide +kernel) ?_
  refine p_rc (r := 1) (by decide +kernel) (hQ18 _ ?_)
  dsimp only
  refine p_it0 (by decide +kernel) ?_
  unfold mX9_worlds_46
  show pw (bX9_worlds_22 (mX9_worlds_22 69998) _ _ _ _) _
  unfold bX9_worlds_22
  refine p_gK ?_
  refine p_bindg (fun Q22 hQ22 => ?_)
  unfold mX9_manyFacts
  refine p_gFc (ji := 27) (r := 153) rfl (h16.v (by decide +kernel) (by decide +kernel)) ?_
  refine p_gFc (ji := 8) (r := 134) rfl (h16.v (by decide +kernel) (by decide +kernel)) ?_
  refine p_aGc (r := 0) (h16.v (by decide +kernel) (by decide +kernel)) ?_
  refine p_aGc (r := 0) (h16.v (by decide +kernel) (by decide +kernel)) ?_
  refine p_rc (r := 0) (by decide +kernel) (hQ22 _ ?_)
  dsimp only
  refine p_it1 (by decide +kernel) ?_
  exact p_rc (r := 1) (by decide +kernel) rfl
theorem fx9_forms {M : Mem} (t0 : TR 162 126 169 [] M) : pw (mX9_forms 126 M) (fun q => q.1 = 1) := by
  unfold mX9_forms
  refine p_pF (ji := 0) rfl (fun M1 h1 => ?_)
  replace h1 := t0.st (al := 126) (il := 0) (xl := 0) h1 (by decide +kernel) (by decide +kernel) (by decide +kernel)
  refine p_gK ?_
  refine p_bindg (fun Q2 hQ2 => ?_)
  unfold mX9_canTell
  refine p_gK ?_
  refine p_bindg (fun Q3 hQ3 => ?_)
  unfold mX9_bringSizes
  show pw (bX9_bringSizes_2 (mX9_bringSizes_2 69999) _ _ _) _
  unfold bX9_bringSizes_2
  refine p_it0 (by decide +kernel) ?_
  refine p_gFc (ji := 26) (r := 152) rfl (h1.v (by decide +kernel) (by decide +kernel)) ?_
  refine p_gFc (ji := 7) (r := 133) rfl (h1.v (by decide +kernel) (by decide +kernel)) ?_
  refine p_aGc (r := 2) (h1.v (by decide +kernel) (by decide +kernel)) ?_
  refine p_aS (fun M4 h4 => ?_)
  replace h4 := h1.st (al := 152) (il := 0) (xl := 2) h4 (by decide +kernel) (by decide +kernel) (by decide +kernel)
  show pw (bX9_bringSizes_2 (mX9_bringSizes_2 69998) _ _ _) _
  unfold bX9_bringSizes_2
  refine p_it0 (by decide +kernel) ?_
  refine p_gFc (ji := 26) (r := 152) rfl (h4.v (by decide +kernel) (by decide +kernel)) ?_
  refine p_gFc (ji := 7) (r := 133) rfl (h4.v (by decide +kernel) (by decide +kernel)) ?_
  refine p_aGc (r := 2) (h4.v (by decide +kernel) (by decide +kernel)) ?_
  refine p_aS (fun M5 h5 => ?_)
  replace h5 := h4.st (al := 152) (il := 1) (xl := 2) h5 (by decide +kernel) (by decide +kernel) (by decide +kernel)
  show pw (bX9_bringSizes_2 (mX9_bringSizes_2 69997) _ _ _) _
  unfold bX9_bringSizes_2
  refine p_it0 (by decide +kernel) ?_
  refine p_gFc (ji := 26) (r := 152) rfl (h5.v (by decide +kernel) (by decide +kernel)) ?_
  refine p_gFc (ji := 7) (r := 133) rfl (h5.v (by decide +kernel) (by decide +kernel)) ?_
  refine p_aGc (r := 2) (h5.v (by decide +kernel) (by decide +kernel)) ?_
  refine p_aS (fun M6 h6 => ?_)
  replace h6 := h5.st (al := 152) (il := 2) (xl := 2) h6 (by decide +kernel) (by decide +kernel) (by decide +kernel)
  show pw (bX9_bringSizes_2 (mX9_bringSizes_2 69996) _ _ _) _
  unfold bX9_bringSizes_2
  refine p_it1 (by decide +kernel) ?_
  refine p_gK ?_
  refine p_bindg (fun Q7 hQ7 => ?_)
  unfold mX9_findStarts
  refine p_gFc (ji := 27) (r := 153) rfl (h6.v (by decide +kernel) (by decide +kernel)) ?_
  refine p_aS (fun M8 h8 => ?_)
  replace h8 := h6.st (al := 153) (il := 0) (xl := 0) h8 (by decide +kernel) (by decide +kernel) (by decide +kernel)
  show pw (bX9_findStarts_9 (mX9_findStarts_9 69999) _ _ _) _
  unfold bX9_findStarts_9
  refine p_gFc (ji := 8) (r := 134) rfl (h8.v (by decide +kernel) (by decide +kernel)) ?_
  refine p_aGc (r := 0) (h8.v (by decide +kernel) (by decide +kernel)) ?_
  refine p_it1 (by decide +kernel) ?_
  refine p_rc (r := 0) (by decide +kernel) (hQ7 _ ?_)
  dsimp only
  refine p_rc (r := 0) (by decide +kernel) (hQ3 _ ?_)
  dsimp only
  refine p_gK ?_
  refine p_bindg (fun Q9 hQ9 => ?_)
  unfold mX9_manyFacts
  refine p_gFc (ji := 27) (r := 153) rfl (h8.v (by decide +kernel) (by decide +kernel)) ?_
  refine p_gFc (ji := 8) (r := 134) rfl (h8.v (by decide +kernel) (by decide +kernel)) ?_
  refine p_aGc (r := 0) (h8.v (by decide +kernel) (by decide +kernel)) ?_
  refine p_aGc (r := 0) (h8.v (by decide +kernel) (by decide +kernel)) ?_
  refine p_rc (r := 0) (by decide +kernel) (hQ9 _ ?_)
  dsimp only
  refine p_it0 (by decide +kernel) ?_
  refine p_rc (r := 1) (by decide +kernel) (hQ2 _ ?_)
  dsimp only
  refine p_it0 (by decide +kernel) ?_
  refine p_gK ?_
  refine p_bindg (fun Q10 hQ10 => ?_)
  unfold mX9_prepare
  refine p_gK ?_
  refine p_bindg (fun Q11 hQ11 => ?_)
  unfold mX9_told
  refine p_gFc (ji := 6) (r := 132) rfl (h8.v (by decide +kernel) (by decide +kernel)) ?_
  refine p_aGc (r := (-1)) (h8.v (by decide +kernel) (by decide +kernel)) ?_
  refine p_it1 (by decide +kernel) ?_
  refine p_gFc (ji := 5) (r := 131) rfl (h8.v (by decide +kernel) (by decide +kernel)) ?_
  refine p_aGc (r := 0) (h8.v (by decide +kernel) (by decide +kernel)) ?_
  unfold mX9_told_25
  show pw (bX9_told_30 (mX9_told_30 69999) _ _ _ _ _) _
  unfold bX9_told_30
  refine p_gFc (ji := 12) (r := 138) rfl (h8.v (by decide +kernel) (by decide +kernel)) ?_
  refine p_aGc (r := 0) (h8.v (by decide +kernel) (by decide +kernel)) ?_
  refine p_it1 (by decide +kernel) ?_
  refine p_rc (r := 0) (by decide +kernel) (hQ11 _ ?_)
  dsimp only
  refine p_pF (ji := 48) rfl (fun M12 h12 => ?_)
  replace h12 := h8.st (al := 126) (il := 48) (xl := 0) h12 (by decide +kernel) (by decide +kernel) (by decide +kernel)
  refine p_gK ?_
  refine p_bindg (fun Q13 hQ13 => ?_)
  unfold mX9_findKnown
  refine p_gFc (ji := 6) (r := 132) rfl (h12.v (by decide +kernel) (by decide +kernel)) ?_
  refine p_aGc (r := (-1)) (h12.v (by decide +kernel) (by decide +kernel)) ?_
  refine p_it1 (by decide +kernel) ?_
  refine p_gFc (ji := 5) (r := 131) rfl (h12.v (by decide +kernel) (by decide +kernel)) ?_
  refine p_aGc (r := 0) (h12.v (by decide +kernel) (by decide +kernel)) ?_
  unfold mX9_findKnown_25
  refine p_gK ?_
  refine p_bindg (fun Q14 hQ14 => ?_)
  unfold mX9_manyFacts
  refine p_gFc (ji := 27) (r := 153) rfl (h12.v (by decide +kernel) (by decide +kernel)) ?_
  refine p_gFc (ji := 8) (r := 134) rfl (h12.v (by decide +kernel) (by decide +kernel)) ?_
  refine p_aGc (r := 0) (h12.v (by decide +kernel) (by decide +kernel)) ?_
  refine p_aGc (r := 0) (h12.v (by decide +kernel) (by decide +kernel)) ?_
  refine p_rc (r := 0) (by decide +kernel) (hQ14 _ ?_)
  dsimp only
  refine p_pF (ji := 49) rfl (fun M15 h15 => ?_)
  replace h15 := h12.st (al := 126) (il := 49) (xl := 0) h15 (by decide +kernel) (by decide +kernel) (by decide +kernel)
  refine p_pF (ji := 50) rfl (fun M16 h16 => ?_)
  replace h16 := h15.st (al := 126) (il := 50) (xl := 0) h16 (by decide +kernel) (by decide +kernel) (by decide +kernel)
  show pw (bX9_findKnown_43 (mX9_findKnown_43 69999) _ _ _ _ _) _
  unfold bX9_findKnown_43
  refine p_gFc (ji := 20) (r := 146) rfl (h16.v (by decide +kernel) (by decide +kernel)) ?_
  refine p_aGc (r := 0) (h16.v (by decide +kernel) (by decide +kernel)) ?_
  refine p_it1 (by decide +kernel) ?_
  refine p_rc (r := 0) (by decide +kernel) (hQ13 _ ?_)
  dsimp only
  refine p_rc (r := 0) (by decide +kernel) (hQ10 _ ?_)
  dsimp only
  show pw (bX9_forms_22 (mX9_forms_22 69999) _ _ _ _) _
  unfold bX9_forms_22
  refine p_gK ?_
  refine p_bindg (fun Q17 hQ17 => ?_)
  unfold mX9_manyFacts
  refine p_gFc (ji := 27) (r := 153) rfl (h16.v (by decide +kernel) (by decide +kernel)) ?_
  refine p_gFc (ji := 8) (r := 134) rfl (h16.v (by decide +kernel) (by decide +kernel)) ?_
  refine p_aGc (r := 0) (h16.v (by decide +kernel) (by decide +kernel)) ?_
  refine p_aGc (r := 0) (h16.v (by decide +kernel) (by decide +kernel)) ?_
  refine p_rc (r := 0) (by decide +kernel) (hQ17 _ ?_)
  dsimp only
  refine p_it0 (by decide +kernel) ?_
  refine p_gK ?_
  refine p_bindg (fun Q18 hQ18 => ?_)
  unfold mX9_isForm
  refine p_gK ?_
  refine p_bindg (fun Q19 hQ19 => ?_)
  unfold mX9_isWorld
  refine p_gK ?_
  refine p_bindg (fun Q20 hQ20 => ?_)
  unfold mX9_isAsKnown
  refine p_gFc (ji := 49) (r := 0) rfl (h16.v (by decide +kernel) (by decide +kernel)) ?_
  refine p_gFc (ji := 50) (r := 0) rfl (h16.v (by decide +kernel) (by decide +kernel)) ?_
  refine p_it1 (by decide +kernel) ?_
  refine p_rc (r := 1) (by decide +kernel) (hQ20 _ ?_)
  dsimp only
  refine p_it0 (by decide +kernel) ?_
  refine p_gK ?_
  refine p_bindg (fun Q21 hQ21 => ?_)
  unfold mX9_layWorld
  refine p_gK ?_
  refine p_bindg (fun Q22 hQ22 => ?_)
  unfold mX9_manyFacts
  refine p_gFc (ji := 27) (r := 153) rfl (h16.v (by decide +kernel) (by decide +kernel)) ?_
  refine p_gFc (ji := 8) (r := 134) rfl (h16.v (by decide +kernel) (by decide +kernel)) ?_
  refine p_aGc (r := 0) (h16.v (by decide +kernel) (by decide +kernel)) ?_
  refine p_aGc (r := 0) (h16.v (by decide +kernel) (by decide +kernel)) ?_
  refine p_rc (r := 0) (by decide +kernel) (hQ22 _ ?_)
  dsimp only
  show pw (bX9_layWorld_7 (mX9_layWorld_7 69999) _ _ _ _ _) _
  unfold bX9_layWorld_7
  refine p_it1 (by decide +kernel) ?_
  refine p_rc (r := 0) (by decide +kernel) (hQ21 _ ?_)
  dsimp only
  show pw (bX9_isWorld_17 (mX9_isWorld_17 69999) _ _ _) _
  unfold bX9_isWorld_17
  refine p_gFc (ji := 12) (r := 138) rfl (h16.v (by decide +kernel) (by decide +kernel)) ?_
  refine p_aGc (r := 0) (h16.v (by decide +kernel) (by decide +kernel)) ?_
  refine p_it1 (by decide +kernel) ?_
  refine p_rc (r := 1) (by decide +kernel) (hQ19 _ ?_)
  dsimp only
  refine p_it0 (by decide +kernel) ?_
  refine p_gK ?_
  refine p_bindg (fun Q23 hQ23 => ?_)
  unfold mX9_leastImage
  show pw (bX9_leastImage_4 (mX9_leastImage_4 69999) _ _ _ _) _
  unfold bX9_leastImage_4
  refine p_it0 (by decide +kernel) ?_
  refine p_gK ?_
  refine p_bindg (fun Q24 hQ24 => ?_)
  unfold mX9_takeOrders
  refine p_gFc (ji := 51) (r := 162) rfl (h16.v (by decide +kernel) (by decide +kernel)) ?_
  refine p_dQc (r := 0) (by decide +kernel) ?_
  refine p_aS (fun M25 h25 => ?_)
  replace h25 := h16.st (al := 162) (il := 0) (xl := 0) h25 (by decide +kernel) (by decide +kernel) (by decide +kernel)
  refine p_gFc (ji := 51) (r := 162) rfl (h25.v (by decide +kernel) (by decide +kernel)) ?_
  refine p_dQc (r := 0) (by decide +kernel) ?_
  refine p_dMc (r := 0) (by decide +kernel) ?_
  refine p_aS (fun M26 h26 => ?_)
  replace h26 := h25.st (al := 162) (il := 1) (xl := 0) h26 (by decide +kernel) (by decide +kernel) (by decide +kernel)
  refine p_gFc (ji := 51) (r := 162) rfl (h26.v (by decide +kernel) (by decide +kernel)) ?_
  refine p_dMc (r := 0) (by decide +kernel) ?_
  refine p_aS (fun M27 h27 => ?_)
  replace h27 := h26.st (al := 162) (il := 2) (xl := 0) h27 (by decide +kernel) (by decide +kernel) (by decide +kernel)
  refine p_gFc (ji := 51) (r := 162) rfl (h27.v (by decide +kernel) (by decide +kernel)) ?_
  refine p_aGc (r := 0) (h27.v (by decide +kernel) (by decide +kernel)) ?_
  refine p_gFc (ji := 26) (r := 152) rfl (h27.v (by decide +kernel) (by decide +kernel)) ?_
  refine p_aGc (r := 2) (h27.v (by decide +kernel) (by decide +kernel)) ?_
  refine p_bindg (fun Q28 hQ28 => ?_)
  unfold mX9_isOrder
  show pw (bX9_isOrder_2 (mX9_isOrder_2 69999) _ _ _ _) _
  unfold bX9_isOrder_2
  refine p_it0 (by decide +kernel) ?_
  refine p_it0 (by decide +kernel) ?_
  refine p_bindg (fun Q29 hQ29 => ?_)
  unfold mX9_inOrder
  refine p_dQc (r := 0) (by decide +kernel) ?_
  refine p_dMc (r := 0) (by decide +kernel) ?_
  refine p_it1 (by decide +kernel) ?_
  refine p_it1 (by decide +kernel) ?_
  unfold mX9_inOrder_32
  refine p_it1 (by decide +kernel) ?_
  refine p_rc (r := 0) (by decide +kernel) (hQ29 _ ?_)
  dsimp only
  refine p_it1 (by decide +kernel) ?_
  unfold mX9_isOrder_35
  show pw (bX9_isOrder_2 (mX9_isOrder_2 69998) _ _ _ _) _
  unfold bX9_isOrder_2
  refine p_it0 (by decide +kernel) ?_
  refine p_it0 (by decide +kernel) ?_
  refine p_bindg (fun Q30 hQ30 => ?_)
  unfold mX9_inOrder
  refine p_dQc (r := 0) (by decide +kernel) ?_
  refine p_dMc (r := 0) (by decide +kernel) ?_
  refine p_it1 (by decide +kernel) ?_
  refine p_it1 (by decide +kernel) ?_
  unfold mX9_inOrder_32
  refine p_it0 (by decide +kernel) ?_
  refine p_it1 (by decide +kernel) ?_
  refine p_rc (r := 1) (by decide +kernel) (hQ30 _ ?_)
  dsimp only
  refine p_it1 (by decide +kernel) ?_
  unfold mX9_isOrder_35
  show pw (bX9_isOrder_2 (mX9_isOrder_2 69997) _ _ _ _) _
  unfold bX9_isOrder_2
  refine p_it0 (by decide +kernel) ?_
  refine p_it1 (by decide +kernel) ?_
  refine p_bindg (fun Q31 hQ31 => ?_)
  unfold mX9_inOrder
  refine p_dQc (r := 0) (by decide +kernel) ?_
  refine p_dMc (r := 0) (by decide +kernel) ?_
  refine p_it1 (by decide +kernel) ?_
  refine p_it1 (by decide +kernel) ?_
  unfold mX9_inOrder_32
  refine p_it0 (by decide +kernel) ?_
  refine p_it0 (by decide +kernel) ?_
  refine p_rc (r := 2) (by decide +kernel) (hQ31 _ ?_)
  dsimp only
  refine p_it1 (by decide +kernel) ?_
  unfold mX9_isOrder_35
  show pw (bX9_isOrder_2 (mX9_isOrder_2 69996) _ _ _ _) _
  unfold bX9_isOrder_2
  refine p_it1 (by decide +kernel) ?_
  refine p_rc (r := 1) (by decide +kernel) (hQ28 _ ?_)
  dsimp only
  refine p_it0 (by decide +kernel) ?_
  refine p_gFc (ji := 51) (r := 162) rfl (h27.v (by decide +kernel) (by decide +kernel)) ?_
  refine p_aGc (r := 0) (h27.v (by decide +kernel) (by decide +kernel)) ?_
  refine p_gFc (ji := 26) (r := 152) rfl (h27.v (by decide +kernel) (by decide +kernel)) ?_
  refine p_aGc (r := 2) (h27.v (by decide +kernel) (by decide +kernel)) ?_
  refine p_bindg (fun Q32 hQ32 => ?_)
  unfold mX9_isOrder
  show pw (bX9_isOrder_2 (mX9_isOrder_2 69999) _ _ _ _) _
  unfold bX9_isOrder_2
  refine p_it0 (by decide +kernel) ?_
  refine p_it0 (by decide +kernel) ?_
  refine p_bindg (fun Q33 hQ33 => ?_)
  unfold mX9_inOrder
  refine p_dQc (r := 0) (by decide +kernel) ?_
  refine p_dMc (r := 0) (by decide +kernel) ?_
  refine p_it1 (by decide +kernel) ?_
  refine p_it1 (by decide +kernel) ?_
  unfold mX9_inOrder_32
  refine p_it1 (by decide +kernel) ?_
  refine p_rc (r := 0) (by decide +kernel) (hQ33 _ ?_)
  dsimp only
  refine p_it1 (by decide +kernel) ?_
  unfold mX9_isOrder_35
  show pw (bX9_isOrder_2 (mX9_isOrder_2 69998) _ _ _ _) _
  unfold bX9_isOrder_2
  refine p_it0 (by decide +kernel) ?_
  refine p_it0 (by decide +kernel) ?_
  refine p_bindg (fun Q34 hQ34 => ?_)
  unfold mX9_inOrder
  refine p_dQc (r := 0) (by decide +kernel) ?_
  refine p_dMc (r := 0) (by decide +kernel) ?_
  refine p_it1 (by decide +kernel) ?_
  refine p_it1 (by decide +kernel) ?_
  unfold mX9_inOrder_32
  refine p_it0 (by decide +kernel) ?_
  refine p_it1 (by decide +kernel) ?_
  refine p_rc (r := 1) (by decide +kernel) (hQ34 _ ?_)
  dsimp only
  refine p_it1 (by decide +kernel) ?_
  unfold mX9_isOrder_35
  show pw (bX9_isOrder_2 (mX9_isOrder_2 69997) _ _ _ _) _
  unfold bX9_isOrder_2
  refine p_it0 (by decide +kernel) ?_
  refine p_it1 (by decide +kernel) ?_
  refine p_bindg (fun Q35 hQ35 => ?_)
  unfold mX9_inOrder
  refine p_dQc (r := 0) (by decide +kernel) ?_
  refine p_dMc (r := 0) (by decide +kernel) ?_
  refine p_it1 (by decide +kernel) ?_
  refine p_it1 (by decide +kernel) ?_
  unfold mX9_inOrder_32
  refine p_it0 (by decide +kernel) ?_
  refine p_it0 (by decide +kernel) ?_
  refine p_rc (r := 2) (by decide +kernel) (hQ35 _ ?_)
  dsimp only
  refine p_it1 (by decide +kernel) ?_
  unfold mX9_isOrder_35
  show pw (bX9_isOrder_2 (mX9_isOrder_2 69996) _ _ _ _) _
  unfold bX9_isOrder_2
  refine p_it1 (by decide +kernel) ?_
  refine p_rc (r := 1) (by decide +kernel) (hQ32 _ ?_)
  dsimp only
  refine p_it0 (by decide +kernel) ?_
  refine p_gFc (ji := 51) (r := 162) rfl (h27.v (by decide +kernel) (by decide +kernel)) ?_
  refine p_aGc (r := 0) (h27.v (by decide +kernel) (by decide +kernel)) ?_
  refine p_gFc (ji := 26) (r := 152) rfl (h27.v (by decide +kernel) (by decide +kernel)) ?_
  refine p_aGc (r := 2) (h27.v (by decide +kernel) (by decide +kernel)) ?_
  refine p_bindg (fun Q36 hQ36 => ?_)
  unfold mX9_isOrder
  show pw (bX9_isOrder_2 (mX9_isOrder_2 69999) _ _ _ _) _
  unfold bX9_isOrder_2
  refine p_it0 (by decide +kernel) ?_
  refine p_it0 (by decide +kernel) ?_
  refine p_bindg (fun Q37 hQ37 => ?_)
  unfold mX9_inOrder
  refine p_dQc (r := 0) (by decide +kernel) ?_
  refine p_dMc (r := 0) (by decide +kernel) ?_
  refine p_it1 (by decide +kernel) ?_
  refine p_it1 (by decide +kernel) ?_
  unfold mX9_inOrder_32
  refine p_it1 (by decide +kernel) ?_
  refine p_rc (r := 0) (by decide +kernel) (hQ37 _ ?_)
  dsimp only
  refine p_it1 (by decide +kernel) ?_
  unfold mX9_isOrder_35
  show pw (bX9_isOrder_2 (mX9_isOrder_2 69998) _ _ _ _) _
  unfold bX9_isOrder_2
  refine p_it0 (by decide +kernel) ?_
  refine p_it0 (by decide +kernel) ?_
  refine p_bindg (fun Q38 hQ38 => ?_)
  unfold mX9_inOrder
  refine p_dQc (r := 0) (by decide +kernel) ?_
  refine p_dMc (r := 0) (by decide +kernel) ?_
  refine p_it1 (by decide +kernel) ?_
  refine p_it1 (by decide +kernel) ?_
  unfold mX9_inOrder_32
  refine p_it0 (by decide +kernel) ?_
  refine p_it1 (by decide +kernel) ?_
  refine p_rc (r := 1) (by decide +kernel) (hQ38 _ ?_)
  dsimp only
  refine p_it1 (by decide +kernel) ?_
  unfold mX9_isOrder_35
  show pw (bX9_isOrder_2 (mX9_isOrder_2 69997) _ _ _ _) _
  unfold bX9_isOrder_2
  refine p_it0 (by decide +kernel) ?_
  refine p_it1 (by decide +kernel) ?_
  refine p_bindg (fun Q39 hQ39 => ?_)
  unfold mX9_inOrder
  refine p_dQc (r := 0) (by decide +kernel) ?_
  refine p_dMc (r := 0) (by decide +kernel) ?_
  refine p_it1 (by decide +kernel) ?_
  refine p_it1 (by decide +kernel) ?_
  unfold mX9_inOrder_32
  refine p_it0 (by decide +kernel) ?_
  refine p_it0 (by decide +kernel) ?_
  refine p_rc (r := 2) (by decide +kernel) (hQ39 _ ?_)
  dsimp only
  refine p_it1 (by decide +kernel) ?_
  unfold mX9_isOrder_35
  show pw (bX9_isOrder_2 (mX9_isOrder_2 69996) _ _ _ _) _
  unfold bX9_isOrder_2
  refine p_it1 (by decide +kernel) ?_
  refine p_rc (r := 1) (by decide +kernel) (hQ36 _ ?_)
  dsimp only
  refine p_it0 (by decide +kernel) ?_
  refine p_rc (r := 1) (by decide +kernel) (hQ24 _ ?_)
  dsimp only
  refine p_it0 (by decide +kernel) ?_
  refine p_gK ?_
  refine p_bindg (fun Q40 hQ40 => ?_)
  unfold mX9_imageOf
  refine p_gK ?_
  refine p_bindg (fun Q41 hQ41 => ?_)
  unfold mX9_manyFacts
  refine p_gFc (ji := 27) (r := 153) rfl (h27.v (by decide +kernel) (by decide +kernel)) ?_
  refine p_gFc (ji := 8) (r := 134) rfl (h27.v (by decide +kernel) (by decide +kernel)) ?_
  refine p_aGc (r := 0) (h27.v (by decide +kernel) (by decide +kernel)) ?_
  refine p_aGc (r := 0) (h27.v (by decide +kernel) (by decide +kernel)) ?_
  refine p_rc (r := 0) (by decide +kernel) (hQ41 _ ?_)
  dsimp only
  show pw (bX9_imageOf_9 (mX9_imageOf_9 69999) _ _ _ _ _) _
  unfold bX9_imageOf_9
  refine p_gFc (ji := 8) (r := 134) rfl (h27.v (by decide +kernel) (by decide +kernel)) ?_
  refine p_aGc (r := 0) (h27.v (by decide +kernel) (by decide +kernel)) ?_
  refine p_it1 (by decide +kernel) ?_
  refine p_rc (r := 0) (by decide +kernel) (hQ40 _ ?_)
  dsimp only
  refine p_it1 (by decide +kernel) ?_
  unfold mX9_leastImage_34
  unfold mX9_leastImage_39
  unfold mX9_leastImage_40
  have t42 := h27.forget
  refine p_val2 (r := 0) (li_loop (by decide +kernel) (by decide +kernel) (by decide +kernel) (by decide +kernel) _ _ _ t42) (fun M43 t43 => ?_)
  refine p_rc (r := 0) (by decide +kernel) (hQ23 _ ?_)
  dsimp only
  refine p_it1 (by decide +kernel) ?_
  refine p_rc (r := 1) (by decide +kernel) (hQ18 _ ?_)
  dsimp only
  refine p_it0 (by decide +kernel) ?_
  unfold mX9_forms_46
  show pw (bX9_forms_22 (mX9_forms_22 69998) _ _ _ _) _
  unfold bX9_forms_22
  refine p_gK ?_
  refine p_bindg (fun Q44 hQ44 => ?_)
  unfold mX9_manyFacts
  refine p_gFc (ji := 27) (r := 153) rfl (t43.v (by decide +kernel) (by decide +kernel)) ?_
  refine p_gFc (ji := 8) (r := 134) rfl (t43.v (by decide +kernel) (by decide +kernel)) ?_
  refine p_aGc (r := 0) (t43.v (by decide +kernel) (by decide +kernel)) ?_
  refine p_aGc (r := 0) (t43.v (by decide +kernel) (by decide +kernel)) ?_
  refine p_rc (r := 0) (by decide +kernel) (hQ44 _ ?_)
  dsimp only
  refine p_it1 (by decide +kernel) ?_
  exact p_rc (r := 1) (by decide +kernel) rfl
theorem fx9_form {l1 : Int} {M : Mem} (t0 : TR 162 126 169 [] M) (r_l1 : (-2147483648) ≤ l1 ∧ l1 ≤ 2147483647) : pw (mX9_form 126 l1 M) (fun q => sp_form l1 q.1) := by
  unfold mX9_form
  refine p_pF (ji := 0) rfl (fun M1 h1 => ?_)
  replace h1 := t0.st (al := 126) (il := 0) (xl := 0) h1 (by decide +kernel) (by decide +kernel) (by decide +kernel)
  refine p_gK ?_
  refine p_bindg (fun Q2 hQ2 => ?_)
  unfold mX9_canTell
  refine p_gK ?_
  refine p_bindg (fun Q3 hQ3 => ?_)
  unfold mX9_bringSizes
  show pw (bX9_bringSizes_2 (mX9_bringSizes_2 69999) _ _ _) _
  unfold bX9_bringSizes_2
  refine p_it0 (by decide +kernel) ?_
  refine p_gFc (ji := 26) (r := 152) rfl (h1.v (by decide +kernel) (by decide +kernel)) ?_
  refine p_gFc (ji := 7) (r := 133) rfl (h1.v (by decide +kernel) (by decide +kernel)) ?_
  refine p_aGc (r := 2) (h1.v (by decide +kernel) (by decide +kernel)) ?_
  refine p_aS (fun M4 h4 => ?_)
  replace h4 := h1.st (al := 152) (il := 0) (xl := 2) h4 (by decide +kernel) (by decide +kernel) (by decide +kernel)
  show pw (bX9_bringSizes_2 (mX9_bringSizes_2 69998) _ _ _) _
  unfold bX9_bringSizes_2
  refine p_it0 (by decide +kernel) ?_
  refine p_gFc (ji := 26) (r := 152) rfl (h4.v (by decide +kernel) (by decide +kernel)) ?_
  refine p_gFc (ji := 7) (r := 133) rfl (h4.v (by decide +kernel) (by decide +kernel)) ?_
  refine p_aGc (r := 2) (h4.v (by decide +kernel) (by decide +kernel)) ?_
  refine p_aS (fun M5 h5 => ?_)
  replace h5 := h4.st (al := 152) (il := 1) (xl := 2) h5 (by decide +kernel) (by decide +kernel) (by decide +kernel)
  show pw (bX9_bringSizes_2 (mX9_bringSizes_2 69997) _ _ _) _
  unfold bX9_bringSizes_2
  refine p_it0 (by decide +kernel) ?_
  refine p_gFc (ji := 26) (r := 152) rfl (h5.v (by decide +kernel) (by decide +kernel)) ?_
  refine p_gFc (ji := 7) (r := 133) rfl (h5.v (by decide +kernel) (by decide +kernel)) ?_
  refine p_aGc (r := 2) (h5.v (by decide +kernel) (by decide +kernel)) ?_
  refine p_aS (fun M6 h6 => ?_)
  replace h6 := h5.st (al := 152) (il := 2) (xl := 2) h6 (by decide +kernel) (by decide +kernel) (by decide +kernel)
  show pw (bX9_bringSizes_2 (mX9_bringSizes_2 69996) _ _ _) _
  unfold bX9_bringSizes_2
  refine p_it1 (by decide +kernel) ?_
  refine p_gK ?_
  refine p_bindg (fun Q7 hQ7 => ?_)
  unfold mX9_findStarts
  refine p_gFc (ji := 27) (r := 153) rfl (h6.v (by decide +kernel) (by decide +kernel)) ?_
  refine p_aS (fun M8 h8 => ?_)
  replace h8 := h6.st (al := 153) (il := 0) (xl := 0) h8 (by decide +kernel) (by decide +kernel) (by decide +kernel)
  show pw (bX9_findStarts_9 (mX9_findStarts_9 69999) _ _ _) _
  unfold bX9_findStarts_9
  refine p_gFc (ji := 8) (r := 134) rfl (h8.v (by decide +kernel) (by decide +kernel)) ?_
  refine p_aGc (r := 0) (h8.v (by decide +kernel) (by decide +kernel)) ?_
  refine p_it1 (by decide +kernel) ?_
  refine p_rc (r := 0) (by decide +kernel) (hQ7 _ ?_)
  dsimp only
  refine p_rc (r := 0) (by decide +kernel) (hQ3 _ ?_)
  dsimp only
  refine p_gK ?_
  refine p_bindg (fun Q9 hQ9 => ?_)
  unfold mX9_manyFacts
  refine p_gFc (ji := 27) (r := 153) rfl (h8.v (by decide +kernel) (by decide +kernel)) ?_
  refine p_gFc (ji := 8) (r := 134) rfl (h8.v (by decide +kernel) (by decide +kernel)) ?_
  refine p_aGc (r := 0) (h8.v (by decide +kernel) (by decide +kernel)) ?_
  refine p_aGc (r := 0) (h8.v (by decide +kernel) (by decide +kernel)) ?_
  refine p_rc (r := 0) (by decide +kernel) (hQ9 _ ?_)
  dsimp only
  refine p_it0 (by decide +kernel) ?_
  refine p_rc (r := 1) (by decide +kernel) (hQ2 _ ?_)
  dsimp only
  refine p_it0 (by decide +kernel) ?_
  refine p_gK ?_
  refine p_bindg (fun Q10 hQ10 => ?_)
  unfold mX9_prepare
  refine p_gK ?_
  refine p_bindg (fun Q11 hQ11 => ?_)
  unfold mX9_told
  refine p_gFc (ji := 6) (r := 132) rfl (h8.v (by decide +kernel) (by decide +kernel)) ?_
  refine p_aGc (r := (-1)) (h8.v (by decide +kernel) (by decide +kernel)) ?_
  refine p_it1 (by decide +kernel) ?_
  refine p_gFc (ji := 5) (r := 131) rfl (h8.v (by decide +kernel) (by decide +kernel)) ?_
  refine p_aGc (r := 0) (h8.v (by decide +kernel) (by decide +kernel)) ?_
  unfold mX9_told_25
  show pw (bX9_told_30 (mX9_told_30 69999) _ _ _ _ _) _
  unfold bX9_told_30
  refine p_gFc (ji := 12) (r := 138) rfl (h8.v (by decide +kernel) (by decide +kernel)) ?_
  refine p_aGc (r := 0) (h8.v (by decide +kernel) (by decide +kernel)) ?_
  refine p_it1 (by decide +kernel) ?_
  refine p_rc (r := 0) (by decide +kernel) (hQ11 _ ?_)
  dsimp only
  refine p_pF (ji := 48) rfl (fun M12 h12 => ?_)
  replace h12 := h8.st (al := 126) (il := 48) (xl := 0) h12 (by decide +kernel) (by decide +kernel) (by decide +kernel)
  refine p_gK ?_
  refine p_bindg (fun Q13 hQ13 => ?_)
  unfold mX9_findKnown
  refine p_gFc (ji := 6) (r := 132) rfl (h12.v (by decide +kernel) (by decide +kernel)) ?_
  refine p_aGc (r := (-1)) (h12.v (by decide +kernel) (by decide +kernel)) ?_
  refine p_it1 (by decide +kernel) ?_
  refine p_gFc (ji := 5) (r := 131) rfl (h12.v (by decide +kernel) (by decide +kernel)) ?_
  refine p_aGc (r := 0) (h12.v (by decide +kernel) (by decide +kernel)) ?_
  unfold mX9_findKnown_25
  refine p_gK ?_
  refine p_bindg (fun Q14 hQ14 => ?_)
  unfold mX9_manyFacts
  refine p_gFc (ji := 27) (r := 153) rfl (h12.v (by decide +kernel) (by decide +kernel)) ?_
  refine p_gFc (ji := 8) (r := 134) rfl (h12.v (by decide +kernel) (by decide +kernel)) ?_
  refine p_aGc (r := 0) (h12.v (by decide +kernel) (by decide +kernel)) ?_
  refine p_aGc (r := 0) (h12.v (by decide +kernel) (by decide +kernel)) ?_
  refine p_rc (r := 0) (by decide +kernel) (hQ14 _ ?_)
  dsimp only
  refine p_pF (ji := 49) rfl (fun M15 h15 => ?_)
  replace h15 := h12.st (al := 126) (il := 49) (xl := 0) h15 (by decide +kernel) (by decide +kernel) (by decide +kernel)
  refine p_pF (ji := 50) rfl (fun M16 h16 => ?_)
  replace h16 := h15.st (al := 126) (il := 50) (xl := 0) h16 (by decide +kernel) (by decide +kernel) (by decide +kernel)
  show pw (bX9_findKnown_43 (mX9_findKnown_43 69999) _ _ _ _ _) _
  unfold bX9_findKnown_43
  refine p_gFc (ji := 20) (r := 146) rfl (h16.v (by decide +kernel) (by decide +kernel)) ?_
  refine p_aGc (r := 0) (h16.v (by decide +kernel) (by decide +kernel)) ?_
  refine p_it1 (by decide +kernel) ?_
  refine p_rc (r := 0) (by decide +kernel) (hQ13 _ ?_)
  dsimp only
  refine p_rc (r := 0) (by decide +kernel) (hQ10 _ ?_)
  dsimp only
  show pw (bX9_form_22 (mX9_form_22 69999) _ _ _ _ _) _
  unfold bX9_form_22
  refine p_gK ?_
  refine p_bindg (fun Q17 hQ17 => ?_)
  unfold mX9_manyFacts
  refine p_gFc (ji := 27) (r := 153) rfl (h16.v (by decide +kernel) (by decide +kernel)) ?_
  refine p_gFc (ji := 8) (r := 134) rfl (h16.v (by decide +kernel) (by decide +kernel)) ?_
  refine p_aGc (r := 0) (h16.v (by decide +kernel) (by decide +kernel)) ?_
  refine p_aGc (r := 0) (h16.v (by decide +kernel) (by decide +kernel)) ?_
  refine p_rc (r := 0) (by decide +kernel) (hQ17 _ ?_)
  dsimp only
  refine p_it0 (by decide +kernel) ?_
  refine p_gK ?_
  refine p_bindg (fun Q18 hQ18 => ?_)
  unfold mX9_isForm
  refine p_gK ?_
  refine p_bindg (fun Q19 hQ19 => ?_)
  unfold mX9_isWorld
  refine p_gK ?_
  refine p_bindg (fun Q20 hQ20 => ?_)
  unfold mX9_isAsKnown
  refine p_gFc (ji := 49) (r := 0) rfl (h16.v (by decide +kernel) (by decide +kernel)) ?_
  refine p_gFc (ji := 50) (r := 0) rfl (h16.v (by decide +kernel) (by decide +kernel)) ?_
  refine p_it1 (by decide +kernel) ?_
  refine p_rc (r := 1) (by decide +kernel) (hQ20 _ ?_)
  dsimp only
  refine p_it0 (by decide +kernel) ?_
  refine p_gK ?_
  refine p_bindg (fun Q21 hQ21 => ?_)
  unfold mX9_layWorld
  refine p_gK ?_
  refine p_bindg (fun Q22 hQ22 => ?_)
  unfold mX9_manyFacts
  refine p_gFc (ji := 27) (r := 153) rfl (h16.v (by decide +kernel) (by decide +kernel)) ?_
  refine p_gFc (ji := 8) (r := 134) rfl (h16.v (by decide +kernel) (by decide +kernel)) ?_
  refine p_aGc (r := 0) (h16.v (by decide +kernel) (by decide +kernel)) ?_
  refine p_aGc (r := 0) (h16.v (by decide +kernel) (by decide +kernel)) ?_
  refine p_rc (r := 0) (by decide +kernel) (hQ22 _ ?_)
  dsimp only
  show pw (bX9_layWorld_7 (mX9_layWorld_7 69999) _ _ _ _ _) _
  unfold bX9_layWorld_7
  refine p_it1 (by decide +kernel) ?_
  refine p_rc (r := 0) (by decide +kernel) (hQ21 _ ?_)
  dsimp only
  show pw (bX9_isWorld_17 (mX9_isWorld_17 69999) _ _ _) _
  unfold bX9_isWorld_17
  refine p_gFc (ji := 12) (r := 138) rfl (h16.v (by decide +kernel) (by decide +kernel)) ?_
  refine p_aGc (r := 0) (h16.v (by decide +kernel) (by decide +kernel)) ?_
  refine p_it1 (by decide +kernel) ?_
  refine p_rc (r := 1) (by decide +kernel) (hQ19 _ ?_)
  dsimp only
  refine p_it0 (by decide +kernel) ?_
  refine p_gK ?_
  refine p_bindg (fun Q23 hQ23 => ?_)
  unfold mX9_leastImage
  show pw (bX9_leastImage_4 (mX9_leastImage_4 69999) _ _ _ _) _
  unfold bX9_leastImage_4
  refine p_it0 (by decide +kernel) ?_
  refine p_gK ?_
  refine p_bindg (fun Q24 hQ24 => ?_)
  unfold mX9_takeOrders
  refine p_gFc (ji := 51) (r := 162) rfl (h16.v (by decide +kernel) (by decide +kernel)) ?_
  refine p_dQc (r := 0) (by decide +kernel) ?_
  refine p_aS (fun M25 h25 => ?_)
  replace h25 := h16.st (al := 162) (il := 0) (xl := 0) h25 (by decide +kernel) (by decide +kernel) (by decide +kernel)
  refine p_gFc (ji := 51) (r := 162) rfl (h25.v (by decide +kernel) (by decide +kernel)) ?_
  refine p_dQc (r := 0) (by decide +kernel) ?_
  refine p_dMc (r := 0) (by decide +kernel) ?_
  refine p_aS (fun M26 h26 => ?_)
  replace h26 := h25.st (al := 162) (il := 1) (xl := 0) h26 (by decide +kernel) (by decide +kernel) (by decide +kernel)
  refine p_gFc (ji := 51) (r := 162) rfl (h26.v (by decide +kernel) (by decide +kernel)) ?_
  refine p_dMc (r := 0) (by decide +kernel) ?_
  refine p_aS (fun M27 h27 => ?_)
  replace h27 := h26.st (al := 162) (il := 2) (xl := 0) h27 (by decide +kernel) (by decide +kernel) (by decide +kernel)
  refine p_gFc (ji := 51) (r := 162) rfl (h27.v (by decide +kernel) (by decide +kernel)) ?_
  refine p_aGc (r := 0) (h27.v (by decide +kernel) (by decide +kernel)) ?_
  refine p_gFc (ji := 26) (r := 152) rfl (h27.v (by decide +kernel) (by decide +kernel)) ?_
  refine p_aGc (r := 2) (h27.v (by decide +kernel) (by decide +kernel)) ?_
  refine p_bindg (fun Q28 hQ28 => ?_)
  unfold mX9_isOrder
  show pw (bX9_isOrder_2 (mX9_isOrder_2 69999) _ _ _ _) _
  unfold bX9_isOrder_2
  refine p_it0 (by decide +kernel) ?_
  refine p_it0 (by decide +kernel) ?_
  refine p_bindg (fun Q29 hQ29 => ?_)
  unfold mX9_inOrder
  refine p_dQc (r := 0) (by decide +kernel) ?_
  refine p_dMc (r := 0) (by decide +kernel) ?_
  refine p_it1 (by decide +kernel) ?_
  refine p_it1 (by decide +kernel) ?_
  unfold mX9_inOrder_32
  refine p_it1 (by decide +kernel) ?_
  refine p_rc (r := 0) (by decide +kernel) (hQ29 _ ?_)
  dsimp only
  refine p_it1 (by decide +kernel) ?_
  unfold mX9_isOrder_35
  show pw (bX9_isOrder_2 (mX9_isOrder_2 69998) _ _ _ _) _
  unfold bX9_isOrder_2
  refine p_it0 (by decide +kernel) ?_
  refine p_it0 (by decide +kernel) ?_
  refine p_bindg (fun Q30 hQ30 => ?_)
  unfold mX9_inOrder
  refine p_dQc (r := 0) (by decide +kernel) ?_
  refine p_dMc (r := 0) (by decide +kernel) ?_
  refine p_it1 (by decide +kernel) ?_
  refine p_it1 (by decide +kernel) ?_
  unfold mX9_inOrder_32
  refine p_it0 (by decide +kernel) ?_
  refine p_it1 (by decide +kernel) ?_
  refine p_rc (r := 1) (by decide +kernel) (hQ30 _ ?_)
  dsimp only
  refine p_it1 (by decide +kernel) ?_
  unfold mX9_isOrder_35
  show pw (bX9_isOrder_2 (mX9_isOrder_2 69997) _ _ _ _) _
  unfold bX9_isOrder_2
  refine p_it0 (by decide +kernel) ?_
  refine p_it1 (by decide +kernel) ?_
  refine p_bindg (fun Q31 hQ31 => ?_)
  unfold mX9_inOrder
  refine p_dQc (r := 0) (by decide +kernel) ?_
  refine p_dMc (r := 0) (by decide +kernel) ?_
  refine p_it1 (by decide +kernel) ?_
  refine p_it1 (by decide +kernel) ?_
  unfold mX9_inOrder_32
  refine p_it0 (by decide +kernel) ?_
  refine p_it0 (by decide +kernel) ?_
  refine p_rc (r := 2) (by decide +kernel) (hQ31 _ ?_)
  dsimp only
  refine p_it1 (by decide +kernel) ?_
  unfold mX9_isOrder_35
  show pw (bX9_isOrder_2 (mX9_isOrder_2 69996) _ _ _ _) _
  unfold bX9_isOrder_2
  refine p_it1 (by decide +kernel) ?_
  refine p_rc (r := 1) (by decide +kernel) (hQ28 _ ?_)
  dsimp only
  refine p_it0 (by decide +kernel) ?_
  refine p_gFc (ji := 51) (r := 162) rfl (h27.v (by decide +kernel) (by decide +kernel)) ?_
  refine p_aGc (r := 0) (h27.v (by decide +kernel) (by decide +kernel)) ?_
  refine p_gFc (ji := 26) (r := 152) rfl (h27.v (by decide +kernel) (by decide +kernel)) ?_
  refine p_aGc (r := 2) (h27.v (by decide +kernel) (by decide +kernel)) ?_
  refine p_bindg (fun Q32 hQ32 => ?_)
  unfold mX9_isOrder
  show pw (bX9_isOrder_2 (mX9_isOrder_2 69999) _ _ _ _) _
  unfold bX9_isOrder_2
  refine p_it0 (by decide +kernel) ?_
  refine p_it0 (by decide +kernel) ?_
  refine p_bindg (fun Q33 hQ33 => ?_)
  unfold mX9_inOrder
  refine p_dQc (r := 0) (by decide +kernel) ?_
  refine p_dMc (r := 0) (by decide +kernel) ?_
  refine p_it1 (by decide +kernel) ?_
  refine p_it1 (by decide +kernel) ?_
  unfold mX9_inOrder_32
  refine p_it1 (by decide +kernel) ?_
  refine p_rc (r := 0) (by decide +kernel) (hQ33 _ ?_)
  dsimp only
  refine p_it1 (by decide +kernel) ?_
  unfold mX9_isOrder_35
  show pw (bX9_isOrder_2 (mX9_isOrder_2 69998) _ _ _ _) _
  unfold bX9_isOrder_2
  refine p_it0 (by decide +kernel) ?_
  refine p_it0 (by decide +kernel) ?_
  refine p_bindg (fun Q34 hQ34 => ?_)
  unfold mX9_inOrder
  refine p_dQc (r := 0) (by decide +kernel) ?_
  refine p_dMc (r := 0) (by decide +kernel) ?_
  refine p_it1 (by decide +kernel) ?_
  refine p_it1 (by decide +kernel) ?_
  unfold mX9_inOrder_32
  refine p_it0 (by decide +kernel) ?_
  refine p_it1 (by decide +kernel) ?_
  refine p_rc (r := 1) (by decide +kernel) (hQ34 _ ?_)
  dsimp only
  refine p_it1 (by decide +kernel) ?_
  unfold mX9_isOrder_35
  show pw (bX9_isOrder_2 (mX9_isOrder_2 69997) _ _ _ _) _
  unfold bX9_isOrder_2
  refine p_it0 (by decide +kernel) ?_
  refine p_it1 (by decide +kernel) ?_
  refine p_bindg (fun Q35 hQ35 => ?_)
  unfold mX9_inOrder
  refine p_dQc (r := 0) (by decide +kernel) ?_
  refine p_dMc (r := 0) (by decide +kernel) ?_
  refine p_it1 (by decide +kernel) ?_
  refine p_it1 (by decide +kernel) ?_
  unfold mX9_inOrder_32
  refine p_it0 (by decide +kernel) ?_
  refine p_it0 (by decide +kernel) ?_
  refine p_rc (r := 2) (by decide +kernel) (hQ35 _ ?_)
  dsimp only
  refine p_it1 (by decide +kernel) ?_
  unfold mX9_isOrder_35
  show pw (bX9_isOrder_2 (mX9_isOrder_2 69996) _ _ _ _) _
  unfold bX9_isOrder_2
  refine p_it1 (by decide +kernel) ?_
  refine p_rc (r := 1) (by decide +kernel) (hQ32 _ ?_)
  dsimp only
  refine p_it0 (by decide +kernel) ?_
  refine p_gFc (ji := 51) (r := 162) rfl (h27.v (by decide +kernel) (by decide +kernel)) ?_
  refine p_aGc (r := 0) (h27.v (by decide +kernel) (by decide +kernel)) ?_
  refine p_gFc (ji := 26) (r := 152) rfl (h27.v (by decide +kernel) (by decide +kernel)) ?_
  refine p_aGc (r := 2) (h27.v (by decide +kernel) (by decide +kernel)) ?_
  refine p_bindg (fun Q36 hQ36 => ?_)
  unfold mX9_isOrder
  show pw (bX9_isOrder_2 (mX9_isOrder_2 69999) _ _ _ _) _
  unfold bX9_isOrder_2
  refine p_it0 (by decide +kernel) ?_
  refine p_it0 (by decide +kernel) ?_
  refine p_bindg (fun Q37 hQ37 => ?_)
  unfold mX9_inOrder
  refine p_dQc (r := 0) (by decide +kernel) ?_
  refine p_dMc (r := 0) (by decide +kernel) ?_
  refine p_it1 (by decide +kernel) ?_
  refine p_it1 (by decide +kernel) ?_
  unfold mX9_inOrder_32
  refine p_it1 (by decide +kernel) ?_
  refine p_rc (r := 0) (by decide +kernel) (hQ37 _ ?_)
  dsimp only
  refine p_it1 (by decide +kernel) ?_
  unfold mX9_isOrder_35
  show pw (bX9_isOrder_2 (mX9_isOrder_2 69998) _ _ _ _) _
  unfold bX9_isOrder_2
  refine p_it0 (by decide +kernel) ?_
  refine p_it0 (by decide +kernel) ?_
  refine p_bindg (fun Q38 hQ38 => ?_)
  unfold mX9_inOrder
  refine p_dQc (r := 0) (by decide +kernel) ?_
  refine p_dMc (r := 0) (by decide +kernel) ?_
  refine p_it1 (by decide +kernel) ?_
  refine p_it1 (by decide +kernel) ?_
  unfold mX9_inOrder_32
  refine p_it0 (by decide +kernel) ?_
  refine p_it1 (by decide +kernel) ?_
  refine p_rc (r := 1) (by decide +kernel) (hQ38 _ ?_)
  dsimp only
  refine p_it1 (by decide +kernel) ?_
  unfold mX9_isOrder_35
  show pw (bX9_isOrder_2 (mX9_isOrder_2 69997) _ _ _ _) _
  unfold bX9_isOrder_2
  refine p_it0 (by decide +kernel) ?_
  refine p_it1 (by decide +kernel) ?_
  refine p_bindg (fun Q39 hQ39 => ?_)
  unfold mX9_inOrder
  refine p_dQc (r := 0) (by decide +kernel) ?_
  refine p_dMc (r := 0) (by decide +kernel) ?_
  refine p_it1 (by decide +kernel) ?_
  refine p_it1 (by decide +kernel) ?_
  unfold mX9_inOrder_32
  refine p_it0 (by decide +kernel) ?_
  refine p_it0 (by decide +kernel) ?_
  refine p_rc (r := 2) (by decide +kernel) (hQ39 _ ?_)
  dsimp only
  refine p_it1 (by decide +kernel) ?_
  unfold mX9_isOrder_35
  show pw (bX9_isOrder_2 (mX9_isOrder_2 69996) _ _ _ _) _
  unfold bX9_isOrder_2
  refine p_it1 (by decide +kernel) ?_
  refine p_rc (r := 1) (by decide +kernel) (hQ36 _ ?_)
  dsimp only
  refine p_it0 (by decide +kernel) ?_
  refine p_rc (r := 1) (by decide +kernel) (hQ24 _ ?_)
  dsimp only
  refine p_it0 (by decide +kernel) ?_
  refine p_gK ?_
  refine p_bindg (fun Q40 hQ40 => ?_)
  unfold mX9_imageOf
  refine p_gK ?_
  refine p_bindg (fun Q41 hQ41 => ?_)
  unfold mX9_manyFacts
  refine p_gFc (ji := 27) (r := 153) rfl (h27.v (by decide +kernel) (by decide +kernel)) ?_
  refine p_gFc (ji := 8) (r := 134) rfl (h27.v (by decide +kernel) (by decide +kernel)) ?_
  refine p_aGc (r := 0) (h27.v (by decide +kernel) (by decide +kernel)) ?_
  refine p_aGc (r := 0) (h27.v (by decide +kernel) (by decide +kernel)) ?_
  refine p_rc (r := 0) (by decide +kernel) (hQ41 _ ?_)
  dsimp only
  show pw (bX9_imageOf_9 (mX9_imageOf_9 69999) _ _ _ _ _) _
  unfold bX9_imageOf_9
  refine p_gFc (ji := 8) (r := 134) rfl (h27.v (by decide +kernel) (by decide +kernel)) ?_
  refine p_aGc (r := 0) (h27.v (by decide +kernel) (by decide +kernel)) ?_
  refine p_it1 (by decide +kernel) ?_
  refine p_rc (r := 0) (by decide +kernel) (hQ40 _ ?_)
  dsimp only
  refine p_it1 (by decide +kernel) ?_
  unfold mX9_leastImage_34
  unfold mX9_leastImage_39
  unfold mX9_leastImage_40
  have t42 := h27.forget
  refine p_val2 (r := 0) (li_loop (by decide +kernel) (by decide +kernel) (by decide +kernel) (by decide +kernel) _ _ _ t42) (fun M43 t43 => ?_)
  refine p_rc (r := 0) (by decide +kernel) (hQ23 _ ?_)
  dsimp only
  refine p_it1 (by decide +kernel) ?_
  refine p_rc (r := 1) (by decide +kernel) (hQ18 _ ?_)
  dsimp only
  refine p_it0 (by decide +kernel) ?_
  refine p_ifeq_l (r := 0) (by decide +kernel) (fun c44 => ?_) (fun c44 => ?_)
  · skip
    refine p_gK ?_
    refine p_bindg (fun Q45 hQ45 => ?_)
    unfold mX9_takeWorld
    refine p_gK ?_
    refine p_bindg (fun Q46 hQ46 => ?_)
    unfold mX9_manyFacts
    refine p_gFc (ji := 27) (r := 153) rfl (t43.v (by decide +kernel) (by decide +kernel)) ?_
    refine p_gFc (ji := 8) (r := 134) rfl (t43.v (by decide +kernel) (by decide +kernel)) ?_
    refine p_aGc (r := 0) (t43.v (by decide +kernel) (by decide +kernel)) ?_
    refine p_aGc (r := 0) (t43.v (by decide +kernel) (by decide +kernel)) ?_
    refine p_rc (r := 0) (by decide +kernel) (hQ46 _ ?_)
    dsimp only
    show pw (bX9_takeWorld_7 (mX9_takeWorld_7 69999) _ _ _ _ _) _
    unfold bX9_takeWorld_7
    refine p_it1 (by decide +kernel) ?_
    refine p_rc (r := 0) (by decide +kernel) (hQ45 _ ?_)
    dsimp only
    refine p_rc (r := 1) (by decide +kernel) ?_
    show sp_form _ _
    unfold sp_form
    omega
  · skip
    unfold mX9_form_55
    show pw (bX9_form_22 (mX9_form_22 69998) _ _ _ _ _) _
    unfold bX9_form_22
    refine p_gK ?_
    refine p_bindg (fun Q47 hQ47 => ?_)
    unfold mX9_manyFacts
    refine p_gFc (ji := 27) (r := 153) rfl (t43.v (by decide +kernel) (by decide +kernel)) ?_
    refine p_gFc (ji := 8) (r := 134) rfl (t43.v (by decide +kernel) (by decide +kernel)) ?_
    refine p_aGc (r := 0) (t43.v (by decide +kernel) (by decide +kernel)) ?_
    refine p_aGc (r := 0) (t43.v (by decide +kernel) (by decide +kernel)) ?_
    refine p_rc (r := 0) (by decide +kernel) (hQ47 _ ?_)
    dsimp only
    refine p_it1 (by decide +kernel) ?_
    refine p_rc (r := 0) (by decide +kernel) ?_
    show sp_form _ _
    unfold sp_form
    omega
theorem fx9_name {M : Mem} (t0 : TR 162 126 169 [] M) : pw (mX9_name 126 M) (fun q => q.1 = 0) := by
  unfold mX9_name
  refine p_pF (ji := 0) rfl (fun M1 h1 => ?_)
  replace h1 := t0.st (al := 126) (il := 0) (xl := 0) h1 (by decide +kernel) (by decide +kernel) (by decide +kernel)
  refine p_gK ?_
  refine p_bindg (fun Q2 hQ2 => ?_)
  unfold mX9_canTell
  refine p_gK ?_
  refine p_bindg (fun Q3 hQ3 => ?_)
  unfold mX9_bringSizes
  show pw (bX9_bringSizes_2 (mX9_bringSizes_2 69999) _ _ _) _
  unfold bX9_bringSizes_2
  refine p_it0 (by decide +kernel) ?_
  refine p_gFc (ji := 26) (r := 152) rfl (h1.v (by decide +kernel) (by decide +kernel)) ?_
  refine p_gFc (ji := 7) (r := 133) rfl (h1.v (by decide +kernel) (by decide +kernel)) ?_
  refine p_aGc (r := 2) (h1.v (by decide +kernel) (by decide +kernel)) ?_
  refine p_aS (fun M4 h4 => ?_)
  replace h4 := h1.st (al := 152) (il := 0) (xl := 2) h4 (by decide +kernel) (by decide +kernel) (by decide +kernel)
  show pw (bX9_bringSizes_2 (mX9_bringSizes_2 69998) _ _ _) _
  unfold bX9_bringSizes_2
  refine p_it0 (by decide +kernel) ?_
  refine p_gFc (ji := 26) (r := 152) rfl (h4.v (by decide +kernel) (by decide +kernel)) ?_
  refine p_gFc (ji := 7) (r := 133) rfl (h4.v (by decide +kernel) (by decide +kernel)) ?_
  refine p_aGc (r := 2) (h4.v (by decide +kernel) (by decide +kernel)) ?_
  refine p_aS (fun M5 h5 => ?_)
  replace h5 := h4.st (al := 152) (il := 1) (xl := 2) h5 (by decide +kernel) (by decide +kernel) (by decide +kernel)
  show pw (bX9_bringSizes_2 (mX9_bringSizes_2 69997) _ _ _) _
  unfold bX9_bringSizes_2
  refine p_it0 (by decide +kernel) ?_
  refine p_gFc (ji := 26) (r := 152) rfl (h5.v (by decide +kernel) (by decide +kernel)) ?_
  refine p_gFc (ji := 7) (r := 133) rfl (h5.v (by decide +kernel) (by decide +kernel)) ?_
  refine p_aGc (r := 2) (h5.v (by decide +kernel) (by decide +kernel)) ?_
  refine p_aS (fun M6 h6 => ?_)
  replace h6 := h5.st (al := 152) (il := 2) (xl := 2) h6 (by decide +kernel) (by decide +kernel) (by decide +kernel)
  show pw (bX9_bringSizes_2 (mX9_bringSizes_2 69996) _ _ _) _
  unfold bX9_bringSizes_2
  refine p_it1 (by decide +kernel) ?_
  refine p_gK ?_
  refine p_bindg (fun Q7 hQ7 => ?_)
  unfold mX9_findStarts
  refine p_gFc (ji := 27) (r := 153) rfl (h6.v (by decide +kernel) (by decide +kernel)) ?_
  refine p_aS (fun M8 h8 => ?_)
  replace h8 := h6.st (al := 153) (il := 0) (xl := 0) h8 (by decide +kernel) (by decide +kernel) (by decide +kernel)
  show pw (bX9_findStarts_9 (mX9_findStarts_9 69999) _ _ _) _
  unfold bX9_findStarts_9
  refine p_gFc (ji := 8) (r := 134) rfl (h8.v (by decide +kernel) (by decide +kernel)) ?_
  refine p_aGc (r := 0) (h8.v (by decide +kernel) (by decide +kernel)) ?_
  refine p_it1 (by decide +kernel) ?_
  refine p_rc (r := 0) (by decide +kernel) (hQ7 _ ?_)
  dsimp only
  refine p_rc (r := 0) (by decide +kernel) (hQ3 _ ?_)
  dsimp only
  refine p_gK ?_
  refine p_bindg (fun Q9 hQ9 => ?_)
  unfold mX9_manyFacts
  refine p_gFc (ji := 27) (r := 153) rfl (h8.v (by decide +kernel) (by decide +kernel)) ?_
  refine p_gFc (ji := 8) (r := 134) rfl (h8.v (by decide +kernel) (by decide +kernel)) ?_
  refine p_aGc (r := 0) (h8.v (by decide +kernel) (by decide +kernel)) ?_
  refine p_aGc (r := 0) (h8.v (by decide +kernel) (by decide +kernel)) ?_
  refine p_rc (r := 0) (by decide +kernel) (hQ9 _ ?_)
  dsimp only
  refine p_it0 (by decide +kernel) ?_
  refine p_rc (r := 1) (by decide +kernel) (hQ2 _ ?_)
  dsimp only
  refine p_it0 (by decide +kernel) ?_
  refine p_gK ?_
  refine p_bindg (fun Q10 hQ10 => ?_)
  unfold mX9_numberOfWorld
  refine p_gK ?_
  refine p_bindg (fun Q11 hQ11 => ?_)
  unfold mX9_manyFacts
  refine p_gFc (ji := 27) (r := 153) rfl (h8.v (by decide +kernel) (by decide +kernel)) ?_
  refine p_gFc (ji := 8) (r := 134) rfl (h8.v (by decide +kernel) (by decide +kernel)) ?_
  refine p_aGc (r := 0) (h8.v (by decide +kernel) (by decide +kernel)) ?_
  refine p_aGc (r := 0) (h8.v (by decide +kernel) (by decide +kernel)) ?_
  refine p_rc (r := 0) (by decide +kernel) (hQ11 _ ?_)
  dsimp only
  show pw (bX9_numberOfWorld_9 (mX9_numberOfWorld_9 69999) _ _ _ _ _) _
  unfold bX9_numberOfWorld_9
  refine p_it1 (by decide +kernel) ?_
  refine p_rc (r := 0) (by decide +kernel) (hQ10 _ ?_)
  dsimp only
  refine p_gK ?_
  refine p_bindg (fun Q12 hQ12 => ?_)
  unfold mX9_layWorld
  refine p_gK ?_
  refine p_bindg (fun Q13 hQ13 => ?_)
  unfold mX9_manyFacts
  refine p_gFc (ji := 27) (r := 153) rfl (h8.v (by decide +kernel) (by decide +kernel)) ?_
  refine p_gFc (ji := 8) (r := 134) rfl (h8.v (by decide +kernel) (by decide +kernel)) ?_
  refine p_aGc (r := 0) (h8.v (by decide +kernel) (by decide +kernel)) ?_
  refine p_aGc (r := 0) (h8.v (by decide +kernel) (by decide +kernel)) ?_
  refine p_rc (r := 0) (by decide +kernel) (hQ13 _ ?_)
  dsimp only
  show pw (bX9_layWorld_7 (mX9_layWorld_7 69999) _ _ _ _ _) _
  unfold bX9_layWorld_7
  refine p_it1 (by decide +kernel) ?_
  refine p_rc (r := 0) (by decide +kernel) (hQ12 _ ?_)
  dsimp only
  refine p_gK ?_
  refine p_bindg (fun Q14 hQ14 => ?_)
  unfold mX9_leastImage
  show pw (bX9_leastImage_4 (mX9_leastImage_4 69999) _ _ _ _) _
  unfold bX9_leastImage_4
  refine p_it0 (by decide +kernel) ?_
  refine p_gK ?_
  refine p_bindg (fun Q15 hQ15 => ?_)
  unfold mX9_takeOrders
  refine p_gFc (ji := 51) (r := 162) rfl (h8.v (by decide +kernel) (by decide +kernel)) ?_
  refine p_dQc (r := 0) (by decide +kernel) ?_
  refine p_aS (fun M16 h16 => ?_)
  replace h16 := h8.st (al := 162) (il := 0) (xl := 0) h16 (by decide +kernel) (by decide +kernel) (by decide +kernel)
  refine p_gFc (ji := 51) (r := 162) rfl (h16.v (by decide +kernel) (by decide +kernel)) ?_
  refine p_dQc (r := 0) (by decide +kernel) ?_
  refine p_dMc (r := 0) (by decide +kernel) ?_
  refine p_aS (fun M17 h17 => ?_)
  replace h17 := h16.st (al := 162) (il := 1) (xl := 0) h17 (by decide +kernel) (by decide +kernel) (by decide +kernel)
  refine p_gFc (ji := 51) (r := 162) rfl (h17.v (by decide +kernel) (by decide +kernel)) ?_
  refine p_dMc (r := 0) (by decide +kernel) ?_
  refine p_aS (fun M18 h18 => ?_)
  replace h18 := h17.st (al := 162) (il := 2) (xl := 0) h18 (by decide +kernel) (by decide +kernel) (by decide +kernel)
  refine p_gFc (ji := 51) (r := 162) rfl (h18.v (by decide +kernel) (by decide +kernel)) ?_
  refine p_aGc (r := 0) (h18.v (by decide +kernel) (by decide +kernel)) ?_
  refine p_gFc (ji := 26) (r := 152) rfl (h18.v (by decide +kernel) (by decide +kernel)) ?_
  refine p_aGc (r := 2) (h18.v (by decide +kernel) (by decide +kernel)) ?_
  refine p_bindg (fun Q19 hQ19 => ?_)
  unfold mX9_isOrder
  show pw (bX9_isOrder_2 (mX9_isOrder_2 69999) _ _ _ _) _
  unfold bX9_isOrder_2
  refine p_it0 (by decide +kernel) ?_
  refine p_it0 (by decide +kernel) ?_
  refine p_bindg (fun Q20 hQ20 => ?_)
  unfold mX9_inOrder
  refine p_dQc (r := 0) (by decide +kernel) ?_
  refine p_dMc (r := 0) (by decide +kernel) ?_
  refine p_it1 (by decide +kernel) ?_
  refine p_it1 (by decide +kernel) ?_
  unfold mX9_inOrder_32
  refine p_it1 (by decide +kernel) ?_
  refine p_rc (r := 0) (by decide +kernel) (hQ20 _ ?_)
  dsimp only
  refine p_it1 (by decide +kernel) ?_
  unfold mX9_isOrder_35
  show pw (bX9_isOrder_2 (mX9_isOrder_2 69998) _ _ _ _) _
  unfold bX9_isOrder_2
  refine p_it0 (by decide +kernel) ?_
  refine p_it0 (by decide +kernel) ?_
  refine p_bindg (fun Q21 hQ21 => ?_)
  unfold mX9_inOrder
  refine p_dQc (r := 0) (by decide +kernel) ?_
  refine p_dMc (r := 0) (by decide +kernel) ?_
  refine p_it1 (by decide +kernel) ?_
  refine p_it1 (by decide +kernel) ?_
  unfold mX9_inOrder_32
  refine p_it0 (by decide +kernel) ?_
  refine p_it1 (by decide +kernel) ?_
  refine p_rc (r := 1) (by decide +kernel) (hQ21 _ ?_)
  dsimp only
  refine p_it1 (by decide +kernel) ?_
  unfold mX9_isOrder_35
  show pw (bX9_isOrder_2 (mX9_isOrder_2 69997) _ _ _ _) _
  unfold bX9_isOrder_2
  refine p_it0 (by decide +kernel) ?_
  refine p_it1 (by decide +kernel) ?_
  refine p_bindg (fun Q22 hQ22 => ?_)
  unfold mX9_inOrder
  refine p_dQc (r := 0) (by decide +kernel) ?_
  refine p_dMc (r := 0) (by decide +kernel) ?_
  refine p_it1 (by decide +kernel) ?_
  refine p_it1 (by decide +kernel) ?_
  unfold mX9_inOrder_32
  refine p_it0 (by decide +kernel) ?_
  refine p_it0 (by decide +kernel) ?_
  refine p_rc (r := 2) (by decide +kernel) (hQ22 _ ?_)
  dsimp only
  refine p_it1 (by decide +kernel) ?_
  unfold mX9_isOrder_35
  show pw (bX9_isOrder_2 (mX9_isOrder_2 69996) _ _ _ _) _
  unfold bX9_isOrder_2
  refine p_it1 (by decide +kernel) ?_
  refine p_rc (r := 1) (by decide +kernel) (hQ19 _ ?_)
  dsimp only
  refine p_it0 (by decide +kernel) ?_
  refine p_gFc (ji := 51) (r := 162) rfl (h18.v (by decide +kernel) (by decide +kernel)) ?_
  refine p_aGc (r := 0) (h18.v (by decide +kernel) (by decide +kernel)) ?_
  refine p_gFc (ji := 26) (r := 152) rfl (h18.v (by decide +kernel) (by decide +kernel)) ?_
  refine p_aGc (r := 2) (h18.v (by decide +kernel) (by decide +kernel)) ?_
  refine p_bindg (fun Q23 hQ23 => ?_)
  unfold mX9_isOrder
  show pw (bX9_isOrder_2 (mX9_isOrder_2 69999) _ _ _ _) _
  unfold bX9_isOrder_2
  refine p_it0 (by decide +kernel) ?_
  refine p_it0 (by decide +kernel) ?_
  refine p_bindg (fun Q24 hQ24 => ?_)
  unfold mX9_inOrder
  refine p_dQc (r := 0) (by decide +kernel) ?_
  refine p_dMc (r := 0) (by decide +kernel) ?_
  refine p_it1 (by decide +kernel) ?_
  refine p_it1 (by decide +kernel) ?_
  unfold mX9_inOrder_32
  refine p_it1 (by decide +kernel) ?_
  refine p_rc (r := 0) (by decide +kernel) (hQ24 _ ?_)
  dsimp only
  refine p_it1 (by decide +kernel) ?_
  unfold mX9_isOrder_35
  show pw (bX9_isOrder_2 (mX9_isOrder_2 69998) _ _ _ _) _
  unfold bX9_isOrder_2
  refine p_it0 (by decide +kernel) ?_
  refine p_it0 (by decide +kernel) ?_
  refine p_bindg (fun Q25 hQ25 => ?_)
  unfold mX9_inOrder
  refine p_dQc (r := 0) (by decide +kernel) ?_
  refine p_dMc (r := 0) (by decide +kernel) ?_
  refine p_it1 (by decide +kernel) ?_
  refine p_it1 (by decide +kernel) ?_
  unfold mX9_inOrder_32
  refine p_it0 (by decide +kernel) ?_
  refine p_it1 (by decide +kernel) ?_
  refine p_rc (r := 1) (by decide +kernel) (hQ25 _ ?_)
  dsimp only
  refine p_it1 (by decide +kernel) ?_
  unfold mX9_isOrder_35
  show pw (bX9_isOrder_2 (mX9_isOrder_2 69997) _ _ _ _) _
  unfold bX9_isOrder_2
  refine p_it0 (by decide +kernel) ?_
  refine p_it1 (by decide +kernel) ?_
  refine p_bindg (fun Q26 hQ26 => ?_)
  unfold mX9_inOrder
  refine p_dQc (r := 0) (by decide +kernel) ?_
  refine p_dMc (r := 0) (by decide +kernel) ?_
  refine p_it1 (by decide +kernel) ?_
  refine p_it1 (by decide +kernel) ?_
  unfold mX9_inOrder_32
  refine p_it0 (by decide +kernel) ?_
  refine p_it0 (by decide +kernel) ?_
  refine p_rc (r := 2) (by decide +kernel) (hQ26 _ ?_)
  dsimp only
  refine p_it1 (by decide +kernel) ?_
  unfold mX9_isOrder_35
  show pw (bX9_isOrder_2 (mX9_isOrder_2 69996) _ _ _ _) _
  unfold bX9_isOrder_2
  refine p_it1 (by decide +kernel) ?_
  refine p_rc (r := 1) (by decide +kernel) (hQ23 _ ?_)
  dsimp only
  refine p_it0 (by decide +kernel) ?_
  refine p_gFc (ji := 51) (r := 162) rfl (h18.v (by decide +kernel) (by decide +kernel)) ?_
  refine p_aGc (r := 0) (h18.v (by decide +kernel) (by decide +kernel)) ?_
  refine p_gFc (ji := 26) (r := 152) rfl (h18.v (by decide +kernel) (by decide +kernel)) ?_
  refine p_aGc (r := 2) (h18.v (by decide +kernel) (by decide +kernel)) ?_
  refine p_bindg (fun Q27 hQ27 => ?_)
  unfold mX9_isOrder
  show pw (bX9_isOrder_2 (mX9_isOrder_2 69999) _ _ _ _) _
  unfold bX9_isOrder_2
  refine p_it0 (by decide +kernel) ?_
  refine p_it0 (by decide +kernel) ?_
  refine p_bindg (fun Q28 hQ28 => ?_)
  unfold mX9_inOrder
  refine p_dQc (r := 0) (by decide +kernel) ?_
  refine p_dMc (r := 0) (by decide +kernel) ?_
  refine p_it1 (by decide +kernel) ?_
  refine p_it1 (by decide +kernel) ?_
  unfold mX9_inOrder_32
  refine p_it1 (by decide +kernel) ?_
  refine p_rc (r := 0) (by decide +kernel) (hQ28 _ ?_)
  dsimp only
  refine p_it1 (by decide +kernel) ?_
  unfold mX9_isOrder_35
  show pw (bX9_isOrder_2 (mX9_isOrder_2 69998) _ _ _ _) _
  unfold bX9_isOrder_2
  refine p_it0 (by decide +kernel) ?_
  refine p_it0 (by decide +kernel) ?_
  refine p_bindg (fun Q29 hQ29 => ?_)
  unfold mX9_inOrder
  refine p_dQc (r := 0) (by decide +kernel) ?_
  refine p_dMc (r := 0) (by decide +kernel) ?_
  refine p_it1 (by decide +kernel) ?_
  refine p_it1 (by decide +kernel) ?_
  unfold mX9_inOrder_32
  refine p_it0 (by decide +kernel) ?_
  refine p_it1 (by decide +kernel) ?_
  refine p_rc (r := 1) (by decide +kernel) (hQ29 _ ?_)
  dsimp only
  refine p_it1 (by decide +kernel) ?_
  unfold mX9_isOrder_35
  show pw (bX9_isOrder_2 (mX9_isOrder_2 69997) _ _ _ _) _
  unfold bX9_isOrder_2
  refine p_it0 (by decide +kernel) ?_
  refine p_it1 (by decide +kernel) ?_
  refine p_bindg (fun Q30 hQ30 => ?_)
  unfold mX9_inOrder
  refine p_dQc (r := 0) (by decide +kernel) ?_
  refine p_dMc (r := 0) (by decide +kernel) ?_
  refine p_it1 (by decide +kernel) ?_
  refine p_it1 (by decide +kernel) ?_
  unfold mX9_inOrder_32
  refine p_it0 (by decide +kernel) ?_
  refine p_it0 (by decide +kernel) ?_
  refine p_rc (r := 2) (by decide +kernel) (hQ30 _ ?_)
  dsimp only
  refine p_it1 (by decide +kernel) ?_
  unfold mX9_isOrder_35
  show pw (bX9_isOrder_2 (mX9_isOrder_2 69996) _ _ _ _) _
  unfold bX9_isOrder_2
  refine p_it1 (by decide +kernel) ?_
  refine p_rc (r := 1) (by decide +kernel) (hQ27 _ ?_)
  dsimp only
  refine p_it0 (by decide +kernel) ?_
  refine p_rc (r := 1) (by decide +kernel) (hQ15 _ ?_)
  dsimp only
  refine p_it0 (by decide +kernel) ?_
  refine p_gK ?_
  refine p_bindg (fun Q31 hQ31 => ?_)
  unfold mX9_imageOf
  refine p_gK ?_
  refine p_bindg (fun Q32 hQ32 => ?_)
  unfold mX9_manyFacts
  refine p_gFc (ji := 27) (r := 153) rfl (h18.v (by decide +kernel) (by decide +kernel)) ?_
  refine p_gFc (ji := 8) (r := 134) rfl (h18.v (by decide +kernel) (by decide +kernel)) ?_
  refine p_aGc (r := 0) (h18.v (by decide +kernel) (by decide +kernel)) ?_
  refine p_aGc (r := 0) (h18.v (by decide +kernel) (by decide +kernel)) ?_
  refine p_rc (r := 0) (by decide +kernel) (hQ32 _ ?_)
  dsimp only
  show pw (bX9_imageOf_9 (mX9_imageOf_9 69999) _ _ _ _ _) _
  unfold bX9_imageOf_9
  refine p_gFc (ji := 8) (r := 134) rfl (h18.v (by decide +kernel) (by decide +kernel)) ?_
  refine p_aGc (r := 0) (h18.v (by decide +kernel) (by decide +kernel)) ?_
  refine p_it1 (by decide +kernel) ?_
  refine p_rc (r := 0) (by decide +kernel) (hQ31 _ ?_)
  dsimp only
  refine p_it1 (by decide +kernel) ?_
  unfold mX9_leastImage_34
  unfold mX9_leastImage_39
  unfold mX9_leastImage_40
  have t33 := h18.forget
  refine p_val2 (r := 0) (li_loop (by decide +kernel) (by decide +kernel) (by decide +kernel) (by decide +kernel) _ _ _ t33) (fun M34 t34 => ?_)
  refine p_rc (r := 0) (by decide +kernel) (hQ14 _ ?_)
  dsimp only
  refine p_gK ?_
  refine p_bindg (fun Q35 hQ35 => ?_)
  unfold mX9_takeWorld
  refine p_gK ?_
  refine p_bindg (fun Q36 hQ36 => ?_)
  unfold mX9_manyFacts
  refine p_gFc (ji := 27) (r := 153) rfl (t34.v (by decide +kernel) (by decide +kernel)) ?_
  refine p_gFc (ji := 8) (r := 134) rfl (t34.v (by decide +kernel) (by decide +kernel)) ?_
  refine p_aGc (r := 0) (t34.v (by decide +kernel) (by decide +kernel)) ?_
  refine p_aGc (r := 0) (t34.v (by decide +kernel) (by decide +kernel)) ?_
  refine p_rc (r := 0) (by decide +kernel) (hQ36 _ ?_)
  dsimp only
  show pw (bX9_takeWorld_7 (mX9_takeWorld_7 69999) _ _ _ _ _) _
  unfold bX9_takeWorld_7
  refine p_it1 (by decide +kernel) ?_
  refine p_rc (r := 0) (by decide +kernel) (hQ35 _ ?_)
  dsimp only
  refine p_it1 (by decide +kernel) ?_
  exact p_rc (r := 0) (by decide +kernel) rfl
theorem fx9_least {l1 : Int} {M : Mem} (t0 : TR 162 126 169 [] M) (r_l1 : (-2147483648) ≤ l1 ∧ l1 ≤ 2147483647) : pw (mX9_least 126 l1 M) (fun q => sp_least l1 q.1) := by
  unfold mX9_least
  refine p_pF (ji := 0) rfl (fun M1 h1 => ?_)
  replace h1 := t0.st (al := 126) (il := 0) (xl := 0) h1 (by decide +kernel) (by decide +kernel) (by decide +kernel)
  refine p_bindg (fun Q2 hQ2 => ?_)
  unfold mX9_in
  refine p_iflt_r (r := 0) (by decide +kernel) (fun c3 => ?_) (fun c3 => ?_)
  · skip
    refine p_rc (r := 0) (by decide +kernel) (hQ2 _ ?_)
    dsimp only
    refine p_it1 (by decide +kernel) ?_
    refine p_rc (r := (-1)) (by decide +kernel) ?_
    show sp_least _ _
    unfold sp_least
    omega
  · skip
    refine p_iflt_l (r := 2) (by decide +kernel) (fun c4 => ?_) (fun c4 => ?_)
    · skip
      refine p_rc (r := 0) (by decide +kernel) (hQ2 _ ?_)
      dsimp only
      refine p_it1 (by decide +kernel) ?_
      refine p_rc (r := (-1)) (by decide +kernel) ?_
      show sp_least _ _
      unfold sp_least
      omega
    · skip
      refine p_rc (r := 1) (by decide +kernel) (hQ2 _ ?_)
      dsimp only
      refine p_it0 (by decide +kernel) ?_
      refine p_gK ?_
      refine p_bindg (fun Q5 hQ5 => ?_)
      unfold mX9_findLeast
      refine p_gK ?_
      refine p_bindg (fun Q6 hQ6 => ?_)
      unfold mX9_told
      refine p_gFc (ji := 6) (r := 132) rfl (h1.v (by decide +kernel) (by decide +kernel)) ?_
      refine p_aGc (r := (-1)) (h1.v (by decide +kernel) (by decide +kernel)) ?_
      refine p_it1 (by decide +kernel) ?_
      refine p_gFc (ji := 5) (r := 131) rfl (h1.v (by decide +kernel) (by decide +kernel)) ?_
      refine p_aGc (r := 0) (h1.v (by decide +kernel) (by decide +kernel)) ?_
      unfold mX9_told_25
      show pw (bX9_told_30 (mX9_told_30 69999) _ _ _ _ _) _
      unfold bX9_told_30
      refine p_gFc (ji := 12) (r := 138) rfl (h1.v (by decide +kernel) (by decide +kernel)) ?_
      refine p_aGc (r := 0) (h1.v (by decide +kernel) (by decide +kernel)) ?_
      refine p_it1 (by decide +kernel) ?_
      refine p_rc (r := 0) (by decide +kernel) (hQ6 _ ?_)
      dsimp only
      refine p_pF (ji := 48) rfl (fun M7 h7 => ?_)
      replace h7 := h1.st (al := 126) (il := 48) (xl := 0) h7 (by decide +kernel) (by decide +kernel) (by decide +kernel)
      refine p_pF (ji := 49) rfl (fun M8 h8 => ?_)
      replace h8 := h7.st (al := 126) (il := 49) (xl := 0) h8 (by decide +kernel) (by decide +kernel) (by decide +kernel)
      refine p_pF (ji := 50) rfl (fun M9 h9 => ?_)
      replace h9 := h8.st (al := 126) (il := 50) (xl := 0) h9 (by decide +kernel) (by decide +kernel) (by decide +kernel)
      show pw (bX9_findLeast_20 (mX9_findLeast_20 69999) _ _ _) _
      unfold bX9_findLeast_20
      refine p_it0 (by decide +kernel) ?_
      show pw (bX9_findLeast_28 _ (mX9_findLeast_28 _ 69999) _ _ _ _) _
      unfold bX9_findLeast_28
      refine p_it0 (by decide +kernel) ?_
      show pw (bX9_findLeast_35 _ _ (mX9_findLeast_35 _ _ 69999) _ _ _ _ _) _
      unfold bX9_findLeast_35
      refine p_it0 (by decide +kernel) ?_
      refine p_gFc (ji := 26) (r := 152) rfl (h9.v (by decide +kernel) (by decide +kernel)) ?_
      refine p_aS (fun M10 h10 => ?_)
      replace h10 := h9.st (al := 152) (il := 0) (xl := 1) h10 (by decide +kernel) (by decide +kernel) (by decide +kernel)
      refine p_gFc (ji := 26) (r := 152) rfl (h10.v (by decide +kernel) (by decide +kernel)) ?_
      refine p_aS (fun M11 h11 => ?_)
      replace h11 := h10.st (al := 152) (il := 1) (xl := 1) h11 (by decide +kernel) (by decide +kernel) (by decide +kernel)
      refine p_gFc (ji := 26) (r := 152) rfl (h11.v (by decide +kernel) (by decide +kernel)) ?_
      refine p_aS (fun M12 h12 => ?_)
      replace h12 := h11.st (al := 152) (il := 2) (xl := 1) h12 (by decide +kernel) (by decide +kernel) (by decide +kernel)
      refine p_gFc (ji := 26) (r := 152) rfl (h12.v (by decide +kernel) (by decide +kernel)) ?_
      refine p_aGc (r := 1) (h12.v (by decide +kernel) (by decide +kernel)) ?_
      refine p_bindg (fun Q13 hQ13 => ?_)
      unfold mX9_in
      refine p_it0 (by decide +kernel) ?_
      refine p_it0 (by decide +kernel) ?_
      refine p_rc (r := 1) (by decide +kernel) (hQ13 _ ?_)
      dsimp only
      refine p_it0 (by decide +kernel) ?_
      refine p_gK ?_
      refine p_bindg (fun Q14 hQ14 => ?_)
      unfold mX9_findStarts
      refine p_gFc (ji := 27) (r := 153) rfl (h12.v (by decide +kernel) (by decide +kernel)) ?_
      refine p_aS (fun M15 h15 => ?_)
      replace h15 := h12.st (al := 153) (il := 0) (xl := 0) h15 (by decide +kernel) (by decide +kernel) (by decide +kernel)
      show pw (bX9_findStarts_9 (mX9_findStarts_9 69999) _ _ _) _
      unfold bX9_findStarts_9
      refine p_gFc (ji := 8) (r := 134) rfl (h15.v (by decide +kernel) (by decide +kernel)) ?_
      refine p_aGc (r := 0) (h15.v (by decide +kernel) (by decide +kernel)) ?_
      refine p_it1 (by decide +kernel) ?_
      refine p_rc (r := 0) (by decide +kernel) (hQ14 _ ?_)
      dsimp only
      show pw (bX9_findLeast_89 _ _ _ (mX9_findLeast_89 _ _ _ 69999) _ _ _ _ _ _) _
      unfold bX9_findLeast_89
      refine p_gK ?_
      refine p_bindg (fun Q16 hQ16 => ?_)
      unfold mX9_manyFacts
      refine p_gFc (ji := 27) (r := 153) rfl (h15.v (by decide +kernel) (by decide +kernel)) ?_
      refine p_gFc (ji := 8) (r := 134) rfl (h15.v (by decide +kernel) (by decide +kernel)) ?_
      refine p_aGc (r := 0) (h15.v (by decide +kernel) (by decide +kernel)) ?_
      refine p_aGc (r := 0) (h15.v (by decide +kernel) (by decide +kernel)) ?_
      refine p_rc (r := 0) (by decide +kernel) (hQ16 _ ?_)
      dsimp only
      refine p_it0 (by decide +kernel) ?_
      refine p_gK ?_
      refine p_bindg (fun Q17 hQ17 => ?_)
      unfold mX9_manyFacts
      refine p_gFc (ji := 27) (r := 153) rfl (h15.v (by decide +kernel) (by decide +kernel)) ?_
      refine p_gFc (ji := 8) (r := 134) rfl (h15.v (by decide +kernel) (by decide +kernel)) ?_
      refine p_aGc (r := 0) (h15.v (by decide +kernel) (by decide +kernel)) ?_
      refine p_aGc (r := 0) (h15.v (by decide +kernel) (by decide +kernel)) ?_
      refine p_rc (r := 0) (by decide +kernel) (hQ17 _ ?_)
      dsimp only
      refine p_it0 (by decide +kernel) ?_
      refine p_gK ?_
      refine p_bindg (fun Q18 hQ18 => ?_)
      unfold mX9_isWorld
      refine p_gK ?_
      refine p_bindg (fun Q19 hQ19 => ?_)
      unfold mX9_isAsKnown
      refine p_gFc (ji := 49) (r := 0) rfl (h15.v (by decide +kernel) (by decide +kernel)) ?_
      refine p_gFc (ji := 50) (r := 0) rfl (h15.v (by decide +kernel) (by decide +kernel)) ?_
      refine p_it1 (by decide +kernel) ?_
      refine p_rc (r := 1) (by decide +kernel) (hQ19 _ ?_)
      dsimp only
      refine p_it0 (by decide +kernel) ?_
      refine p_gK ?_
      refine p_bindg (fun Q20 hQ20 => ?_)
      unfold mX9_layWorld
      refine p_gK ?_
      refine p_bindg (fun Q21 hQ21 => ?_)
      unfold mX9_manyFacts
      refine p_gFc (ji := 27) (r := 153) rfl (h15.v (by decide +kernel) (by decide +kernel)) ?_
      refine p_gFc (ji := 8) (r := 134) rfl (h15.v (by decide +kernel) (by decide +kernel)) ?_
      refine p_aGc (r := 0) (h15.v (by decide +kernel) (by decide +kernel)) ?_
      refine p_aGc (r := 0) (h15.v (by decide +kernel) (by decide +kernel)) ?_
      refine p_rc (r := 0) (by decide +kernel) (hQ21 _ ?_)
      dsimp only
      show pw (bX9_layWorld_7 (mX9_layWorld_7 69999) _ _ _ _ _) _
      unfold bX9_layWorld_7
      refine p_it1 (by decide +kernel) ?_
      refine p_rc (r := 0) (by decide +kernel) (hQ20 _ ?_)
      dsimp only
      show pw (bX9_isWorld_17 (mX9_isWorld_17 69999) _ _ _) _
      unfold bX9_isWorld_17
      refine p_gFc (ji := 12) (r := 138) rfl (h15.v (by decide +kernel) (by decide +kernel)) ?_
      refine p_aGc (r := 0) (h15.v (by decide +kernel) (by decide +kernel)) ?_
      refine p_it1 (by decide +kernel) ?_
      refine p_rc (r := 1) (by decide +kernel) (hQ18 _ ?_)
      dsimp only
      refine p_it0 (by decide +kernel) ?_
      refine p_pF (ji := 52) rfl (fun M22 h22 => ?_)
      replace h22 := h15.st (al := 126) (il := 52) (xl := 1) h22 (by decide +kernel) (by decide +kernel) (by decide +kernel)
      refine p_pF (ji := 53) rfl (fun M23 h23 => ?_)
      replace h23 := h22.st (al := 126) (il := 53) (xl := 1) h23 (by decide +kernel) (by decide +kernel) (by decide +kernel)
      refine p_pF (ji := 54) rfl (fun M24 h24 => ?_)
      replace h24 := h23.st (al := 126) (il := 54) (xl := 1) h24 (by decide +kernel) (by decide +kernel) (by decide +kernel)
      refine p_rc (r := 1) (by decide +kernel) (hQ5 _ ?_)
      dsimp only
      refine p_it0 (by decide +kernel) ?_
      refine p_ifeq_r (r := 0) (by decide +kernel) (fun c25 => ?_) (fun c25 => ?_)
      · skip
        refine p_gFc (ji := 52) (r := 1) rfl (h24.v (by decide +kernel) (by decide +kernel)) ?_
        refine p_rc (r := 1) (by decide +kernel) ?_
        show sp_least _ _
        unfold sp_least
        omega
      · skip
        refine p_ifeq_r (r := 1) (by decide +kernel) (fun c26 => ?_) (fun c26 => ?_)
        · skip
          refine p_gFc (ji := 53) (r := 1) rfl (h24.v (by decide +kernel) (by decide +kernel)) ?_
          refine p_rc (r := 1) (by decide +kernel) ?_
          show sp_least _ _
          unfold sp_least
          omega
        · skip
          refine p_gFc (ji := 54) (r := 1) rfl (h24.v (by decide +kernel) (by decide +kernel)) ?_
          refine p_rc (r := 1) (by decide +kernel) ?_
          show sp_least _ _
          unfold sp_least
          omega
theorem fx9_core {l1 : Int} {M : Mem} (t0 : TR 162 126 169 [] M) (r_l1 : (-2147483648) ≤ l1 ∧ l1 ≤ 2147483647) : pw (mX9_core 126 l1 M) (fun q => q.1 = (-1)) := by
  unfold mX9_core
  refine p_pF (ji := 0) rfl (fun M1 h1 => ?_)
  replace h1 := t0.st (al := 126) (il := 0) (xl := 0) h1 (by decide +kernel) (by decide +kernel) (by decide +kernel)
  refine p_gK ?_
  refine p_bindg (fun Q2 hQ2 => ?_)
  unfold mX9_canTell
  refine p_gK ?_
  refine p_bindg (fun Q3 hQ3 => ?_)
  unfold mX9_bringSizes
  show pw (bX9_bringSizes_2 (mX9_bringSizes_2 69999) _ _ _) _
  unfold bX9_bringSizes_2
  refine p_it0 (by decide +kernel) ?_
  refine p_gFc (ji := 26) (r := 152) rfl (h1.v (by decide +kernel) (by decide +kernel)) ?_
  refine p_gFc (ji := 7) (r := 133) rfl (h1.v (by decide +kernel) (by decide +kernel)) ?_
  refine p_aGc (r := 2) (h1.v (by decide +kernel) (by decide +kernel)) ?_
  refine p_aS (fun M4 h4 => ?_)
  replace h4 := h1.st (al := 152) (il := 0) (xl := 2) h4 (by decide +kernel) (by decide +kernel) (by decide +kernel)
  show pw (bX9_bringSizes_2 (mX9_bringSizes_2 69998) _ _ _) _
  unfold bX9_bringSizes_2
  refine p_it0 (by decide +kernel) ?_
  refine p_gFc (ji := 26) (r := 152) rfl (h4.v (by decide +kernel) (by decide +kernel)) ?_
  refine p_gFc (ji := 7) (r := 133) rfl (h4.v (by decide +kernel) (by decide +kernel)) ?_
  refine p_aGc (r := 2) (h4.v (by decide +kernel) (by decide +kernel)) ?_
  refine p_aS (fun M5 h5 => ?_)
  replace h5 := h4.st (al := 152) (il := 1) (xl := 2) h5 (by decide +kernel) (by decide +kernel) (by decide +kernel)
  show pw (bX9_bringSizes_2 (mX9_bringSizes_2 69997) _ _ _) _
  unfold bX9_bringSizes_2
  refine p_it0 (by decide +kernel) ?_
  refine p_gFc (ji := 26) (r := 152) rfl (h5.v (by decide +kernel) (by decide +kernel)) ?_
  refine p_gFc (ji := 7) (r := 133) rfl (h5.v (by decide +kernel) (by decide +kernel)) ?_
  refine p_aGc (r := 2) (h5.v (by decide +kernel) (by decide +kernel)) ?_
  refine p_aS (fun M6 h6 => ?_)
  replace h6 := h5.st (al := 152) (il := 2) (xl := 2) h6 (by decide +kernel) (by decide +kernel) (by decide +kernel)
  show pw (bX9_bringSizes_2 (mX9_bringSizes_2 69996) _ _ _) _
  unfold bX9_bringSizes_2
  refine p_it1 (by decide +kernel) ?_
  refine p_gK ?_
  refine p_bindg (fun Q7 hQ7 => ?_)
  unfold mX9_findStarts
  refine p_gFc (ji := 27) (r := 153) rfl (h6.v (by decide +kernel) (by decide +kernel)) ?_
  refine p_aS (fun M8 h8 => ?_)
  replace h8 := h6.st (al := 153) (il := 0) (xl := 0) h8 (by decide +kernel) (by decide +kernel) (by decide +kernel)
  show pw (bX9_findStarts_9 (mX9_findStarts_9 69999) _ _ _) _
  unfold bX9_findStarts_9
  refine p_gFc (ji := 8) (r := 134) rfl (h8.v (by decide +kernel) (by decide +kernel)) ?_
  refine p_aGc (r := 0) (h8.v (by decide +kernel) (by decide +kernel)) ?_
  refine p_it1 (by decide +kernel) ?_
  refine p_rc (r := 0) (by decide +kernel) (hQ7 _ ?_)
  dsimp only
  refine p_rc (r := 0) (by decide +kernel) (hQ3 _ ?_)
  dsimp only
  refine p_gK ?_
  refine p_bindg (fun Q9 hQ9 => ?_)
  unfold mX9_manyFacts
  refine p_gFc (ji := 27) (r := 153) rfl (h8.v (by decide +kernel) (by decide +kernel)) ?_
  refine p_gFc (ji := 8) (r := 134) rfl (h8.v (by decide +kernel) (by decide +kernel)) ?_
  refine p_aGc (r := 0) (h8.v (by decide +kernel) (by decide +kernel)) ?_
  refine p_aGc (r := 0) (h8.v (by decide +kernel) (by decide +kernel)) ?_
  refine p_rc (r := 0) (by decide +kernel) (hQ9 _ ?_)
  dsimp only
  refine p_it0 (by decide +kernel) ?_
  refine p_rc (r := 1) (by decide +kernel) (hQ2 _ ?_)
  dsimp only
  refine p_it0 (by decide +kernel) ?_
  refine p_gK ?_
  refine p_bindg (fun Q10 hQ10 => ?_)
  unfold mX9_findTogether
  refine p_gK ?_
  refine p_bindg (fun Q11 hQ11 => ?_)
  unfold mX9_told
  refine p_gFc (ji := 6) (r := 132) rfl (h8.v (by decide +kernel) (by decide +kernel)) ?_
  refine p_aGc (r := (-1)) (h8.v (by decide +kernel) (by decide +kernel)) ?_
  refine p_it1 (by decide +kernel) ?_
  refine p_gFc (ji := 5) (r := 131) rfl (h8.v (by decide +kernel) (by decide +kernel)) ?_
  refine p_aGc (r := 0) (h8.v (by decide +kernel) (by decide +kernel)) ?_
  unfold mX9_told_25
  show pw (bX9_told_30 (mX9_told_30 69999) _ _ _ _ _) _
  unfold bX9_told_30
  refine p_gFc (ji := 12) (r := 138) rfl (h8.v (by decide +kernel) (by decide +kernel)) ?_
  refine p_aGc (r := 0) (h8.v (by decide +kernel) (by decide +kernel)) ?_
  refine p_it1 (by decide +kernel) ?_
  refine p_rc (r := 0) (by decide +kernel) (hQ11 _ ?_)
  dsimp only
  refine ft_clear (by decide +kernel) (by decide +kernel) _ _ _ h8 (by decide) (fun M12 t12 => ?_)
  refine p_gK ?_
  refine p_bindg (fun Q13 hQ13 => ?_)
  unfold mX9_findKnown
  refine p_gFc (ji := 6) (r := 132) rfl (t12.v (by decide +kernel) (by decide +kernel)) ?_
  refine p_aGc (r := (-1)) (t12.v (by decide +kernel) (by decide +kernel)) ?_
  refine p_it1 (by decide +kernel) ?_
  refine p_gFc (ji := 5) (r := 131) rfl (t12.v (by decide +kernel) (by decide +kernel)) ?_
  refine p_aGc (r := 0) (t12.v (by decide +kernel) (by decide +kernel)) ?_
  unfold mX9_findKnown_25
  refine p_gK ?_
  refine p_bindg (fun Q14 hQ14 => ?_)
  unfold mX9_manyFacts
  refine p_gFc (ji := 27) (r := 153) rfl (t12.v (by decide +kernel) (by decide +kernel)) ?_
  refine p_gFc (ji := 8) (r := 134) rfl (t12.v (by decide +kernel) (by decide +kernel)) ?_
  refine p_aGc (r := 0) (t12.v (by decide +kernel) (by decide +kernel)) ?_
  refine p_aGc (r := 0) (t12.v (by decide +kernel) (by decide +kernel)) ?_
  refine p_rc (r := 0) (by decide +kernel) (hQ14 _ ?_)
  dsimp only
  refine p_pF (ji := 49) rfl (fun M15 h15 => ?_)
  replace h15 := t12.st (al := 126) (il := 49) (xl := 0) h15 (by decide +kernel) (by decide +kernel) (by decide +kernel)
  refine p_pF (ji := 50) rfl (fun M16 h16 => ?_)
  replace h16 := h15.st (al := 126) (il := 50) (xl := 0) h16 (by decide +kernel) (by decide +kernel) (by decide +kernel)
  show pw (bX9_findKnown_43 (mX9_findKnown_43 69999) _ _ _ _ _) _
  unfold bX9_findKnown_43
  refine p_gFc (ji := 20) (r := 146) rfl (h16.v (by decide +kernel) (by decide +kernel)) ?_
  refine p_aGc (r := 0) (h16.v (by decide +kernel) (by decide +kernel)) ?_
  refine p_it1 (by decide +kernel) ?_
  refine p_rc (r := 0) (by decide +kernel) (hQ13 _ ?_)
  dsimp only
  show pw (bX9_findTogether_37 (mX9_findTogether_37 69999) _ _ _ _ _ _) _
  unfold bX9_findTogether_37
  refine p_gK ?_
  refine p_bindg (fun Q17 hQ17 => ?_)
  unfold mX9_manyFacts
  refine p_gFc (ji := 27) (r := 153) rfl (h16.v (by decide +kernel) (by decide +kernel)) ?_
  refine p_gFc (ji := 8) (r := 134) rfl (h16.v (by decide +kernel) (by decide +kernel)) ?_
  refine p_aGc (r := 0) (h16.v (by decide +kernel) (by decide +kernel)) ?_
  refine p_aGc (r := 0) (h16.v (by decide +kernel) (by decide +kernel)) ?_
  refine p_rc (r := 0) (by decide +kernel) (hQ17 _ ?_)
  dsimp only
  refine p_it0 (by decide +kernel) ?_
  refine p_gK ?_
  refine p_bindg (fun Q18 hQ18 => ?_)
  unfold mX9_layWorld
  refine p_gK ?_
  refine p_bindg (fun Q19 hQ19 => ?_)
  unfold mX9_manyFacts
  refine p_gFc (ji := 27) (r := 153) rfl (h16.v (by decide +kernel) (by decide +kernel)) ?_
  refine p_gFc (ji := 8) (r := 134) rfl (h16.v (by decide +kernel) (by decide +kernel)) ?_
  refine p_aGc (r := 0) (h16.v (by decide +kernel) (by decide +kernel)) ?_
  refine p_aGc (r := 0) (h16.v (by decide +kernel) (by decide +kernel)) ?_
  refine p_rc (r := 0) (by decide +kernel) (hQ19 _ ?_)
  dsimp only
  show pw (bX9_layWorld_7 (mX9_layWorld_7 69999) _ _ _ _ _) _
  unfold bX9_layWorld_7
  refine p_it1 (by decide +kernel) ?_
  refine p_rc (r := 0) (by decide +kernel) (hQ18 _ ?_)
  dsimp only
  refine p_gK ?_
  refine p_bindg (fun Q20 hQ20 => ?_)
  unfold mX9_isAsKnown
  refine p_gFc (ji := 49) (r := 0) rfl (h16.v (by decide +kernel) (by decide +kernel)) ?_
  refine p_gFc (ji := 50) (r := 0) rfl (h16.v (by decide +kernel) (by decide +kernel)) ?_
  refine p_it1 (by decide +kernel) ?_
  refine p_rc (r := 1) (by decide +kernel) (hQ20 _ ?_)
  dsimp only
  refine p_it0 (by decide +kernel) ?_
  refine p_it1 (by decide +kernel) ?_
  unfold mX9_findTogether_81
  show pw (bX9_findTogether_87 _ (mX9_findTogether_87 _ 69999) _ _ _ _ _ _ _ _) _
  unfold bX9_findTogether_87
  refine p_gFc (ji := 12) (r := 138) rfl (h16.v (by decide +kernel) (by decide +kernel)) ?_
  refine p_aGc (r := 0) (h16.v (by decide +kernel) (by decide +kernel)) ?_
  refine p_it1 (by decide +kernel) ?_
  refine p_gFc (ji := 55) (r := 163) rfl (h16.v (by decide +kernel) (by decide +kernel)) ?_
  refine p_aSZ (fun M21 h21 => ?_)
  replace h21 := h16.st (al := 163) (il := 0) (xl := 1) h21 (by decide +kernel) (by decide +kernel) (by decide +kernel)
  unfold mX9_findTogether_143
  show pw (bX9_findTogether_37 (mX9_findTogether_37 69998) _ _ _ _ _ _) _
  unfold bX9_findTogether_37
  refine p_gK ?_
  refine p_bindg (fun Q22 hQ22 => ?_)
  unfold mX9_manyFacts
  refine p_gFc (ji := 27) (r := 153) rfl (h21.v (by decide +kernel) (by decide +kernel)) ?_
  refine p_gFc (ji := 8) (r := 134) rfl (h21.v (by decide +kernel) (by decide +kernel)) ?_
  refine p_aGc (r := 0) (h21.v (by decide +kernel) (by decide +kernel)) ?_
  refine p_aGc (r := 0) (h21.v (by decide +kernel) (by decide +kernel)) ?_
  refine p_rc (r := 0) (by decide +kernel) (hQ22 _ ?_)
  dsimp only
  refine p_it1 (by decide +kernel) ?_
  refine p_rc (r := 0) (by decide +kernel) (hQ10 _ ?_)
  dsimp only
  refine p_gK ?_
  refine p_bindg (fun Q23 hQ23 => ?_)
  unfold mX9_fewestApart
  refine p_gK ?_
  refine p_bindg (fun Q24 hQ24 => ?_)
  unfold mX9_told
  refine p_gFc (ji := 6) (r := 132) rfl (h21.v (by decide +kernel) (by decide +kernel)) ?_
  refine p_aGc (r := (-1)) (h21.v (by decide +kernel) (by decide +kernel)) ?_
  refine p_it1 (by decide +kernel) ?_
  refine p_gFc (ji := 5) (r := 131) rfl (h21.v (by decide +kernel) (by decide +kernel)) ?_
  refine p_aGc (r := 0) (h21.v (by decide +kernel) (by decide +kernel)) ?_
  unfold mX9_told_25
  show pw (bX9_told_30 (mX9_told_30 69999) _ _ _ _ _) _
  unfold bX9_told_30
  refine p_gFc (ji := 12) (r := 138) rfl (h21.v (by decide +kernel) (by decide +kernel)) ?_
  refine p_aGc (r := 0) (h21.v (by decide +kernel) (by decide +kernel)) ?_
  refine p_it1 (by decide +kernel) ?_
  refine p_rc (r := 0) (by decide +kernel) (hQ24 _ ?_)
  dsimp only
  refine p_val (r := (-1)) (fa_loop h21 (by decide +kernel) (by decide +kernel) _ _ (by decide)) ?_
  refine p_rc (r := (-1)) (by decide +kernel) (hQ23 _ ?_)
  dsimp only
  refine p_bindg (fun Q25 hQ25 => ?_)
  unfold mX9_numberIn
  show pw (bX9_numberIn_4 (mX9_numberIn_4 69999) _ _ _ _ _) _
  unfold bX9_numberIn_4
  refine p_it0 (by decide +kernel) ?_
  refine p_it1 (by decide +kernel) ?_
  refine p_rc (r := (-1)) (by decide +kernel) (hQ25 _ ?_)
  dsimp only
  exact p_rc (r := (-1)) (by decide +kernel) rfl
theorem fx9_sure {l1 l2 l3 : Int} {M : Mem} (t0 : TR 162 126 169 [] M) (r_l1 : (-2147483648) ≤ l1 ∧ l1 ≤ 2147483647) (r_l2 : (-2147483648) ≤ l2 ∧ l2 ≤ 2147483647) (r_l3 : (-2147483648) ≤ l3 ∧ l3 ≤ 2147483647) : pw (mX9_sure 126 l1 l2 l3 M) (fun q => q.1 = (-1)) := by
  unfold mX9_sure
  refine p_pF (ji := 0) rfl (fun M1 h1 => ?_)
  replace h1 := t0.st (al := 126) (il := 0) (xl := 0) h1 (by decide +kernel) (by decide +kernel) (by decide +kernel)
  refine p_gK ?_
  refine p_bindg (fun Q2 hQ2 => ?_)
  unfold mX9_toldFact
  refine p_gK ?_
  refine p_bindg (fun Q3 hQ3 => ?_)
  unfold mX9_bringSizes
  show pw (bX9_bringSizes_2 (mX9_bringSizes_2 69999) _ _ _) _
  unfold bX9_bringSizes_2
  refine p_it0 (by decide +kernel) ?_
  refine p_gFc (ji := 26) (r := 152) rfl (h1.v (by decide +kernel) (by decide +kernel)) ?_
  refine p_gFc (ji := 7) (r := 133) rfl (h1.v (by decide +kernel) (by decide +kernel)) ?_
  refine p_aGc (r := 2) (h1.v (by decide +kernel) (by decide +kernel)) ?_
  refine p_aS (fun M4 h4 => ?_)
  replace h4 := h1.st (al := 152) (il := 0) (xl := 2) h4 (by decide +kernel) (by decide +kernel) (by decide +kernel)
  show pw (bX9_bringSizes_2 (mX9_bringSizes_2 69998) _ _ _) _
  unfold bX9_bringSizes_2
  refine p_it0 (by decide +kernel) ?_
  refine p_gFc (ji := 26) (r := 152) rfl (h4.v (by decide +kernel) (by decide +kernel)) ?_
  refine p_gFc (ji := 7) (r := 133) rfl (h4.v (by decide +kernel) (by decide +kernel)) ?_
  refine p_aGc (r := 2) (h4.v (by decide +kernel) (by decide +kernel)) ?_
  refine p_aS (fun M5 h5 => ?_)
  replace h5 := h4.st (al := 152) (il := 1) (xl := 2) h5 (by decide +kernel) (by decide +kernel) (by decide +kernel)
  show pw (bX9_bringSizes_2 (mX9_bringSizes_2 69997) _ _ _) _
  unfold bX9_bringSizes_2
  refine p_it0 (by decide +kernel) ?_
  refine p_gFc (ji := 26) (r := 152) rfl (h5.v (by decide +kernel) (by decide +kernel)) ?_
  refine p_gFc (ji := 7) (r := 133) rfl (h5.v (by decide +kernel) (by decide +kernel)) ?_
  refine p_aGc (r := 2) (h5.v (by decide +kernel) (by decide +kernel)) ?_
  refine p_aS (fun M6 h6 => ?_)
  replace h6 := h5.st (al := 152) (il := 2) (xl := 2) h6 (by decide +kernel) (by decide +kernel) (by decide +kernel)
  show pw (bX9_bringSizes_2 (mX9_bringSizes_2 69996) _ _ _) _
  unfold bX9_bringSizes_2
  refine p_it1 (by decide +kernel) ?_
  refine p_gK ?_
  refine p_bindg (fun Q7 hQ7 => ?_)
  unfold mX9_findStarts
  refine p_gFc (ji := 27) (r := 153) rfl (h6.v (by decide +kernel) (by decide +kernel)) ?_
  refine p_aS (fun M8 h8 => ?_)
  replace h8 := h6.st (al := 153) (il := 0) (xl := 0) h8 (by decide +kernel) (by decide +kernel) (by decide +kernel)
  show pw (bX9_findStarts_9 (mX9_findStarts_9 69999) _ _ _) _
  unfold bX9_findStarts_9
  refine p_gFc (ji := 8) (r := 134) rfl (h8.v (by decide +kernel) (by decide +kernel)) ?_
  refine p_aGc (r := 0) (h8.v (by decide +kernel) (by decide +kernel)) ?_
  refine p_it1 (by decide +kernel) ?_
  refine p_rc (r := 0) (by decide +kernel) (hQ7 _ ?_)
  dsimp only
  refine p_rc (r := 0) (by decide +kernel) (hQ3 _ ?_)
  dsimp only
  refine p_gK ?_
  refine p_bindg (fun Q9 hQ9 => ?_)
  unfold mX9_isRelation
  refine p_gFc (ji := 8) (r := 134) rfl (h8.v (by decide +kernel) (by decide +kernel)) ?_
  refine p_aGc (r := 0) (h8.v (by decide +kernel) (by decide +kernel)) ?_
  refine p_bindg (fun Q10 hQ10 => ?_)
  unfold mX9_in
  refine p_iflt_r (r := 0) (by decide +kernel) (fun c11 => ?_) (fun c11 => ?_)
  · skip
    refine p_rc (r := 0) (by decide +kernel) (hQ10 _ ?_)
    dsimp only
    refine p_zR (fun _ => ?_)
    refine p_rc (r := 0) (by decide +kernel) (hQ9 _ ?_)
    dsimp only
    refine p_it1 (by decide +kernel) ?_
    refine p_rc (r := (-1)) (by decide +kernel) (hQ2 _ ?_)
    dsimp only
    refine p_it1 (by decide +kernel) ?_
    exact p_rc (r := (-1)) (by decide +kernel) rfl
  · skip
    refine p_iflt_l (r := (-1)) (by decide +kernel) (fun c12 => ?_) (fun c12 => absurd (by omega) c12)
    refine p_rc (r := 0) (by decide +kernel) (hQ10 _ ?_)
    dsimp only
    refine p_zR (fun _ => ?_)
    refine p_rc (r := 0) (by decide +kernel) (hQ9 _ ?_)
    dsimp only
    refine p_it1 (by decide +kernel) ?_
    refine p_rc (r := (-1)) (by decide +kernel) (hQ2 _ ?_)
    dsimp only
    refine p_it1 (by decide +kernel) ?_
    exact p_rc (r := (-1)) (by decide +kernel) rfl
theorem fx9_cause {l1 l2 l3 l4 : Int} {M : Mem} (t0 : TR 162 126 169 [] M) (r_l1 : (-2147483648) ≤ l1 ∧ l1 ≤ 2147483647) (r_l2 : (-2147483648) ≤ l2 ∧ l2 ≤ 2147483647) (r_l3 : (-2147483648) ≤ l3 ∧ l3 ≤ 2147483647) (r_l4 : (-2147483648) ≤ l4 ∧ l4 ≤ 2147483647) : pw (mX9_cause 126 l1 l2 l3 l4 M) (fun q => q.1 = (-1)) := by
  unfold mX9_cause
  refine p_pF (ji := 0) rfl (fun M1 h1 => ?_)
  replace h1 := t0.st (al := 126) (il := 0) (xl := 0) h1 (by decide +kernel) (by decide +kernel) (by decide +kernel)
  refine p_gK ?_
  refine p_bindg (fun Q2 hQ2 => ?_)
  unfold mX9_toldFact
  refine p_gK ?_
  refine p_bindg (fun Q3 hQ3 => ?_)
  unfold mX9_bringSizes
  show pw (bX9_bringSizes_2 (mX9_bringSizes_2 69999) _ _ _) _
  unfold bX9_bringSizes_2
  refine p_it0 (by decide +kernel) ?_
  refine p_gFc (ji := 26) (r := 152) rfl (h1.v (by decide +kernel) (by decide +kernel)) ?_
  refine p_gFc (ji := 7) (r := 133) rfl (h1.v (by decide +kernel) (by decide +kernel)) ?_
  refine p_aGc (r := 2) (h1.v (by decide +kernel) (by decide +kernel)) ?_
  refine p_aS (fun M4 h4 => ?_)
  replace h4 := h1.st (al := 152) (il := 0) (xl := 2) h4 (by decide +kernel) (by decide +kernel) (by decide +kernel)
  show pw (bX9_bringSizes_2 (mX9_bringSizes_2 69998) _ _ _) _
  unfold bX9_bringSizes_2
  refine p_it0 (by decide +kernel) ?_
  refine p_gFc (ji := 26) (r := 152) rfl (h4.v (by decide +kernel) (by decide +kernel)) ?_
  refine p_gFc (ji := 7) (r := 133) rfl (h4.v (by decide +kernel) (by decide +kernel)) ?_
  refine p_aGc (r := 2) (h4.v (by decide +kernel) (by decide +kernel)) ?_
  refine p_aS (fun M5 h5 => ?_)
  replace h5 := h4.st (al := 152) (il := 1) (xl := 2) h5 (by decide +kernel) (by decide +kernel) (by decide +kernel)
  show pw (bX9_bringSizes_2 (mX9_bringSizes_2 69997) _ _ _) _
  unfold bX9_bringSizes_2
  refine p_it0 (by decide +kernel) ?_
  refine p_gFc (ji := 26) (r := 152) rfl (h5.v (by decide +kernel) (by decide +kernel)) ?_
  refine p_gFc (ji := 7) (r := 133) rfl (h5.v (by decide +kernel) (by decide +kernel)) ?_
  refine p_aGc (r := 2) (h5.v (by decide +kernel) (by decide +kernel)) ?_
  refine p_aS (fun M6 h6 => ?_)
  replace h6 := h5.st (al := 152) (il := 2) (xl := 2) h6 (by decide +kernel) (by decide +kernel) (by decide +kernel)
  show pw (bX9_bringSizes_2 (mX9_bringSizes_2 69996) _ _ _) _
  unfold bX9_bringSizes_2
  refine p_it1 (by decide +kernel) ?_
  refine p_gK ?_
  refine p_bindg (fun Q7 hQ7 => ?_)
  unfold mX9_findStarts
  refine p_gFc (ji := 27) (r := 153) rfl (h6.v (by decide +kernel) (by decide +kernel)) ?_
  refine p_aS (fun M8 h8 => ?_)
  replace h8 := h6.st (al := 153) (il := 0) (xl := 0) h8 (by decide +kernel) (by decide +kernel) (by decide +kernel)
  show pw (bX9_findStarts_9 (mX9_findStarts_9 69999) _ _ _) _
  unfold bX9_findStarts_9
  refine p_gFc (ji := 8) (r := 134) rfl (h8.v (by decide +kernel) (by decide +kernel)) ?_
  refine p_aGc (r := 0) (h8.v (by decide +kernel) (by decide +kernel)) ?_
  refine p_it1 (by decide +kernel) ?_
  refine p_rc (r := 0) (by decide +kernel) (hQ7 _ ?_)
  dsimp only
  refine p_rc (r := 0) (by decide +kernel) (hQ3 _ ?_)
  dsimp only
  refine p_gK ?_
  refine p_bindg (fun Q9 hQ9 => ?_)
  unfold mX9_isRelation
  refine p_gFc (ji := 8) (r := 134) rfl (h8.v (by decide +kernel) (by decide +kernel)) ?_
  refine p_aGc (r := 0) (h8.v (by decide +kernel) (by decide +kernel)) ?_
  refine p_bindg (fun Q10 hQ10 => ?_)
  unfold mX9_in
  refine p_iflt_r (r := 0) (by decide +kernel) (fun c11 => ?_) (fun c11 => ?_)
  · skip
    refine p_rc (r := 0) (by decide +kernel) (hQ10 _ ?_)
    dsimp only
    refine p_zR (fun _ => ?_)
    refine p_rc (r := 0) (by decide +kernel) (hQ9 _ ?_)
    dsimp only
    refine p_it1 (by decide +kernel) ?_
    refine p_rc (r := (-1)) (by decide +kernel) (hQ2 _ ?_)
    dsimp only
    refine p_it1 (by decide +kernel) ?_
    exact p_rc (r := (-1)) (by decide +kernel) rfl
  · skip
    refine p_iflt_l (r := (-1)) (by decide +kernel) (fun c12 => ?_) (fun c12 => absurd (by omega) c12)
    refine p_rc (r := 0) (by decide +kernel) (hQ10 _ ?_)
    dsimp only
    refine p_zR (fun _ => ?_)
    refine p_rc (r := 0) (by decide +kernel) (hQ9 _ ?_)
    dsimp only
    refine p_it1 (by decide +kernel) ?_
    refine p_rc (r := (-1)) (by decide +kernel) (hQ2 _ ?_)
    dsimp only
    refine p_it1 (by decide +kernel) ?_
    exact p_rc (r := (-1)) (by decide +kernel) rfl
theorem fx9_without {l1 : Int} {M : Mem} (t0 : TR 162 126 169 [] M) (r_l1 : (-2147483648) ≤ l1 ∧ l1 ≤ 2147483647) : pw (mX9_without 126 l1 M) (fun q => q.1 = (-1)) := by
  unfold mX9_without
  refine p_pF (ji := 0) rfl (fun M1 h1 => ?_)
  replace h1 := t0.st (al := 126) (il := 0) (xl := 0) h1 (by decide +kernel) (by decide +kernel) (by decide +kernel)
  refine p_gFc (ji := 12) (r := 138) rfl (h1.v (by decide +kernel) (by decide +kernel)) ?_
  refine p_aGc (r := 0) (h1.v (by decide +kernel) (by decide +kernel)) ?_
  refine p_bindg (fun Q2 hQ2 => ?_)
  unfold mX9_in
  refine p_iflt_r (r := 0) (by decide +kernel) (fun c3 => ?_) (fun c3 => ?_)
  · skip
    refine p_rc (r := 0) (by decide +kernel) (hQ2 _ ?_)
    dsimp only
    refine p_it1 (by decide +kernel) ?_
    exact p_rc (r := (-1)) (by decide +kernel) rfl
  · skip
    refine p_iflt_l (r := (-1)) (by decide +kernel) (fun c4 => ?_) (fun c4 => absurd (by omega) c4)
    refine p_rc (r := 0) (by decide +kernel) (hQ2 _ ?_)
    dsimp only
    refine p_it1 (by decide +kernel) ?_
    exact p_rc (r := (-1)) (by decide +kernel) rfl
theorem fx9_questions {M : Mem} (t0 : TR 162 126 169 [] M) : pw (mX9_questions 126 M) (fun q => q.1 = 0) := by
  unfold mX9_questions
  refine p_pF (ji := 0) rfl (fun M1 h1 => ?_)
  replace h1 := t0.st (al := 126) (il := 0) (xl := 0) h1 (by decide +kernel) (by decide +kernel) (by decide +kernel)
  refine p_gK ?_
  refine p_bindg (fun Q2 hQ2 => ?_)
  unfold mX9_canTell
  refine p_gK ?_
  refine p_bindg (fun Q3 hQ3 => ?_)
  unfold mX9_bringSizes
  show pw (bX9_bringSizes_2 (mX9_bringSizes_2 69999) _ _ _) _
  unfold bX9_bringSizes_2
  refine p_it0 (by decide +kernel) ?_
  refine p_gFc (ji := 26) (r := 152) rfl (h1.v (by decide +kernel) (by decide +kernel)) ?_
  refine p_gFc (ji := 7) (r := 133) rfl (h1.v (by decide +kernel) (by decide +kernel)) ?_
  refine p_aGc (r := 2) (h1.v (by decide +kernel) (by decide +kernel)) ?_
  refine p_aS (fun M4 h4 => ?_)
  replace h4 := h1.st (al := 152) (il := 0) (xl := 2) h4 (by decide +kernel) (by decide +kernel) (by decide +kernel)
  show pw (bX9_bringSizes_2 (mX9_bringSizes_2 69998) _ _ _) _
  unfold bX9_bringSizes_2
  refine p_it0 (by decide +kernel) ?_
  refine p_gFc (ji := 26) (r := 152) rfl (h4.v (by decide +kernel) (by decide +kernel)) ?_
  refine p_gFc (ji := 7) (r := 133) rfl (h4.v (by decide +kernel) (by decide +kernel)) ?_
  refine p_aGc (r := 2) (h4.v (by decide +kernel) (by decide +kernel)) ?_
  refine p_aS (fun M5 h5 => ?_)
  replace h5 := h4.st (al := 152) (il := 1) (xl := 2) h5 (by decide +kernel) (by decide +kernel) (by decide +kernel)
  show pw (bX9_bringSizes_2 (mX9_bringSizes_2 69997) _ _ _) _
  unfold bX9_bringSizes_2
  refine p_it0 (by decide +kernel) ?_
  refine p_gFc (ji := 26) (r := 152) rfl (h5.v (by decide +kernel) (by decide +kernel)) ?_
  refine p_gFc (ji := 7) (r := 133) rfl (h5.v (by decide +kernel) (by decide +kernel)) ?_
  refine p_aGc (r := 2) (h5.v (by decide +kernel) (by decide +kernel)) ?_
  refine p_aS (fun M6 h6 => ?_)
  replace h6 := h5.st (al := 152) (il := 2) (xl := 2) h6 (by decide +kernel) (by decide +kernel) (by decide +kernel)
  show pw (bX9_bringSizes_2 (mX9_bringSizes_2 69996) _ _ _) _
  unfold bX9_bringSizes_2
  refine p_it1 (by decide +kernel) ?_
  refine p_gK ?_
  refine p_bindg (fun Q7 hQ7 => ?_)
  unfold mX9_findStarts
  refine p_gFc (ji := 27) (r := 153) rfl (h6.v (by decide +kernel) (by decide +kernel)) ?_
  refine p_aS (fun M8 h8 => ?_)
  replace h8 := h6.st (al := 153) (il := 0) (xl := 0) h8 (by decide +kernel) (by decide +kernel) (by decide +kernel)
  show pw (bX9_findStarts_9 (mX9_findStarts_9 69999) _ _ _) _
  unfold bX9_findStarts_9
  refine p_gFc (ji := 8) (r := 134) rfl (h8.v (by decide +kernel) (by decide +kernel)) ?_
  refine p_aGc (r := 0) (h8.v (by decide +kernel) (by decide +kernel)) ?_
  refine p_it1 (by decide +kernel) ?_
  refine p_rc (r := 0) (by decide +kernel) (hQ7 _ ?_)
  dsimp only
  refine p_rc (r := 0) (by decide +kernel) (hQ3 _ ?_)
  dsimp only
  refine p_gK ?_
  refine p_bindg (fun Q9 hQ9 => ?_)
  unfold mX9_manyFacts
  refine p_gFc (ji := 27) (r := 153) rfl (h8.v (by decide +kernel) (by decide +kernel)) ?_
  refine p_gFc (ji := 8) (r := 134) rfl (h8.v (by decide +kernel) (by decide +kernel)) ?_
  refine p_aGc (r := 0) (h8.v (by decide +kernel) (by decide +kernel)) ?_
  refine p_aGc (r := 0) (h8.v (by decide +kernel) (by decide +kernel)) ?_
  refine p_rc (r := 0) (by decide +kernel) (hQ9 _ ?_)
  dsimp only
  refine p_it0 (by decide +kernel) ?_
  refine p_rc (r := 1) (by decide +kernel) (hQ2 _ ?_)
  dsimp only
  refine p_it0 (by decide +kernel) ?_
  refine p_gK ?_
  refine p_bindg (fun Q10 hQ10 => ?_)
  unfold mX9_prepare
  refine p_gK ?_
  refine p_bindg (fun Q11 hQ11 => ?_)
  unfold mX9_told
  refine p_gFc (ji := 6) (r := 132) rfl (h8.v (by decide +kernel) (by decide +kernel)) ?_
  refine p_aGc (r := (-1)) (h8.v (by decide +kernel) (by decide +kernel)) ?_
  refine p_it1 (by decide +kernel) ?_
  refine p_gFc (ji := 5) (r := 131) rfl (h8.v (by decide +kernel) (by decide +kernel)) ?_
  refine p_aGc (r := 0) (h8.v (by decide +kernel) (by decide +kernel)) ?_
  unfold mX9_told_25
  show pw (bX9_told_30 (mX9_told_30 69999) _ _ _ _ _) _
  unfold bX9_told_30
  refine p_gFc (ji := 12) (r := 138) rfl (h8.v (by decide +kernel) (by decide +kernel)) ?_
  refine p_aGc (r := 0) (h8.v (by decide +kernel) (by decide +kernel)) ?_
  refine p_it1 (by decide +kernel) ?_
  refine p_rc (r := 0) (by decide +kernel) (hQ11 _ ?_)
  dsimp only
  refine p_pF (ji := 48) rfl (fun M12 h12 => ?_)
  replace h12 := h8.st (al := 126) (il := 48) (xl := 0) h12 (by decide +kernel) (by decide +kernel) (by decide +kernel)
  refine p_gK ?_
  refine p_bindg (fun Q13 hQ13 => ?_)
  unfold mX9_findKnown
  refine p_gFc (ji := 6) (r := 132) rfl (h12.v (by decide +kernel) (by decide +kernel)) ?_
  refine p_aGc (r := (-1)) (h12.v (by decide +kernel) (by decide +kernel)) ?_
  refine p_it1 (by decide +kernel) ?_
  refine p_gFc (ji := 5) (r := 131) rfl (h12.v (by decide +kernel) (by decide +kernel)) ?_
  refine p_aGc (r := 0) (h12.v (by decide +kernel) (by decide +kernel)) ?_
  unfold mX9_findKnown_25
  refine p_gK ?_
  refine p_bindg (fun Q14 hQ14 => ?_)
  unfold mX9_manyFacts
  refine p_gFc (ji := 27) (r := 153) rfl (h12.v (by decide +kernel) (by decide +kernel)) ?_
  refine p_gFc (ji := 8) (r := 134) rfl (h12.v (by decide +kernel) (by decide +kernel)) ?_
  refine p_aGc (r := 0) (h12.v (by decide +kernel) (by decide +kernel)) ?_
  refine p_aGc (r := 0) (h12.v (by decide +kernel) (by decide +kernel)) ?_
  refine p_rc (r := 0) (by decide +kernel) (hQ14 _ ?_)
  dsimp only
  refine p_pF (ji := 49) rfl (fun M15 h15 => ?_)
  replace h15 := h12.st (al := 126) (il := 49) (xl := 0) h15 (by decide +kernel) (by decide +kernel) (by decide +kernel)
  refine p_pF (ji := 50) rfl (fun M16 h16 => ?_)
  replace h16 := h15.st (al := 126) (il := 50) (xl := 0) h16 (by decide +kernel) (by decide +kernel) (by decide +kernel)
  show pw (bX9_findKnown_43 (mX9_findKnown_43 69999) _ _ _ _ _) _
  unfold bX9_findKnown_43
  refine p_gFc (ji := 20) (r := 146) rfl (h16.v (by decide +kernel) (by decide +kernel)) ?_
  refine p_aGc (r := 0) (h16.v (by decide +kernel) (by decide +kernel)) ?_
  refine p_it1 (by decide +kernel) ?_
  refine p_rc (r := 0) (by decide +kernel) (hQ13 _ ?_)
  dsimp only
  refine p_rc (r := 0) (by decide +kernel) (hQ10 _ ?_)
  dsimp only
  show pw (bX9_questions_22 (mX9_questions_22 69999) _ _ _ _) _
  unfold bX9_questions_22
  refine p_gK ?_
  refine p_bindg (fun Q17 hQ17 => ?_)
  unfold mX9_manyFacts
  refine p_gFc (ji := 27) (r := 153) rfl (h16.v (by decide +kernel) (by decide +kernel)) ?_
  refine p_gFc (ji := 8) (r := 134) rfl (h16.v (by decide +kernel) (by decide +kernel)) ?_
  refine p_aGc (r := 0) (h16.v (by decide +kernel) (by decide +kernel)) ?_
  refine p_aGc (r := 0) (h16.v (by decide +kernel) (by decide +kernel)) ?_
  refine p_rc (r := 0) (by decide +kernel) (hQ17 _ ?_)
  dsimp only
  refine p_it0 (by decide +kernel) ?_
  refine p_gK ?_
  refine p_bindg (fun Q18 hQ18 => ?_)
  unfold mX9_isWorld
  refine p_gK ?_
  refine p_bindg (fun Q19 hQ19 => ?_)
  unfold mX9_isAsKnown
  refine p_gFc (ji := 49) (r := 0) rfl (h16.v (by decide +kernel) (by decide +kernel)) ?_
  refine p_gFc (ji := 50) (r := 0) rfl (h16.v (by decide +kernel) (by decide +kernel)) ?_
  refine p_it1 (by decide +kernel) ?_
  refine p_rc (r := 1) (by decide +kernel) (hQ19 _ ?_)
  dsimp only
  refine p_it0 (by decide +kernel) ?_
  refine p_gK ?_
  refine p_bindg (fun Q20 hQ20 => ?_)
  unfold mX9_layWorld
  refine p_gK ?_
  refine p_bindg (fun Q21 hQ21 => ?_)
  unfold mX9_manyFacts
  refine p_gFc (ji := 27) (r := 153) rfl (h16.v (by decide +kernel) (by decide +kernel)) ?_
  refine p_gFc (ji := 8) (r := 134) rfl (h16.v (by decide +kernel) (by decide +kernel)) ?_
  refine p_aGc (r := 0) (h16.v (by decide +kernel) (by decide +kernel)) ?_
  refine p_aGc (r := 0) (h16.v (by decide +kernel) (by decide +kernel)) ?_
  refine p_rc (r := 0) (by decide +kernel) (hQ21 _ ?_)
  dsimp only
  show pw (bX9_layWorld_7 (mX9_layWorld_7 69999) _ _ _ _ _) _
  unfold bX9_layWorld_7
  refine p_it1 (by decide +kernel) ?_
  refine p_rc (r := 0) (by decide +kernel) (hQ20 _ ?_)
  dsimp only
  show pw (bX9_isWorld_17 (mX9_isWorld_17 69999) _ _ _) _
  unfold bX9_isWorld_17
  refine p_gFc (ji := 12) (r := 138) rfl (h16.v (by decide +kernel) (by decide +kernel)) ?_
  refine p_aGc (r := 0) (h16.v (by decide +kernel) (by decide +kernel)) ?_
  refine p_it1 (by decide +kernel) ?_
  refine p_rc (r := 1) (by decide +kernel) (hQ18 _ ?_)
  dsimp only
  refine p_it0 (by decide +kernel) ?_
  refine p_it0 (by decide +kernel) ?_
  refine p_gFc (ji := 58) (r := 165) rfl (h16.v (by decide +kernel) (by decide +kernel)) ?_
  refine p_aS (fun M22 h22 => ?_)
  replace h22 := h16.st (al := 165) (il := 0) (xl := 0) h22 (by decide +kernel) (by decide +kernel) (by decide +kernel)
  unfold mX9_questions_58
  show pw (bX9_questions_22 (mX9_questions_22 69998) _ _ _ _) _
  unfold bX9_questions_22
  refine p_gK ?_
  refine p_bindg (fun Q23 hQ23 => ?_)
  unfold mX9_manyFacts
  refine p_gFc (ji := 27) (r := 153) rfl (h22.v (by decide +kernel) (by decide +kernel)) ?_
  refine p_gFc (ji := 8) (r := 134) rfl (h22.v (by decide +kernel) (by decide +kernel)) ?_
  refine p_aGc (r := 0) (h22.v (by decide +kernel) (by decide +kernel)) ?_
  refine p_aGc (r := 0) (h22.v (by decide +kernel) (by decide +kernel)) ?_
  refine p_rc (r := 0) (by decide +kernel) (hQ23 _ ?_)
  dsimp only
  refine p_it1 (by decide +kernel) ?_
  refine p_it0 (by decide +kernel) ?_
  refine p_gK ?_
  refine p_bindg (fun Q24 hQ24 => ?_)
  unfold mX9_findYes
  show pw (bX9_findYes_2 (mX9_findYes_2 69999) _ _ _ _) _
  unfold bX9_findYes_2
  refine p_gK ?_
  refine p_bindg (fun Q25 hQ25 => ?_)
  unfold mX9_manyFacts
  refine p_gFc (ji := 27) (r := 153) rfl (h22.v (by decide +kernel) (by decide +kernel)) ?_
  refine p_gFc (ji := 8) (r := 134) rfl (h22.v (by decide +kernel) (by decide +kernel)) ?_
  refine p_aGc (r := 0) (h22.v (by decide +kernel) (by decide +kernel)) ?_
  refine p_aGc (r := 0) (h22.v (by decide +kernel) (by decide +kernel)) ?_
  refine p_rc (r := 0) (by decide +kernel) (hQ25 _ ?_)
  dsimp only
  refine p_it1 (by decide +kernel) ?_
  refine p_rc (r := 0) (by decide +kernel) (hQ24 _ ?_)
  dsimp only
  show pw (bX9_questions_77 (mX9_questions_77 69999) _ _ _ _) _
  unfold bX9_questions_77
  refine p_it0 (by decide +kernel) ?_
  refine p_gFc (ji := 59) (r := 166) rfl (h22.v (by decide +kernel) (by decide +kernel)) ?_
  refine p_it1 (by decide +kernel) ?_
  unfold mX9_questions_102
  refine p_aSZ (fun M26 h26 => ?_)
  replace h26 := h22.st (al := 166) (il := 0) (xl := 1) h26 (by decide +kernel) (by decide +kernel) (by decide +kernel)
  show pw (bX9_questions_77 (mX9_questions_77 69998) _ _ _ _) _
  unfold bX9_questions_77
  refine p_it0 (by decide +kernel) ?_
  refine p_gFc (ji := 59) (r := 166) rfl (h26.v (by decide +kernel) (by decide +kernel)) ?_
  refine p_it1 (by decide +kernel) ?_
  unfold mX9_questions_102
  refine p_aSZ (fun M27 h27 => ?_)
  replace h27 := h26.st (al := 166) (il := 1) (xl := 1) h27 (by decide +kernel) (by decide +kernel) (by decide +kernel)
  show pw (bX9_questions_77 (mX9_questions_77 69997) _ _ _ _) _
  unfold bX9_questions_77
  refine p_it1 (by decide +kernel) ?_
  show pw (bX9_questions_111 (mX9_questions_111 69999) _ _ _ _) _
  unfold bX9_questions_111
  refine p_it0 (by decide +kernel) ?_
  refine p_gFc (ji := 59) (r := 166) rfl (h27.v (by decide +kernel) (by decide +kernel)) ?_
  refine p_aGc (r := 1) (h27.v (by decide +kernel) (by decide +kernel)) ?_
  refine p_it0 (by decide +kernel) ?_
  exact p_rc (r := 0) (by decide +kernel) rfl
theorem fx9_settle {l1 : Int} {M : Mem} (t0 : TR 162 126 169 [] M) (r_l1 : (-2147483648) ≤ l1 ∧ l1 ≤ 2147483647) : pw (mX9_settle 126 l1 M) (fun q => q.1 = (-1)) := by
  unfold mX9_settle
  refine p_pF (ji := 0) rfl (fun M1 h1 => ?_)
  replace h1 := t0.st (al := 126) (il := 0) (xl := 0) h1 (by decide +kernel) (by decide +kernel) (by decide +kernel)
  refine p_gK ?_
  refine p_bindg (fun Q2 hQ2 => ?_)
  unfold mX9_canTell
  refine p_gK ?_
  refine p_bindg (fun Q3 hQ3 => ?_)
  unfold mX9_bringSizes
  show pw (bX9_bringSizes_2 (mX9_bringSizes_2 69999) _ _ _) _
  unfold bX9_bringSizes_2
  refine p_it0 (by decide +kernel) ?_
  refine p_gFc (ji := 26) (r := 152) rfl (h1.v (by decide +kernel) (by decide +kernel)) ?_
  refine p_gFc (ji := 7) (r := 133) rfl (h1.v (by decide +kernel) (by decide +kernel)) ?_
  refine p_aGc (r := 2) (h1.v (by decide +kernel) (by decide +kernel)) ?_
  refine p_aS (fun M4 h4 => ?_)
  replace h4 := h1.st (al := 152) (il := 0) (xl := 2) h4 (by decide +kernel) (by decide +kernel) (by decide +kernel)
  show pw (bX9_bringSizes_2 (mX9_bringSizes_2 69998) _ _ _) _
  unfold bX9_bringSizes_2
  refine p_it0 (by decide +kernel) ?_
  refine p_gFc (ji := 26) (r := 152) rfl (h4.v (by decide +kernel) (by decide +kernel)) ?_
  refine p_gFc (ji := 7) (r := 133) rfl (h4.v (by decide +kernel) (by decide +kernel)) ?_
  refine p_aGc (r := 2) (h4.v (by decide +kernel) (by decide +kernel)) ?_
  refine p_aS (fun M5 h5 => ?_)
  replace h5 := h4.st (al := 152) (il := 1) (xl := 2) h5 (by decide +kernel) (by decide +kernel) (by decide +kernel)
  show pw (bX9_bringSizes_2 (mX9_bringSizes_2 69997) _ _ _) _
  unfold bX9_bringSizes_2
  refine p_it0 (by decide +kernel) ?_
  refine p_gFc (ji := 26) (r := 152) rfl (h5.v (by decide +kernel) (by decide +kernel)) ?_
  refine p_gFc (ji := 7) (r := 133) rfl (h5.v (by decide +kernel) (by decide +kernel)) ?_
  refine p_aGc (r := 2) (h5.v (by decide +kernel) (by decide +kernel)) ?_
  refine p_aS (fun M6 h6 => ?_)
  replace h6 := h5.st (al := 152) (il := 2) (xl := 2) h6 (by decide +kernel) (by decide +kernel) (by decide +kernel)
  show pw (bX9_bringSizes_2 (mX9_bringSizes_2 69996) _ _ _) _
  unfold bX9_bringSizes_2
  refine p_it1 (by decide +kernel) ?_
  refine p_gK ?_
  refine p_bindg (fun Q7 hQ7 => ?_)
  unfold mX9_findStarts
  refine p_gFc (ji := 27) (r := 153) rfl (h6.v (by decide +kernel) (by decide +kernel)) ?_
  refine p_aS (fun M8 h8 => ?_)
  replace h8 := h6.st (al := 153) (il := 0) (xl := 0) h8 (by decide +kernel) (by decide +kernel) (by decide +kernel)
  show pw (bX9_findStarts_9 (mX9_findStarts_9 69999) _ _ _) _
  unfold bX9_findStarts_9
  refine p_gFc (ji := 8) (r := 134) rfl (h8.v (by decide +kernel) (by decide +kernel)) ?_
  refine p_aGc (r := 0) (h8.v (by decide +kernel) (by decide +kernel)) ?_
  refine p_it1 (by decide +kernel) ?_
  refine p_rc (r := 0) (by decide +kernel) (hQ7 _ ?_)
  dsimp only
  refine p_rc (r := 0) (by decide +kernel) (hQ3 _ ?_)
  dsimp only
  refine p_gK ?_
  refine p_bindg (fun Q9 hQ9 => ?_)
  unfold mX9_manyFacts
  refine p_gFc (ji := 27) (r := 153) rfl (h8.v (by decide +kernel) (by decide +kernel)) ?_
  refine p_gFc (ji := 8) (r := 134) rfl (h8.v (by decide +kernel) (by decide +kernel)) ?_
  refine p_aGc (r := 0) (h8.v (by decide +kernel) (by decide +kernel)) ?_
  refine p_aGc (r := 0) (h8.v (by decide +kernel) (by decide +kernel)) ?_
  refine p_rc (r := 0) (by decide +kernel) (hQ9 _ ?_)
  dsimp only
  refine p_it0 (by decide +kernel) ?_
  refine p_rc (r := 1) (by decide +kernel) (hQ2 _ ?_)
  dsimp only
  refine p_it0 (by decide +kernel) ?_
  refine p_gK ?_
  refine p_bindg (fun Q10 hQ10 => ?_)
  unfold mX9_manyFacts
  refine p_gFc (ji := 27) (r := 153) rfl (h8.v (by decide +kernel) (by decide +kernel)) ?_
  refine p_gFc (ji := 8) (r := 134) rfl (h8.v (by decide +kernel) (by decide +kernel)) ?_
  refine p_aGc (r := 0) (h8.v (by decide +kernel) (by decide +kernel)) ?_
  refine p_aGc (r := 0) (h8.v (by decide +kernel) (by decide +kernel)) ?_
  refine p_rc (r := 0) (by decide +kernel) (hQ10 _ ?_)
  dsimp only
  refine p_it1 (by decide +kernel) ?_
  exact p_rc (r := (-1)) (by decide +kernel) rfl
theorem fx9_near {M : Mem} (t0 : TR 162 126 169 [] M) : pw (mX9_near 126 M) (fun q => q.1 = 0) := by
  unfold mX9_near
  refine p_pF (ji := 0) rfl (fun M1 h1 => ?_)
  replace h1 := t0.st (al := 126) (il := 0) (xl := 0) h1 (by decide +kernel) (by decide +kernel) (by decide +kernel)
  refine p_gK ?_
  refine p_bindg (fun Q2 hQ2 => ?_)
  unfold mX9_canTell
  refine p_gK ?_
  refine p_bindg (fun Q3 hQ3 => ?_)
  unfold mX9_bringSizes
  show pw (bX9_bringSizes_2 (mX9_bringSizes_2 69999) _ _ _) _
  unfold bX9_bringSizes_2
  refine p_it0 (by decide +kernel) ?_
  refine p_gFc (ji := 26) (r := 152) rfl (h1.v (by decide +kernel) (by decide +kernel)) ?_
  refine p_gFc (ji := 7) (r := 133) rfl (h1.v (by decide +kernel) (by decide +kernel)) ?_
  refine p_aGc (r := 2) (h1.v (by decide +kernel) (by decide +kernel)) ?_
  refine p_aS (fun M4 h4 => ?_)
  replace h4 := h1.st (al := 152) (il := 0) (xl := 2) h4 (by decide +kernel) (by decide +kernel) (by decide +kernel)
  show pw (bX9_bringSizes_2 (mX9_bringSizes_2 69998) _ _ _) _
  unfold bX9_bringSizes_2
  refine p_it0 (by decide +kernel) ?_
  refine p_gFc (ji := 26) (r := 152) rfl (h4.v (by decide +kernel) (by decide +kernel)) ?_
  refine p_gFc (ji := 7) (r := 133) rfl (h4.v (by decide +kernel) (by decide +kernel)) ?_
  refine p_aGc (r := 2) (h4.v (by decide +kernel) (by decide +kernel)) ?_
  refine p_aS (fun M5 h5 => ?_)
  replace h5 := h4.st (al := 152) (il := 1) (xl := 2) h5 (by decide +kernel) (by decide +kernel) (by decide +kernel)
  show pw (bX9_bringSizes_2 (mX9_bringSizes_2 69997) _ _ _) _
  unfold bX9_bringSizes_2
  refine p_it0 (by decide +kernel) ?_
  refine p_gFc (ji := 26) (r := 152) rfl (h5.v (by decide +kernel) (by decide +kernel)) ?_
  refine p_gFc (ji := 7) (r := 133) rfl (h5.v (by decide +kernel) (by decide +kernel)) ?_
  refine p_aGc (r := 2) (h5.v (by decide +kernel) (by decide +kernel)) ?_
  refine p_aS (fun M6 h6 => ?_)
  replace h6 := h5.st (al := 152) (il := 2) (xl := 2) h6 (by decide +kernel) (by decide +kernel) (by decide +kernel)
  show pw (bX9_bringSizes_2 (mX9_bringSizes_2 69996) _ _ _) _
  unfold bX9_bringSizes_2
  refine p_it1 (by decide +kernel) ?_
  refine p_gK ?_
  refine p_bindg (fun Q7 hQ7 => ?_)
  unfold mX9_findStarts
  refine p_gFc (ji := 27) (r := 153) rfl (h6.v (by decide +kernel) (by decide +kernel)) ?_
  refine p_aS (fun M8 h8 => ?_)
  replace h8 := h6.st (al := 153) (il := 0) (xl := 0) h8 (by decide +kernel) (by decide +kernel) (by decide +kernel)
  show pw (bX9_findStarts_9 (mX9_findStarts_9 69999) _ _ _) _
  unfold bX9_findStarts_9
  refine p_gFc (ji := 8) (r := 134) rfl (h8.v (by decide +kernel) (by decide +kernel)) ?_
  refine p_aGc (r := 0) (h8.v (by decide +kernel) (by decide +kernel)) ?_
  refine p_it1 (by decide +kernel) ?_
  refine p_rc (r := 0) (by decide +kernel) (hQ7 _ ?_)
  dsimp only
  refine p_rc (r := 0) (by decide +kernel) (hQ3 _ ?_)
  dsimp only
  refine p_gK ?_
  refine p_bindg (fun Q9 hQ9 => ?_)
  unfold mX9_manyFacts
  refine p_gFc (ji := 27) (r := 153) rfl (h8.v (by decide +kernel) (by decide +kernel)) ?_
  refine p_gFc (ji := 8) (r := 134) rfl (h8.v (by decide +kernel) (by decide +kernel)) ?_
  refine p_aGc (r := 0) (h8.v (by decide +kernel) (by decide +kernel)) ?_
  refine p_aGc (r := 0) (h8.v (by decide +kernel) (by decide +kernel)) ?_
  refine p_rc (r := 0) (by decide +kernel) (hQ9 _ ?_)
  dsimp only
  refine p_it0 (by decide +kernel) ?_
  refine p_rc (r := 1) (by decide +kernel) (hQ2 _ ?_)
  dsimp only
  refine p_it0 (by decide +kernel) ?_
  refine p_gK ?_
  refine p_bindg (fun Q10 hQ10 => ?_)
  unfold mX9_prepare
  refine p_gK ?_
  refine p_bindg (fun Q11 hQ11 => ?_)
  unfold mX9_told
  refine p_gFc (ji := 6) (r := 132) rfl (h8.v (by decide +kernel) (by decide +kernel)) ?_
  refine p_aGc (r := (-1)) (h8.v (by decide +kernel) (by decide +kernel)) ?_
  refine p_it1 (by decide +kernel) ?_
  refine p_gFc (ji := 5) (r := 131) rfl (h8.v (by decide +kernel) (by decide +kernel)) ?_
  refine p_aGc (r := 0) (h8.v (by decide +kernel) (by decide +kernel)) ?_
  unfold mX9_told_25
  show pw (bX9_told_30 (mX9_told_30 69999) _ _ _ _ _) _
  unfold bX9_told_30
  refine p_gFc (ji := 12) (r := 138) rfl (h8.v (by decide +kernel) (by decide +kernel)) ?_
  refine p_aGc (r := 0) (h8.v (by decide +kernel) (by decide +kernel)) ?_
  refine p_it1 (by decide +kernel) ?_
  refine p_rc (r := 0) (by decide +kernel) (hQ11 _ ?_)
  dsimp only
  refine p_pF (ji := 48) rfl (fun M12 h12 => ?_)
  replace h12 := h8.st (al := 126) (il := 48) (xl := 0) h12 (by decide +kernel) (by decide +kernel) (by decide +kernel)
  refine p_gK ?_
  refine p_bindg (fun Q13 hQ13 => ?_)
  unfold mX9_findKnown
  refine p_gFc (ji := 6) (r := 132) rfl (h12.v (by decide +kernel) (by decide +kernel)) ?_
  refine p_aGc (r := (-1)) (h12.v (by decide +kernel) (by decide +kernel)) ?_
  refine p_it1 (by decide +kernel) ?_
  refine p_gFc (ji := 5) (r := 131) rfl (h12.v (by decide +kernel) (by decide +kernel)) ?_
  refine p_aGc (r := 0) (h12.v (by decide +kernel) (by decide +kernel)) ?_
  unfold mX9_findKnown_25
  refine p_gK ?_
  refine p_bindg (fun Q14 hQ14 => ?_)
  unfold mX9_manyFacts
  refine p_gFc (ji := 27) (r := 153) rfl (h12.v (by decide +kernel) (by decide +kernel)) ?_
  refine p_gFc (ji := 8) (r := 134) rfl (h12.v (by decide +kernel) (by decide +kernel)) ?_
  refine p_aGc (r := 0) (h12.v (by decide +kernel) (by decide +kernel)) ?_
  refine p_aGc (r := 0) (h12.v (by decide +kernel) (by decide +kernel)) ?_
  refine p_rc (r := 0) (by decide +kernel) (hQ14 _ ?_)
  dsimp only
  refine p_pF (ji := 49) rfl (fun M15 h15 => ?_)
  replace h15 := h12.st (al := 126) (il := 49) (xl := 0) h15 (by decide +kernel) (by decide +kernel) (by decide +kernel)
  refine p_pF (ji := 50) rfl (fun M16 h16 => ?_)
  replace h16 := h15.st (al := 126) (il := 50) (xl := 0) h16 (by decide +kernel) (by decide +kernel) (by decide +kernel)
  show pw (bX9_findKnown_43 (mX9_findKnown_43 69999) _ _ _ _ _) _
  unfold bX9_findKnown_43
  refine p_gFc (ji := 20) (r := 146) rfl (h16.v (by decide +kernel) (by decide +kernel)) ?_
  refine p_aGc (r := 0) (h16.v (by decide +kernel) (by decide +kernel)) ?_
  refine p_it1 (by decide +kernel) ?_
  refine p_rc (r := 0) (by decide +kernel) (hQ13 _ ?_)
  dsimp only
  refine p_rc (r := 0) (by decide +kernel) (hQ10 _ ?_)
  dsimp only
  show pw (bX9_near_24 (mX9_near_24 69999) _ _ _ _ _) _
  unfold bX9_near_24
  refine p_gK ?_
  refine p_bindg (fun Q17 hQ17 => ?_)
  unfold mX9_manyFacts
  refine p_gFc (ji := 27) (r := 153) rfl (h16.v (by decide +kernel) (by decide +kernel)) ?_
  refine p_gFc (ji := 8) (r := 134) rfl (h16.v (by decide +kernel) (by decide +kernel)) ?_
  refine p_aGc (r := 0) (h16.v (by decide +kernel) (by decide +kernel)) ?_
  refine p_aGc (r := 0) (h16.v (by decide +kernel) (by decide +kernel)) ?_
  refine p_rc (r := 0) (by decide +kernel) (hQ17 _ ?_)
  dsimp only
  refine p_it0 (by decide +kernel) ?_
  refine p_gK ?_
  refine p_bindg (fun Q18 hQ18 => ?_)
  unfold mX9_isWorld
  refine p_gK ?_
  refine p_bindg (fun Q19 hQ19 => ?_)
  unfold mX9_isAsKnown
  refine p_gFc (ji := 49) (r := 0) rfl (h16.v (by decide +kernel) (by decide +kernel)) ?_
  refine p_gFc (ji := 50) (r := 0) rfl (h16.v (by decide +kernel) (by decide +kernel)) ?_
  refine p_it1 (by decide +kernel) ?_
  refine p_rc (r := 1) (by decide +kernel) (hQ19 _ ?_)
  dsimp only
  refine p_it0 (by decide +kernel) ?_
  refine p_gK ?_
  refine p_bindg (fun Q20 hQ20 => ?_)
  unfold mX9_layWorld
  refine p_gK ?_
  refine p_bindg (fun Q21 hQ21 => ?_)
  unfold mX9_manyFacts
  refine p_gFc (ji := 27) (r := 153) rfl (h16.v (by decide +kernel) (by decide +kernel)) ?_
  refine p_gFc (ji := 8) (r := 134) rfl (h16.v (by decide +kernel) (by decide +kernel)) ?_
  refine p_aGc (r := 0) (h16.v (by decide +kernel) (by decide +kernel)) ?_
  refine p_aGc (r := 0) (h16.v (by decide +kernel) (by decide +kernel)) ?_
  refine p_rc (r := 0) (by decide +kernel) (hQ21 _ ?_)
  dsimp only
  show pw (bX9_layWorld_7 (mX9_layWorld_7 69999) _ _ _ _ _) _
  unfold bX9_layWorld_7
  refine p_it1 (by decide +kernel) ?_
  refine p_rc (r := 0) (by decide +kernel) (hQ20 _ ?_)
  dsimp only
  show pw (bX9_isWorld_17 (mX9_isWorld_17 69999) _ _ _) _
  unfold bX9_isWorld_17
  refine p_gFc (ji := 12) (r := 138) rfl (h16.v (by decide +kernel) (by decide +kernel)) ?_
  refine p_aGc (r := 0) (h16.v (by decide +kernel) (by decide +kernel)) ?_
  refine p_it1 (by decide +kernel) ?_
  refine p_rc (r := 1) (by decide +kernel) (hQ18 _ ?_)
  dsimp only
  refine p_it0 (by decide +kernel) ?_
  show pw (bX9_near_51 _ (mX9_near_51 _ 69999) _ _ _ _ _ _ _) _
  unfold bX9_near_51
  refine p_gK ?_
  refine p_bindg (fun Q22 hQ22 => ?_)
  unfold mX9_manyFacts
  refine p_gFc (ji := 27) (r := 153) rfl (h16.v (by decide +kernel) (by decide +kernel)) ?_
  refine p_gFc (ji := 8) (r := 134) rfl (h16.v (by decide +kernel) (by decide +kernel)) ?_
  refine p_aGc (r := 0) (h16.v (by decide +kernel) (by decide +kernel)) ?_
  refine p_aGc (r := 0) (h16.v (by decide +kernel) (by decide +kernel)) ?_
  refine p_rc (r := 0) (by decide +kernel) (hQ22 _ ?_)
  dsimp only
  refine p_it1 (by decide +kernel) ?_
  refine p_it1 (by decide +kernel) ?_
  unfold mX9_near_104
  unfold mX9_near_109
  show pw (bX9_near_24 (mX9_near_24 69998) _ _ _ _ _) _
  unfold bX9_near_24
  refine p_gK ?_
  refine p_bindg (fun Q23 hQ23 => ?_)
  unfold mX9_manyFacts
  refine p_gFc (ji := 27) (r := 153) rfl (h16.v (by decide +kernel) (by decide +kernel)) ?_
  refine p_gFc (ji := 8) (r := 134) rfl (h16.v (by decide +kernel) (by decide +kernel)) ?_
  refine p_aGc (r := 0) (h16.v (by decide +kernel) (by decide +kernel)) ?_
  refine p_aGc (r := 0) (h16.v (by decide +kernel) (by decide +kernel)) ?_
  refine p_rc (r := 0) (by decide +kernel) (hQ23 _ ?_)
  dsimp only
  refine p_it1 (by decide +kernel) ?_
  refine p_it0 (by decide +kernel) ?_
  refine p_gK ?_
  refine p_bindg (fun Q24 hQ24 => ?_)
  unfold mX9_takeWorld
  refine p_gK ?_
  refine p_bindg (fun Q25 hQ25 => ?_)
  unfold mX9_manyFacts
  refine p_gFc (ji := 27) (r := 153) rfl (h16.v (by decide +kernel) (by decide +kernel)) ?_
  refine p_gFc (ji := 8) (r := 134) rfl (h16.v (by decide +kernel) (by decide +kernel)) ?_
  refine p_aGc (r := 0) (h16.v (by decide +kernel) (by decide +kernel)) ?_
  refine p_aGc (r := 0) (h16.v (by decide +kernel) (by decide +kernel)) ?_
  refine p_rc (r := 0) (by decide +kernel) (hQ25 _ ?_)
  dsimp only
  show pw (bX9_takeWorld_7 (mX9_takeWorld_7 69999) _ _ _ _ _) _
  unfold bX9_takeWorld_7
  refine p_it1 (by decide +kernel) ?_
  refine p_rc (r := 0) (by decide +kernel) (hQ24 _ ?_)
  dsimp only
  exact p_rc (r := 0) (by decide +kernel) rfl
theorem fx9_holds {l1 : Int} {M : Mem} (t0 : TR 162 126 169 [] M) (r_l1 : (-2147483648) ≤ l1 ∧ l1 ≤ 2147483647) : pw (mX9_holds 126 l1 M) (fun q => q.1 = (-1)) := by
  unfold mX9_holds
  refine p_pF (ji := 0) rfl (fun M1 h1 => ?_)
  replace h1 := t0.st (al := 126) (il := 0) (xl := 0) h1 (by decide +kernel) (by decide +kernel) (by decide +kernel)
  refine p_gFc (ji := 15) (r := 141) rfl (h1.v (by decide +kernel) (by decide +kernel)) ?_
  refine p_aGc (r := 0) (h1.v (by decide +kernel) (by decide +kernel)) ?_
  refine p_it1 (by decide +kernel) ?_
  exact p_rc (r := (-1)) (by decide +kernel) rfl
theorem fx9_against {M : Mem} (t0 : TR 162 126 169 [] M) : pw (mX9_against 126 M) (fun q => q.1 = 0) := by
  unfold mX9_against
  refine p_pF (ji := 0) rfl (fun M1 h1 => ?_)
  replace h1 := t0.st (al := 126) (il := 0) (xl := 0) h1 (by decide +kernel) (by decide +kernel) (by decide +kernel)
  refine p_gFc (ji := 15) (r := 141) rfl (h1.v (by decide +kernel) (by decide +kernel)) ?_
  refine p_aGc (r := 0) (h1.v (by decide +kernel) (by decide +kernel)) ?_
  refine p_it1 (by decide +kernel) ?_
  exact p_rc (r := 0) (by decide +kernel) rfl
theorem fx9_many {l1 : Int} {M : Mem} (t0 : TR 162 126 169 [] M) (r_l1 : (-2147483648) ≤ l1 ∧ l1 ≤ 2147483647) : pw (mX9_many 126 l1 M) (fun q => sp_many l1 q.1) := by
  unfold mX9_many
  refine p_pF (ji := 0) rfl (fun M1 h1 => ?_)
  replace h1 := t0.st (al := 126) (il := 0) (xl := 0) h1 (by decide +kernel) (by decide +kernel) (by decide +kernel)
  refine p_ifeq_r (r := 0) (by decide +kernel) (fun c2 => ?_) (fun c2 => ?_)
  · skip
    refine p_gFc (ji := 7) (r := 133) rfl (h1.v (by decide +kernel) (by decide +kernel)) ?_
    obtain rfl : l1 = 0 := by omega
    refine p_aGc (r := 2) (h1.v (by decide +kernel) (by decide +kernel)) ?_
    refine p_rc (r := 2) (by decide +kernel) ?_
    show sp_many _ _
    unfold sp_many
    omega
  · skip
    refine p_ifeq_r (r := 1) (by decide +kernel) (fun c4 => ?_) (fun c4 => ?_)
    · skip
      refine p_gFc (ji := 7) (r := 133) rfl (h1.v (by decide +kernel) (by decide +kernel)) ?_
      obtain rfl : l1 = 1 := by omega
      refine p_aGc (r := 2) (h1.v (by decide +kernel) (by decide +kernel)) ?_
      refine p_rc (r := 2) (by decide +kernel) ?_
      show sp_many _ _
      unfold sp_many
      omega
    · skip
      refine p_ifeq_r (r := 2) (by decide +kernel) (fun c6 => ?_) (fun c6 => ?_)
      · skip
        refine p_gFc (ji := 7) (r := 133) rfl (h1.v (by decide +kernel) (by decide +kernel)) ?_
        obtain rfl : l1 = 2 := by omega
        refine p_aGc (r := 2) (h1.v (by decide +kernel) (by decide +kernel)) ?_
        refine p_rc (r := 2) (by decide +kernel) ?_
        show sp_many _ _
        unfold sp_many
        omega
      · skip
        refine p_ifeq_r (r := 3) (by decide +kernel) (fun c8 => ?_) (fun c8 => ?_)
        · skip
          refine p_gFc (ji := 8) (r := 134) rfl (h1.v (by decide +kernel) (by decide +kernel)) ?_
          refine p_aGc (r := 0) (h1.v (by decide +kernel) (by decide +kernel)) ?_
          refine p_rc (r := 0) (by decide +kernel) ?_
          show sp_many _ _
          unfold sp_many
          omega
        · skip
          refine p_ifeq_r (r := 4) (by decide +kernel) (fun c9 => ?_) (fun c9 => ?_)
          · skip
            refine p_gFc (ji := 12) (r := 138) rfl (h1.v (by decide +kernel) (by decide +kernel)) ?_
            refine p_aGc (r := 0) (h1.v (by decide +kernel) (by decide +kernel)) ?_
            refine p_rc (r := 0) (by decide +kernel) ?_
            show sp_many _ _
            unfold sp_many
            omega
          · skip
            refine p_ifeq_r (r := 5) (by decide +kernel) (fun c10 => ?_) (fun c10 => ?_)
            · skip
              refine p_gFc (ji := 5) (r := 131) rfl (h1.v (by decide +kernel) (by decide +kernel)) ?_
              refine p_aGc (r := 0) (h1.v (by decide +kernel) (by decide +kernel)) ?_
              refine p_rc (r := 0) (by decide +kernel) ?_
              show sp_many _ _
              unfold sp_many
              omega
            · skip
              refine p_ifeq_r (r := 6) (by decide +kernel) (fun c11 => ?_) (fun c11 => ?_)
              · skip
                refine p_gFc (ji := 6) (r := 132) rfl (h1.v (by decide +kernel) (by decide +kernel)) ?_
                refine p_aGc (r := (-1)) (h1.v (by decide +kernel) (by decide +kernel)) ?_
                refine p_rc (r := (-1)) (by decide +kernel) ?_
                show sp_many _ _
                unfold sp_many
                omega
              · skip
                refine p_ifeq_r (r := 7) (by decide +kernel) (fun c12 => ?_) (fun c12 => ?_)
                · skip
                  refine p_gK ?_
                  refine p_bindg (fun Q13 hQ13 => ?_)
                  unfold mX9_told
                  refine p_gFc (ji := 6) (r := 132) rfl (h1.v (by decide +kernel) (by decide +kernel)) ?_
                  refine p_aGc (r := (-1)) (h1.v (by decide +kernel) (by decide +kernel)) ?_
                  refine p_it1 (by decide +kernel) ?_
                  refine p_gFc (ji := 5) (r := 131) rfl (h1.v (by decide +kernel) (by decide +kernel)) ?_
                  refine p_aGc (r := 0) (h1.v (by decide +kernel) (by decide +kernel)) ?_
                  unfold mX9_told_25
                  show pw (bX9_told_30 (mX9_told_30 69999) _ _ _ _ _) _
                  unfold bX9_told_30
                  refine p_gFc (ji := 12) (r := 138) rfl (h1.v (by decide +kernel) (by decide +kernel)) ?_
                  refine p_aGc (r := 0) (h1.v (by decide +kernel) (by decide +kernel)) ?_
                  refine p_it1 (by decide +kernel) ?_
                  refine p_rc (r := 0) (by decide +kernel) (hQ13 _ ?_)
                  dsimp only
                  refine p_rc (r := 0) (by decide +kernel) ?_
                  show sp_many _ _
                  unfold sp_many
                  omega
                · skip
                  refine p_ifeq_r (r := 8) (by decide +kernel) (fun c14 => ?_) (fun c14 => ?_)
                  · skip
                    show pw (bX9_many_110 (mX9_many_110 69999) _ _ _ _) _
                    unfold bX9_many_110
                    refine p_it0 (by decide +kernel) ?_
                    refine p_gFc (ji := 11) (r := 137) rfl (h1.v (by decide +kernel) (by decide +kernel)) ?_
                    refine p_aGc (r := 0) (h1.v (by decide +kernel) (by decide +kernel)) ?_
                    refine p_it1 (by decide +kernel) ?_
                    unfold mX9_many_131
                    show pw (bX9_many_110 (mX9_many_110 69998) _ _ _ _) _
                    unfold bX9_many_110
                    refine p_it0 (by decide +kernel) ?_
                    refine p_gFc (ji := 11) (r := 137) rfl (h1.v (by decide +kernel) (by decide +kernel)) ?_
                    refine p_aGc (r := 0) (h1.v (by decide +kernel) (by decide +kernel)) ?_
                    refine p_it1 (by decide +kernel) ?_
                    unfold mX9_many_131
                    show pw (bX9_many_110 (mX9_many_110 69997) _ _ _ _) _
                    unfold bX9_many_110
                    refine p_it0 (by decide +kernel) ?_
                    refine p_gFc (ji := 11) (r := 137) rfl (h1.v (by decide +kernel) (by decide +kernel)) ?_
                    refine p_aGc (r := 0) (h1.v (by decide +kernel) (by decide +kernel)) ?_
                    refine p_it1 (by decide +kernel) ?_
                    unfold mX9_many_131
                    show pw (bX9_many_110 (mX9_many_110 69996) _ _ _ _) _
                    unfold bX9_many_110
                    refine p_it0 (by decide +kernel) ?_
                    refine p_gFc (ji := 11) (r := 137) rfl (h1.v (by decide +kernel) (by decide +kernel)) ?_
                    refine p_aGc (r := 0) (h1.v (by decide +kernel) (by decide +kernel)) ?_
                    refine p_it1 (by decide +kernel) ?_
                    unfold mX9_many_131
                    show pw (bX9_many_110 (mX9_many_110 69995) _ _ _ _) _
                    unfold bX9_many_110
                    refine p_it0 (by decide +kernel) ?_
                    refine p_gFc (ji := 11) (r := 137) rfl (h1.v (by decide +kernel) (by decide +kernel)) ?_
                    refine p_aGc (r := 0) (h1.v (by decide +kernel) (by decide +kernel)) ?_
                    refine p_it1 (by decide +kernel) ?_
                    unfold mX9_many_131
                    show pw (bX9_many_110 (mX9_many_110 69994) _ _ _ _) _
                    unfold bX9_many_110
                    refine p_it0 (by decide +kernel) ?_
                    refine p_gFc (ji := 11) (r := 137) rfl (h1.v (by decide +kernel) (by decide +kernel)) ?_
                    refine p_aGc (r := 0) (h1.v (by decide +kernel) (by decide +kernel)) ?_
                    refine p_it1 (by decide +kernel) ?_
                    unfold mX9_many_131
                    show pw (bX9_many_110 (mX9_many_110 69993) _ _ _ _) _
                    unfold bX9_many_110
                    refine p_it0 (by decide +kernel) ?_
                    refine p_gFc (ji := 11) (r := 137) rfl (h1.v (by decide +kernel) (by decide +kernel)) ?_
                    refine p_aGc (r := 0) (h1.v (by decide +kernel) (by decide +kernel)) ?_
                    refine p_it1 (by decide +kernel) ?_
                    unfold mX9_many_131
                    show pw (bX9_many_110 (mX9_many_110 69992) _ _ _ _) _
                    unfold bX9_many_110
                    refine p_it0 (by decide +kernel) ?_
                    refine p_gFc (ji := 11) (r := 137) rfl (h1.v (by decide +kernel) (by decide +kernel)) ?_
                    refine p_aGc (r := 0) (h1.v (by decide +kernel) (by decide +kernel)) ?_
                    refine p_it1 (by decide +kernel) ?_
                    unfold mX9_many_131
                    show pw (bX9_many_110 (mX9_many_110 69991) _ _ _ _) _
                    unfold bX9_many_110
                    refine p_it0 (by decide +kernel) ?_
                    refine p_gFc (ji := 11) (r := 137) rfl (h1.v (by decide +kernel) (by decide +kernel)) ?_
                    refine p_aGc (r := 0) (h1.v (by decide +kernel) (by decide +kernel)) ?_
                    refine p_it1 (by decide +kernel) ?_
                    unfold mX9_many_131
                    show pw (bX9_many_110 (mX9_many_110 69990) _ _ _ _) _
                    unfold bX9_many_110
                    refine p_it0 (by decide +kernel) ?_
                    refine p_gFc (ji := 11) (r := 137) rfl (h1.v (by decide +kernel) (by decide +kernel)) ?_
                    refine p_aGc (r := 0) (h1.v (by decide +kernel) (by decide +kernel)) ?_
                    refine p_it1 (by decide +kernel) ?_
                    unfold mX9_many_131
                    show pw (bX9_many_110 (mX9_many_110 69989) _ _ _ _) _
                    unfold bX9_many_110
                    refine p_it0 (by decide +kernel) ?_
                    refine p_gFc (ji := 11) (r := 137) rfl (h1.v (by decide +kernel) (by decide +kernel)) ?_
                    refine p_aGc (r := 0) (h1.v (by decide +kernel) (by decide +kernel)) ?_
                    refine p_it1 (by decide +kernel) ?_
                    unfold mX9_many_131
                    show pw (bX9_many_110 (mX9_many_110 69988) _ _ _ _) _
                    unfold bX9_many_110
                    refine p_it0 (by decide +kernel) ?_
                    refine p_gFc (ji := 11) (r := 137) rfl (h1.v (by decide +kernel) (by decide +kernel)) ?_
                    refine p_aGc (r := 0) (h1.v (by decide +kernel) (by decide +kernel)) ?_
                    refine p_it1 (by decide +kernel) ?_
                    unfold mX9_many_131
                    show pw (bX9_many_110 (mX9_many_110 69987) _ _ _ _) _
                    unfold bX9_many_110
                    refine p_it0 (by decide +kernel) ?_
                    refine p_gFc (ji := 11) (r := 137) rfl (h1.v (by decide +kernel) (by decide +kernel)) ?_
                    refine p_aGc (r := 0) (h1.v (by decide +kernel) (by decide +kernel)) ?_
                    refine p_it1 (by decide +kernel) ?_
                    unfold mX9_many_131
                    show pw (bX9_many_110 (mX9_many_110 69986) _ _ _ _) _
                    unfold bX9_many_110
                    refine p_it0 (by decide +kernel) ?_
                    refine p_gFc (ji := 11) (r := 137) rfl (h1.v (by decide +kernel) (by decide +kernel)) ?_
                    refine p_aGc (r := 0) (h1.v (by decide +kernel) (by decide +kernel)) ?_
                    refine p_it1 (by decide +kernel) ?_
                    unfold mX9_many_131
                    show pw (bX9_many_110 (mX9_many_110 69985) _ _ _ _) _
                    unfold bX9_many_110
                    refine p_it0 (by decide +kernel) ?_
                    refine p_gFc (ji := 11) (r := 137) rfl (h1.v (by decide +kernel) (by decide +kernel)) ?_
                    refine p_aGc (r := 0) (h1.v (by decide +kernel) (by decide +kernel)) ?_
                    refine p_it1 (by decide +kernel) ?_
                    unfold mX9_many_131
                    show pw (bX9_many_110 (mX9_many_110 69984) _ _ _ _) _
                    unfold bX9_many_110
                    refine p_it0 (by decide +kernel) ?_
                    refine p_gFc (ji := 11) (r := 137) rfl (h1.v (by decide +kernel) (by decide +kernel)) ?_
                    refine p_aGc (r := 0) (h1.v (by decide +kernel) (by decide +kernel)) ?_
                    refine p_it1 (by decide +kernel) ?_
                    unfold mX9_many_131
                    show pw (bX9_many_110 (mX9_many_110 69983) _ _ _ _) _
                    unfold bX9_many_110
                    refine p_it0 (by decide +kernel) ?_
                    refine p_gFc (ji := 11) (r := 137) rfl (h1.v (by decide +kernel) (by decide +kernel)) ?_
                    refine p_aGc (r := 0) (h1.v (by decide +kernel) (by decide +kernel)) ?_
                    refine p_it1 (by decide +kernel) ?_
                    unfold mX9_many_131
                    show pw (bX9_many_110 (mX9_many_110 69982) _ _ _ _) _
                    unfold bX9_many_110
                    refine p_it0 (by decide +kernel) ?_
                    refine p_gFc (ji := 11) (r := 137) rfl (h1.v (by decide +kernel) (by decide +kernel)) ?_
                    refine p_aGc (r := 0) (h1.v (by decide +kernel) (by decide +kernel)) ?_
                    refine p_it1 (by decide +kernel) ?_
                    unfold mX9_many_131
                    show pw (bX9_many_110 (mX9_many_110 69981) _ _ _ _) _
                    unfold bX9_many_110
                    refine p_it0 (by decide +kernel) ?_
                    refine p_gFc (ji := 11) (r := 137) rfl (h1.v (by decide +kernel) (by decide +kernel)) ?_
                    refine p_aGc (r := 0) (h1.v (by decide +kernel) (by decide +kernel)) ?_
                    refine p_it1 (by decide +kernel) ?_
                    unfold mX9_many_131
                    show pw (bX9_many_110 (mX9_many_110 69980) _ _ _ _) _
                    unfold bX9_many_110
                    refine p_it0 (by decide +kernel) ?_
                    refine p_gFc (ji := 11) (r := 137) rfl (h1.v (by decide +kernel) (by decide +kernel)) ?_
                    refine p_aGc (r := 0) (h1.v (by decide +kernel) (by decide +kernel)) ?_
                    refine p_it1 (by decide +kernel) ?_
                    unfold mX9_many_131
                    show pw (bX9_many_110 (mX9_many_110 69979) _ _ _ _) _
                    unfold bX9_many_110
                    refine p_it0 (by decide +kernel) ?_
                    refine p_gFc (ji := 11) (r := 137) rfl (h1.v (by decide +kernel) (by decide +kernel)) ?_
                    refine p_aGc (r := 0) (h1.v (by decide +kernel) (by decide +kernel)) ?_
                    refine p_it1 (by decide +kernel) ?_
                    unfold mX9_many_131
                    show pw (bX9_many_110 (mX9_many_110 69978) _ _ _ _) _
                    unfold bX9_many_110
                    refine p_it0 (by decide +kernel) ?_
                    refine p_gFc (ji := 11) (r := 137) rfl (h1.v (by decide +kernel) (by decide +kernel)) ?_
                    refine p_aGc (r := 0) (h1.v (by decide +kernel) (by decide +kernel)) ?_
                    refine p_it1 (by decide +kernel) ?_
                    unfold mX9_many_131
                    show pw (bX9_many_110 (mX9_many_110 69977) _ _ _ _) _
                    unfold bX9_many_110
                    refine p_it0 (by decide +kernel) ?_
                    refine p_gFc (ji := 11) (r := 137) rfl (h1.v (by decide +kernel) (by decide +kernel)) ?_
                    refine p_aGc (r := 0) (h1.v (by decide +kernel) (by decide +kernel)) ?_
                    refine p_it1 (by decide +kernel) ?_
                    unfold mX9_many_131
                    show pw (bX9_many_110 (mX9_many_110 69976) _ _ _ _) _
                    unfold bX9_many_110
                    refine p_it0 (by decide +kernel) ?_
                    refine p_gFc (ji := 11) (r := 137) rfl (h1.v (by decide +kernel) (by decide +kernel)) ?_
                    refine p_aGc (r := 0) (h1.v (by decide +kernel) (by decide +kernel)) ?_
                    refine p_it1 (by decide +kernel) ?_
                    unfold mX9_many_131
                    show pw (bX9_many_110 (mX9_many_110 69975) _ _ _ _) _
                    unfold bX9_many_110
                    refine p_it0 (by decide +kernel) ?_
                    refine p_gFc (ji := 11) (r := 137) rfl (h1.v (by decide +kernel) (by decide +kernel)) ?_
                    refine p_aGc (r := 0) (h1.v (by decide +kernel) (by decide +kernel)) ?_
                    refine p_it1 (by decide +kernel) ?_
                    unfold mX9_many_131
                    show pw (bX9_many_110 (mX9_many_110 69974) _ _ _ _) _
                    unfold bX9_many_110
                    refine p_it0 (by decide +kernel) ?_
                    refine p_gFc (ji := 11) (r := 137) rfl (h1.v (by decide +kernel) (by decide +kernel)) ?_
                    refine p_aGc (r := 0) (h1.v (by decide +kernel) (by decide +kernel)) ?_
                    refine p_it1 (by decide +kernel) ?_
                    unfold mX9_many_131
                    show pw (bX9_many_110 (mX9_many_110 69973) _ _ _ _) _
                    unfold bX9_many_110
                    refine p_it0 (by decide +kernel) ?_
                    refine p_gFc (ji := 11) (r := 137) rfl (h1.v (by decide +kernel) (by decide +kernel)) ?_
                    refine p_aGc (r := 0) (h1.v (by decide +kernel) (by decide +kernel)) ?_
                    refine p_it1 (by decide +kernel) ?_
                    unfold mX9_many_131
                    show pw (bX9_many_110 (mX9_many_110 69972) _ _ _ _) _
                    unfold bX9_many_110
                    refine p_it0 (by decide +kernel) ?_
                    refine p_gFc (ji := 11) (r := 137) rfl (h1.v (by decide +kernel) (by decide +kernel)) ?_
                    refine p_aGc (r := 0) (h1.v (by decide +kernel) (by decide +kernel)) ?_
                    refine p_it1 (by decide +kernel) ?_
                    unfold mX9_many_131
                    show pw (bX9_many_110 (mX9_many_110 69971) _ _ _ _) _
                    unfold bX9_many_110
                    refine p_it0 (by decide +kernel) ?_
                    refine p_gFc (ji := 11) (r := 137) rfl (h1.v (by decide +kernel) (by decide +kernel)) ?_
                    refine p_aGc (r := 0) (h1.v (by decide +kernel) (by decide +kernel)) ?_
                    refine p_it1 (by decide +kernel) ?_
                    unfold mX9_many_131
                    show pw (bX9_many_110 (mX9_many_110 69970) _ _ _ _) _
                    unfold bX9_many_110
                    refine p_it0 (by decide +kernel) ?_
                    refine p_gFc (ji := 11) (r := 137) rfl (h1.v (by decide +kernel) (by decide +kernel)) ?_
                    refine p_aGc (r := 0) (h1.v (by decide +kernel) (by decide +kernel)) ?_
                    refine p_it1 (by decide +kernel) ?_
                    unfold mX9_many_131
                    show pw (bX9_many_110 (mX9_many_110 69969) _ _ _ _) _
                    unfold bX9_many_110
                    refine p_it0 (by decide +kernel) ?_
                    refine p_gFc (ji := 11) (r := 137) rfl (h1.v (by decide +kernel) (by decide +kernel)) ?_
                    refine p_aGc (r := 0) (h1.v (by decide +kernel) (by decide +kernel)) ?_
                    refine p_it1 (by decide +kernel) ?_
                    unfold mX9_many_131
                    show pw (bX9_many_110 (mX9_many_110 69968) _ _ _ _) _
                    unfold bX9_many_110
                    refine p_it0 (by decide +kernel) ?_
                    refine p_gFc (ji := 11) (r := 137) rfl (h1.v (by decide +kernel) (by decide +kernel)) ?_
                    refine p_aGc (r := 0) (h1.v (by decide +kernel) (by decide +kernel)) ?_
                    refine p_it1 (by decide +kernel) ?_
                    unfold mX9_many_131
                    show pw (bX9_many_110 (mX9_many_110 69967) _ _ _ _) _
                    unfold bX9_many_110
                    refine p_it0 (by decide +kernel) ?_
                    refine p_gFc (ji := 11) (r := 137) rfl (h1.v (by decide +kernel) (by decide +kernel)) ?_
                    refine p_aGc (r := 0) (h1.v (by decide +kernel) (by decide +kernel)) ?_
                    refine p_it1 (by decide +kernel) ?_
                    unfold mX9_many_131
                    show pw (bX9_many_110 (mX9_many_110 69966) _ _ _ _) _
                    unfold bX9_many_110
                    refine p_it0 (by decide +kernel) ?_
                    refine p_gFc (ji := 11) (r := 137) rfl (h1.v (by decide +kernel) (by decide +kernel)) ?_
                    refine p_aGc (r := 0) (h1.v (by decide +kernel) (by decide +kernel)) ?_
                    refine p_it1 (by decide +kernel) ?_
                    unfold mX9_many_131
                    show pw (bX9_many_110 (mX9_many_110 69965) _ _ _ _) _
                    unfold bX9_many_110
                    refine p_it0 (by decide +kernel) ?_
                    refine p_gFc (ji := 11) (r := 137) rfl (h1.v (by decide +kernel) (by decide +kernel)) ?_
                    refine p_aGc (r := 0) (h1.v (by decide +kernel) (by decide +kernel)) ?_
                    refine p_it1 (by decide +kernel) ?_
                    unfold mX9_many_131
                    show pw (bX9_many_110 (mX9_many_110 69964) _ _ _ _) _
                    unfold bX9_many_110
                    refine p_it0 (by decide +kernel) ?_
                    refine p_gFc (ji := 11) (r := 137) rfl (h1.v (by decide +kernel) (by decide +kernel)) ?_
                    refine p_aGc (r := 0) (h1.v (by decide +kernel) (by decide +kernel)) ?_
                    refine p_it1 (by decide +kernel) ?_
                    unfold mX9_many_131
                    show pw (bX9_many_110 (mX9_many_110 69963) _ _ _ _) _
                    unfold bX9_many_110
                    refine p_it1 (by decide +kernel) ?_
                    refine p_rc (r := 0) (by decide +kernel) ?_
                    show sp_many _ _
                    unfold sp_many
                    omega
                  · skip
                    refine p_ifeq_r (r := 9) (by decide +kernel) (fun c15 => ?_) (fun c15 => ?_)
                    · skip
                      refine p_gFc (ji := 15) (r := 141) rfl (h1.v (by decide +kernel) (by decide +kernel)) ?_
                      refine p_aGc (r := 0) (h1.v (by decide +kernel) (by decide +kernel)) ?_
                      refine p_rc (r := 0) (by decide +kernel) ?_
                      show sp_many _ _
                      unfold sp_many
                      omega
                    · skip
                      refine p_ifeq_r (r := 10) (by decide +kernel) (fun c16 => ?_) (fun c16 => ?_)
                      · skip
                        refine p_gFc (ji := 20) (r := 146) rfl (h1.v (by decide +kernel) (by decide +kernel)) ?_
                        refine p_aGc (r := 0) (h1.v (by decide +kernel) (by decide +kernel)) ?_
                        refine p_rc (r := 0) (by decide +kernel) ?_
                        show sp_many _ _
                        unfold sp_many
                        omega
                      · skip
                        refine p_rc (r := (-2)) (by decide +kernel) ?_
                        show sp_many _ _
                        unfold sp_many
                        omega
