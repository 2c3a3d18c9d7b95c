/-! ===== the law holds ===== -/
theorem w_aX {β : Type} {Q : β → Prop} {L : Nat} {xs : Nat → Int32} {i : Int} {f : Int → Option β} (h : 0 ≤ i ∧ i < (L : Int)) (k : wp (f (xs i.toNat).toInt) Q) : wp ((aX L xs i).bind f) Q := by
  unfold aX; rw [if_pos h]; exact k
theorem xr (x : Int32) : (-2147483648) ≤ x.toInt ∧ x.toInt ≤ 2147483647 := ⟨toInt_lo x, by have := toInt_hi x; omega⟩
theorem w_j {M : Mem} {x : Option (Int × Mem)} {y : Mem → Option (Int × Mem)} {f : Int × Mem → Option (Int × Mem)} {R : Int × Mem → Int × Mem → Prop} {Q : Int × Mem → Prop} {P : Int × Mem → Prop} (h : wp x (fun q1 => wp (y q1.2) (R q1))) (h2 : wp x P) (h3 : ∀ q, P q → (mK q.2 126).1 = 9) (k : ∀ r m, (mK m 126).1 = 9 → wp (y m) (R (r, m)) → wp (f (r, m)) Q) : wp (x.bind f) Q := by
  obtain ⟨q, e, a⟩ := h
  rw [e]
  exact k q.1 q.2 (h3 q (w_so h2 e)) a
theorem lc_188 {L : Nat} {xs : Nat → Int32} {l3 : Int} {M : Mem} {k18 : Int → Int → Int → Mem → Option (Int × Mem)} (hJ : J4 M) (hx : ∀ j : Int, 0 ≤ j → j ≤ 5 → 0 ≤ wI (l3 + j) ∧ wI (l3 + j) < (L : Int)) (hk : ∀ M2, J4 M2 → wp (k18 1 126 (wI (l3 + 6)) M2) (fun q => q.1 = 1)) : wp (mL_law_188 L xs k18 1 126 l3 M) (fun q => q.1 = 1) := by
  unfold mL_law_188
  refine w_aX (hx 1 (by decide) (by decide)) ?_
  refine w_aX (hx 2 (by decide) (by decide)) ?_
  refine w_gK (congrArg Prod.fst (kl_1 hJ.1.1.1.1.1)) ?_
  refine w_j (M := M) (j4_size (xr _) (xr _) hJ) (s_X8_size (xr _) (xr _) hJ.1.1.1.1.1) (fun q hq => congrArg Prod.fst (kl_126 hq.1)) ?_
  intro r1 m1 hk9 hw
  dsimp only
  refine w_aX (hx 1 (by decide) (by decide)) ?_
  refine w_aX (hx 2 (by decide) (by decide)) ?_
  refine w_gK hk9 ?_
  refine w_call hw ?_
  intro r2 m2 hJ2
  have hJ2 : J4 m2 := hJ2
  dsimp only
  unfold mL_law_1135
  exact hk _ hJ2
theorem lc_221 {L : Nat} {xs : Nat → Int32} {l3 : Int} {M : Mem} {k18 : Int → Int → Int → Mem → Option (Int × Mem)} (hJ : J4 M) (hx : ∀ j : Int, 0 ≤ j → j ≤ 5 → 0 ≤ wI (l3 + j) ∧ wI (l3 + j) < (L : Int)) (hk : ∀ M2, J4 M2 → wp (k18 1 126 (wI (l3 + 6)) M2) (fun q => q.1 = 1)) : wp (mL_law_221 L xs k18 1 126 l3 M) (fun q => q.1 = 1) := by
  unfold mL_law_221
  refine w_aX (hx 1 (by decide) (by decide)) ?_
  refine w_aX (hx 2 (by decide) (by decide)) ?_
  refine w_gK (congrArg Prod.fst (kl_1 hJ.1.1.1.1.1)) ?_
  refine w_j (M := M) (j4_relation (xr _) (xr _) hJ) (s_X8_relation (xr _) (xr _) hJ.1.1.1.1.1) (fun q hq => congrArg Prod.fst (kl_126 hq.1)) ?_
  intro r1 m1 hk9 hw
  dsimp only
  refine w_aX (hx 1 (by decide) (by decide)) ?_
  refine w_aX (hx 2 (by decide) (by decide)) ?_
  refine w_gK hk9 ?_
  refine w_call hw ?_
  intro r2 m2 hJ2
  have hJ2 : J4 m2 := hJ2
  dsimp only
  unfold mL_law_1135
  exact hk _ hJ2
theorem lc_254 {L : Nat} {xs : Nat → Int32} {l3 : Int} {M : Mem} {k18 : Int → Int → Int → Mem → Option (Int × Mem)} (hJ : J4 M) (hx : ∀ j : Int, 0 ≤ j → j ≤ 5 → 0 ≤ wI (l3 + j) ∧ wI (l3 + j) < (L : Int)) (hk : ∀ M2, J4 M2 → wp (k18 1 126 (wI (l3 + 6)) M2) (fun q => q.1 = 1)) : wp (mL_law_254 L xs k18 1 126 l3 M) (fun q => q.1 = 1) := by
  unfold mL_law_254
  refine w_gK (congrArg Prod.fst (kl_1 hJ.1.1.1.1.1)) ?_
  refine w_j (M := M) (j4_facts  hJ) (s_X8_facts  hJ.1.1.1.1.1) (fun q hq => congrArg Prod.fst (kl_126 hq.1)) ?_
  intro r1 m1 hk9 hw
  dsimp only
  refine w_gK hk9 ?_
  refine w_call hw ?_
  intro r2 m2 hJ2
  have hJ2 : J4 m2 := hJ2
  dsimp only
  unfold mL_law_1135
  exact hk _ hJ2
theorem lc_267 {L : Nat} {xs : Nat → Int32} {l3 : Int} {M : Mem} {k18 : Int → Int → Int → Mem → Option (Int × Mem)} (hJ : J4 M) (hx : ∀ j : Int, 0 ≤ j → j ≤ 5 → 0 ≤ wI (l3 + j) ∧ wI (l3 + j) < (L : Int)) (hk : ∀ M2, J4 M2 → wp (k18 1 126 (wI (l3 + 6)) M2) (fun q => q.1 = 1)) : wp (mL_law_267 L xs k18 1 126 l3 M) (fun q => q.1 = 1) := by
  unfold mL_law_267
  refine w_aX (hx 1 (by decide) (by decide)) ?_
  refine w_aX (hx 2 (by decide) (by decide)) ?_
  refine w_aX (hx 3 (by decide) (by decide)) ?_
  refine w_aX (hx 4 (by decide) (by decide)) ?_
  refine w_if (fun cb => ?_) (fun cb => ?_)
  · skip
    unfold mL_law_296
    refine w_gK (congrArg Prod.fst (kl_1 hJ.1.1.1.1.1)) ?_
    refine w_j (M := M) (j4_tell (xr _) (xr _) (xr _) (by decide) hJ) (s_X8_tell (xr _) (xr _) (xr _) (by decide) hJ.1.1.1.1.1) (fun q hq => congrArg Prod.fst (kl_126 hq.1)) ?_
    intro r1 m1 hk9 hw
    dsimp only
    refine w_aX (hx 1 (by decide) (by decide)) ?_
    refine w_aX (hx 2 (by decide) (by decide)) ?_
    refine w_aX (hx 3 (by decide) (by decide)) ?_
    refine w_aX (hx 4 (by decide) (by decide)) ?_
    rw [if_pos cb]
    unfold mL_law_329
    refine w_gK hk9 ?_
    refine w_call hw ?_
    intro r2 m2 hJ2
    have hJ2 : J4 m2 := hJ2
    dsimp only
    unfold mL_law_1135
    exact hk _ hJ2
  · skip
    unfold mL_law_296
    refine w_gK (congrArg Prod.fst (kl_1 hJ.1.1.1.1.1)) ?_
    refine w_j (M := M) (j4_tell (xr _) (xr _) (xr _) (by decide) hJ) (s_X8_tell (xr _) (xr _) (xr _) (by decide) hJ.1.1.1.1.1) (fun q hq => congrArg Prod.fst (kl_126 hq.1)) ?_
    intro r1 m1 hk9 hw
    dsimp only
    refine w_aX (hx 1 (by decide) (by decide)) ?_
    refine w_aX (hx 2 (by decide) (by decide)) ?_
    refine w_aX (hx 3 (by decide) (by decide)) ?_
    refine w_aX (hx 4 (by decide) (by decide)) ?_
    rw [if_neg cb]
    unfold mL_law_329
    refine w_gK hk9 ?_
    refine w_call hw ?_
    intro r2 m2 hJ2
    have hJ2 : J4 m2 := hJ2
    dsimp only
    unfold mL_law_1135
    exact hk _ hJ2
theorem lc_336 {L : Nat} {xs : Nat → Int32} {l3 : Int} {M : Mem} {k18 : Int → Int → Int → Mem → Option (Int × Mem)} (hJ : J4 M) (hx : ∀ j : Int, 0 ≤ j → j ≤ 5 → 0 ≤ wI (l3 + j) ∧ wI (l3 + j) < (L : Int)) (hk : ∀ M2, J4 M2 → wp (k18 1 126 (wI (l3 + 6)) M2) (fun q => q.1 = 1)) : wp (mL_law_336 L xs k18 1 126 l3 M) (fun q => q.1 = 1) := by
  unfold mL_law_336
  refine w_aX (hx 1 (by decide) (by decide)) ?_
  refine w_aX (hx 2 (by decide) (by decide)) ?_
  refine w_aX (hx 3 (by decide) (by decide)) ?_
  refine w_gK (congrArg Prod.fst (kl_1 hJ.1.1.1.1.1)) ?_
  refine w_j (M := M) (j4_fact (xr _) (xr _) (xr _) hJ) (s_X8_fact (xr _) (xr _) (xr _) hJ.1.1.1.1.1) (fun q hq => congrArg Prod.fst (kl_126 hq.1)) ?_
  intro r1 m1 hk9 hw
  dsimp only
  refine w_aX (hx 1 (by decide) (by decide)) ?_
  refine w_aX (hx 2 (by decide) (by decide)) ?_
  refine w_aX (hx 3 (by decide) (by decide)) ?_
  refine w_gK hk9 ?_
  refine w_call hw ?_
  intro r2 m2 hJ2
  have hJ2 : J4 m2 := hJ2
  dsimp only
  unfold mL_law_1135
  exact hk _ hJ2
theorem lc_379 {L : Nat} {xs : Nat → Int32} {l3 : Int} {M : Mem} {k18 : Int → Int → Int → Mem → Option (Int × Mem)} (hJ : J4 M) (hx : ∀ j : Int, 0 ≤ j → j ≤ 5 → 0 ≤ wI (l3 + j) ∧ wI (l3 + j) < (L : Int)) (hk : ∀ M2, J4 M2 → wp (k18 1 126 (wI (l3 + 6)) M2) (fun q => q.1 = 1)) : wp (mL_law_379 L xs k18 1 126 l3 M) (fun q => q.1 = 1) := by
  unfold mL_law_379
  refine w_aX (hx 1 (by decide) (by decide)) ?_
  refine w_aX (hx 2 (by decide) (by decide)) ?_
  refine w_aX (hx 3 (by decide) (by decide)) ?_
  refine w_aX (hx 4 (by decide) (by decide)) ?_
  refine w_if (fun cb => ?_) (fun cb => ?_)
  · skip
    unfold mL_law_408
    refine w_gK (congrArg Prod.fst (kl_1 hJ.1.1.1.1.1)) ?_
    refine w_j (M := M) (j4_known (xr _) (xr _) (xr _) (by decide) hJ) (s_X8_known (xr _) (xr _) (xr _) (by decide) hJ.1.1.1.1.1) (fun q hq => congrArg Prod.fst (kl_126 hq.1)) ?_
    intro r1 m1 hk9 hw
    dsimp only
    refine w_aX (hx 1 (by decide) (by decide)) ?_
    refine w_aX (hx 2 (by decide) (by decide)) ?_
    refine w_aX (hx 3 (by decide) (by decide)) ?_
    refine w_aX (hx 4 (by decide) (by decide)) ?_
    rw [if_pos cb]
    unfold mL_law_441
    refine w_gK hk9 ?_
    refine w_call hw ?_
    intro r2 m2 hJ2
    have hJ2 : J4 m2 := hJ2
    dsimp only
    unfold mL_law_1135
    exact hk _ hJ2
  · skip
    unfold mL_law_408
    refine w_gK (congrArg Prod.fst (kl_1 hJ.1.1.1.1.1)) ?_
    refine w_j (M := M) (j4_known (xr _) (xr _) (xr _) (by decide) hJ) (s_X8_known (xr _) (xr _) (xr _) (by decide) hJ.1.1.1.1.1) (fun q hq => congrArg Prod.fst (kl_126 hq.1)) ?_
    intro r1 m1 hk9 hw
    dsimp only
    refine w_aX (hx 1 (by decide) (by decide)) ?_
    refine w_aX (hx 2 (by decide) (by decide)) ?_
    refine w_aX (hx 3 (by decide) (by decide)) ?_
    refine w_aX (hx 4 (by decide) (by decide)) ?_
    rw [if_neg cb]
    unfold mL_law_441
    refine w_gK hk9 ?_
    refine w_call hw ?_
    intro r2 m2 hJ2
    have hJ2 : J4 m2 := hJ2
    dsimp only
    unfold mL_law_1135
    exact hk _ hJ2
theorem lc_448 {L : Nat} {xs : Nat → Int32} {l3 : Int} {M : Mem} {k18 : Int → Int → Int → Mem → Option (Int × Mem)} (hJ : J4 M) (hx : ∀ j : Int, 0 ≤ j → j ≤ 5 → 0 ≤ wI (l3 + j) ∧ wI (l3 + j) < (L : Int)) (hk : ∀ M2, J4 M2 → wp (k18 1 126 (wI (l3 + 6)) M2) (fun q => q.1 = 1)) : wp (mL_law_448 L xs k18 1 126 l3 M) (fun q => q.1 = 1) := by
  unfold mL_law_448
  refine w_aX (hx 1 (by decide) (by decide)) ?_
  refine w_gK (congrArg Prod.fst (kl_1 hJ.1.1.1.1.1)) ?_
  refine w_j (M := M) (j4_keep (xr _) hJ) (s_X8_keep (xr _) hJ.1.1.1.1.1) (fun q hq => congrArg Prod.fst (kl_126 hq.1)) ?_
  intro r1 m1 hk9 hw
  dsimp only
  refine w_aX (hx 1 (by decide) (by decide)) ?_
  refine w_gK hk9 ?_
  refine w_call hw ?_
  intro r2 m2 hJ2
  have hJ2 : J4 m2 := hJ2
  dsimp only
  unfold mL_law_1135
  exact hk _ hJ2
theorem lc_471 {L : Nat} {xs : Nat → Int32} {l3 : Int} {M : Mem} {k18 : Int → Int → Int → Mem → Option (Int × Mem)} (hJ : J4 M) (hx : ∀ j : Int, 0 ≤ j → j ≤ 5 → 0 ≤ wI (l3 + j) ∧ wI (l3 + j) < (L : Int)) (hk : ∀ M2, J4 M2 → wp (k18 1 126 (wI (l3 + 6)) M2) (fun q => q.1 = 1)) : wp (mL_law_471 L xs k18 1 126 l3 M) (fun q => q.1 = 1) := by
  unfold mL_law_471
  refine w_aX (hx 1 (by decide) (by decide)) ?_
  refine w_gK (congrArg Prod.fst (kl_1 hJ.1.1.1.1.1)) ?_
  refine w_j (M := M) (j4_apart (xr _) hJ) (s_X8_apart (xr _) hJ.1.1.1.1.1) (fun q hq => congrArg Prod.fst (kl_126 hq.1)) ?_
  intro r1 m1 hk9 hw
  dsimp only
  refine w_aX (hx 1 (by decide) (by decide)) ?_
  refine w_gK hk9 ?_
  refine w_call hw ?_
  intro r2 m2 hJ2
  have hJ2 : J4 m2 := hJ2
  dsimp only
  unfold mL_law_1135
  exact hk _ hJ2
theorem lc_494 {L : Nat} {xs : Nat → Int32} {l3 : Int} {M : Mem} {k18 : Int → Int → Int → Mem → Option (Int × Mem)} (hJ : J4 M) (hx : ∀ j : Int, 0 ≤ j → j ≤ 5 → 0 ≤ wI (l3 + j) ∧ wI (l3 + j) < (L : Int)) (hk : ∀ M2, J4 M2 → wp (k18 1 126 (wI (l3 + 6)) M2) (fun q => q.1 = 1)) : wp (mL_law_494 L xs k18 1 126 l3 M) (fun q => q.1 = 1) := by
  unfold mL_law_494
  refine w_aX (hx 1 (by decide) (by decide)) ?_
  refine w_aX (hx 2 (by decide) (by decide)) ?_
  refine w_aX (hx 3 (by decide) (by decide)) ?_
  refine w_aX (hx 4 (by decide) (by decide)) ?_
  refine w_aX (hx 5 (by decide) (by decide)) ?_
  refine w_gK (congrArg Prod.fst (kl_1 hJ.1.1.1.1.1)) ?_
  refine w_j (M := M) (j4_feed (xr _) (xr _) (xr _) (xr _) (xr _) hJ) (s_X8_feed (xr _) (xr _) (xr _) (xr _) (xr _) hJ.1.1.1.1.1) (fun q hq => congrArg Prod.fst (kl_126 hq.1)) ?_
  intro r1 m1 hk9 hw
  dsimp only
  refine w_aX (hx 1 (by decide) (by decide)) ?_
  refine w_aX (hx 2 (by decide) (by decide)) ?_
  refine w_aX (hx 3 (by decide) (by decide)) ?_
  refine w_aX (hx 4 (by decide) (by decide)) ?_
  refine w_aX (hx 5 (by decide) (by decide)) ?_
  refine w_gK hk9 ?_
  refine w_call hw ?_
  intro r2 m2 hJ2
  have hJ2 : J4 m2 := hJ2
  dsimp only
  unfold mL_law_1135
  exact hk _ hJ2
theorem lc_557 {L : Nat} {xs : Nat → Int32} {l3 : Int} {M : Mem} {k18 : Int → Int → Int → Mem → Option (Int × Mem)} (hJ : J4 M) (hx : ∀ j : Int, 0 ≤ j → j ≤ 5 → 0 ≤ wI (l3 + j) ∧ wI (l3 + j) < (L : Int)) (hk : ∀ M2, J4 M2 → wp (k18 1 126 (wI (l3 + 6)) M2) (fun q => q.1 = 1)) : wp (mL_law_557 L xs k18 1 126 l3 M) (fun q => q.1 = 1) := by
  unfold mL_law_557
  refine w_aX (hx 1 (by decide) (by decide)) ?_
  refine w_gK (congrArg Prod.fst (kl_1 hJ.1.1.1.1.1)) ?_
  refine w_j (M := M) (j4_end (xr _) hJ) (s_X8_end (xr _) hJ.1.1.1.1.1) (fun q hq => congrArg Prod.fst (kl_126 hq.1)) ?_
  intro r1 m1 hk9 hw
  dsimp only
  refine w_aX (hx 1 (by decide) (by decide)) ?_
  refine w_gK hk9 ?_
  refine w_call hw ?_
  intro r2 m2 hJ2
  have hJ2 : J4 m2 := hJ2
  dsimp only
  unfold mL_law_1135
  exact hk _ hJ2
theorem lc_580 {L : Nat} {xs : Nat → Int32} {l3 : Int} {M : Mem} {k18 : Int → Int → Int → Mem → Option (Int × Mem)} (hJ : J4 M) (hx : ∀ j : Int, 0 ≤ j → j ≤ 5 → 0 ≤ wI (l3 + j) ∧ wI (l3 + j) < (L : Int)) (hk : ∀ M2, J4 M2 → wp (k18 1 126 (wI (l3 + 6)) M2) (fun q => q.1 = 1)) : wp (mL_law_580 L xs k18 1 126 l3 M) (fun q => q.1 = 1) := by
  unfold mL_law_580
  refine w_gK (congrArg Prod.fst (kl_1 hJ.1.1.1.1.1)) ?_
  refine w_j (M := M) (j4_story  hJ) (s_X8_story hJ.1.1.1.1.1) (fun q hq => by obtain ⟨⟨n, _, i, _⟩, _⟩ := hq; exact congrArg Prod.fst (kl_126 i)) ?_
  intro r1 m1 hk9 hw
  dsimp only
  refine w_gK hk9 ?_
  refine w_call hw ?_
  intro r2 m2 hJ2
  have hJ2 : J4 m2 := hJ2
  dsimp only
  unfold mL_law_1135
  exact hk _ hJ2
theorem lc_593 {L : Nat} {xs : Nat → Int32} {l3 : Int} {M : Mem} {k18 : Int → Int → Int → Mem → Option (Int × Mem)} (hJ : J4 M) (hx : ∀ j : Int, 0 ≤ j → j ≤ 5 → 0 ≤ wI (l3 + j) ∧ wI (l3 + j) < (L : Int)) (hk : ∀ M2, J4 M2 → wp (k18 1 126 (wI (l3 + 6)) M2) (fun q => q.1 = 1)) : wp (mL_law_593 L xs k18 1 126 l3 M) (fun q => q.1 = 1) := by
  unfold mL_law_593
  refine w_gK (congrArg Prod.fst (kl_1 hJ.1.1.1.1.1)) ?_
  refine w_j (M := M) (j4_guess  hJ) (s_X8_guess hJ.1.1.1.1.1) (fun q hq => by obtain ⟨⟨n, _, i, _⟩, _⟩ := hq; exact congrArg Prod.fst (kl_126 i)) ?_
  intro r1 m1 hk9 hw
  dsimp only
  refine w_gK hk9 ?_
  refine w_call hw ?_
  intro r2 m2 hJ2
  have hJ2 : J4 m2 := hJ2
  dsimp only
  unfold mL_law_1135
  exact hk _ hJ2
theorem lc_606 {L : Nat} {xs : Nat → Int32} {l3 : Int} {M : Mem} {k18 : Int → Int → Int → Mem → Option (Int × Mem)} (hJ : J4 M) (hx : ∀ j : Int, 0 ≤ j → j ≤ 5 → 0 ≤ wI (l3 + j) ∧ wI (l3 + j) < (L : Int)) (hk : ∀ M2, J4 M2 → wp (k18 1 126 (wI (l3 + 6)) M2) (fun q => q.1 = 1)) : wp (mL_law_606 L xs k18 1 126 l3 M) (fun q => q.1 = 1) := by
  unfold mL_law_606
  refine w_aX (hx 1 (by decide) (by decide)) ?_
  refine w_gK (congrArg Prod.fst (kl_1 hJ.1.1.1.1.1)) ?_
  refine w_j (M := M) (j4_fault (xr _) hJ) (s_X8_fault (xr _) hJ.1.1.1.1.1) (fun q hq => congrArg Prod.fst (kl_126 hq.1)) ?_
  intro r1 m1 hk9 hw
  dsimp only
  refine w_aX (hx 1 (by decide) (by decide)) ?_
  refine w_gK hk9 ?_
  refine w_call hw ?_
  intro r2 m2 hJ2
  have hJ2 : J4 m2 := hJ2
  dsimp only
  unfold mL_law_1135
  exact hk _ hJ2
theorem lc_629 {L : Nat} {xs : Nat → Int32} {l3 : Int} {M : Mem} {k18 : Int → Int → Int → Mem → Option (Int × Mem)} (hJ : J4 M) (hx : ∀ j : Int, 0 ≤ j → j ≤ 5 → 0 ≤ wI (l3 + j) ∧ wI (l3 + j) < (L : Int)) (hk : ∀ M2, J4 M2 → wp (k18 1 126 (wI (l3 + 6)) M2) (fun q => q.1 = 1)) : wp (mL_law_629 L xs k18 1 126 l3 M) (fun q => q.1 = 1) := by
  unfold mL_law_629
  refine w_aX (hx 1 (by decide) (by decide)) ?_
  refine w_gK (congrArg Prod.fst (kl_1 hJ.1.1.1.1.1)) ?_
  refine w_j (M := M) (j4_strike (xr _) hJ) (s_X8_strike (xr _) hJ.1.1.1.1.1) (fun q hq => congrArg Prod.fst (kl_126 hq.1)) ?_
  intro r1 m1 hk9 hw
  dsimp only
  refine w_aX (hx 1 (by decide) (by decide)) ?_
  refine w_gK hk9 ?_
  refine w_call hw ?_
  intro r2 m2 hJ2
  have hJ2 : J4 m2 := hJ2
  dsimp only
  unfold mL_law_1135
  exact hk _ hJ2
theorem lc_652 {L : Nat} {xs : Nat → Int32} {l3 : Int} {M : Mem} {k18 : Int → Int → Int → Mem → Option (Int × Mem)} (hJ : J4 M) (hx : ∀ j : Int, 0 ≤ j → j ≤ 5 → 0 ≤ wI (l3 + j) ∧ wI (l3 + j) < (L : Int)) (hk : ∀ M2, J4 M2 → wp (k18 1 126 (wI (l3 + 6)) M2) (fun q => q.1 = 1)) : wp (mL_law_652 L xs k18 1 126 l3 M) (fun q => q.1 = 1) := by
  unfold mL_law_652
  refine w_aX (hx 1 (by decide) (by decide)) ?_
  refine w_gK (congrArg Prod.fst (kl_1 hJ.1.1.1.1.1)) ?_
  refine w_j (M := M) (j4_day (xr _) hJ) (s_X8_day (xr _) hJ.1.1.1.1.1) (fun q hq => congrArg Prod.fst (kl_126 hq.1)) ?_
  intro r1 m1 hk9 hw
  dsimp only
  refine w_aX (hx 1 (by decide) (by decide)) ?_
  refine w_gK hk9 ?_
  refine w_call hw ?_
  intro r2 m2 hJ2
  have hJ2 : J4 m2 := hJ2
  dsimp only
  unfold mL_law_1135
  exact hk _ hJ2
theorem lc_675 {L : Nat} {xs : Nat → Int32} {l3 : Int} {M : Mem} {k18 : Int → Int → Int → Mem → Option (Int × Mem)} (hJ : J4 M) (hx : ∀ j : Int, 0 ≤ j → j ≤ 5 → 0 ≤ wI (l3 + j) ∧ wI (l3 + j) < (L : Int)) (hk : ∀ M2, J4 M2 → wp (k18 1 126 (wI (l3 + 6)) M2) (fun q => q.1 = 1)) : wp (mL_law_675 L xs k18 1 126 l3 M) (fun q => q.1 = 1) := by
  unfold mL_law_675
  refine w_aX (hx 1 (by decide) (by decide)) ?_
  refine w_gK (congrArg Prod.fst (kl_1 hJ.1.1.1.1.1)) ?_
  refine w_j (M := M) (j4_view (xr _) hJ) (s_X8_view (xr _) hJ.1.1.1.1.1) (fun q hq => congrArg Prod.fst (kl_126 hq.1)) ?_
  intro r1 m1 hk9 hw
  dsimp only
  refine w_aX (hx 1 (by decide) (by decide)) ?_
  refine w_gK hk9 ?_
  refine w_call hw ?_
  intro r2 m2 hJ2
  have hJ2 : J4 m2 := hJ2
  dsimp only
  unfold mL_law_1135
  exact hk _ hJ2
theorem lc_698 {L : Nat} {xs : Nat → Int32} {l3 : Int} {M : Mem} {k18 : Int → Int → Int → Mem → Option (Int × Mem)} (hJ : J4 M) (hx : ∀ j : Int, 0 ≤ j → j ≤ 5 → 0 ≤ wI (l3 + j) ∧ wI (l3 + j) < (L : Int)) (hk : ∀ M2, J4 M2 → wp (k18 1 126 (wI (l3 + 6)) M2) (fun q => q.1 = 1)) : wp (mL_law_698 L xs k18 1 126 l3 M) (fun q => q.1 = 1) := by
  unfold mL_law_698
  refine w_aX (hx 1 (by decide) (by decide)) ?_
  refine w_gK (congrArg Prod.fst (kl_1 hJ.1.1.1.1.1)) ?_
  refine w_j (M := M) (j4_so (xr _) hJ) (s_X8_so (xr _) hJ.1.1.1.1.1) (fun q hq => congrArg Prod.fst (kl_126 hq.1)) ?_
  intro r1 m1 hk9 hw
  dsimp only
  refine w_aX (hx 1 (by decide) (by decide)) ?_
  refine w_gK hk9 ?_
  refine w_call hw ?_
  intro r2 m2 hJ2
  have hJ2 : J4 m2 := hJ2
  dsimp only
  unfold mL_law_1135
  exact hk _ hJ2
theorem lc_721 {L : Nat} {xs : Nat → Int32} {l3 : Int} {M : Mem} {k18 : Int → Int → Int → Mem → Option (Int × Mem)} (hJ : J4 M) (hx : ∀ j : Int, 0 ≤ j → j ≤ 5 → 0 ≤ wI (l3 + j) ∧ wI (l3 + j) < (L : Int)) (hk : ∀ M2, J4 M2 → wp (k18 1 126 (wI (l3 + 6)) M2) (fun q => q.1 = 1)) : wp (mL_law_721 L xs k18 1 126 l3 M) (fun q => q.1 = 1) := by
  unfold mL_law_721
  refine w_aX (hx 1 (by decide) (by decide)) ?_
  refine w_aX (hx 2 (by decide) (by decide)) ?_
  refine w_gK (congrArg Prod.fst (kl_1 hJ.1.1.1.1.1)) ?_
  refine w_j (M := M) (j4_breaksE (xr _) (xr _) hJ) (s_X8_breaks (xr _) (xr _) hJ.1.1.1.1.1) (fun q hq => congrArg Prod.fst (kl_126 hq.1)) ?_
  intro r1 m1 hk9 hw
  dsimp only
  refine w_aX (hx 1 (by decide) (by decide)) ?_
  refine w_aX (hx 2 (by decide) (by decide)) ?_
  refine w_gK hk9 ?_
  refine w_call hw ?_
  rintro r2 m2 ⟨hJ2, he⟩
  have he : r1 = r2 := he
  have hJ2 : J4 m2 := hJ2
  dsimp only
  rw [if_pos he]
  unfold mL_law_1135
  exact hk _ hJ2
theorem lc_754 {L : Nat} {xs : Nat → Int32} {l3 : Int} {M : Mem} {k18 : Int → Int → Int → Mem → Option (Int × Mem)} (hJ : J4 M) (hx : ∀ j : Int, 0 ≤ j → j ≤ 5 → 0 ≤ wI (l3 + j) ∧ wI (l3 + j) < (L : Int)) (hk : ∀ M2, J4 M2 → wp (k18 1 126 (wI (l3 + 6)) M2) (fun q => q.1 = 1)) : wp (mL_law_754 L xs k18 1 126 l3 M) (fun q => q.1 = 1) := by
  unfold mL_law_754
  refine w_gK (congrArg Prod.fst (kl_1 hJ.1.1.1.1.1)) ?_
  refine w_j (M := M) (j4_worlds  hJ) (s_X8_worlds  hJ.1.1.1.1.1) (fun q hq => congrArg Prod.fst (kl_126 hq.1)) ?_
  intro r1 m1 hk9 hw
  dsimp only
  refine w_gK hk9 ?_
  refine w_call hw ?_
  intro r2 m2 hJ2
  have hJ2 : J4 m2 := hJ2
  dsimp only
  unfold mL_law_1135
  exact hk _ hJ2
theorem lc_767 {L : Nat} {xs : Nat → Int32} {l3 : Int} {M : Mem} {k18 : Int → Int → Int → Mem → Option (Int × Mem)} (hJ : J4 M) (hx : ∀ j : Int, 0 ≤ j → j ≤ 5 → 0 ≤ wI (l3 + j) ∧ wI (l3 + j) < (L : Int)) (hk : ∀ M2, J4 M2 → wp (k18 1 126 (wI (l3 + 6)) M2) (fun q => q.1 = 1)) : wp (mL_law_767 L xs k18 1 126 l3 M) (fun q => q.1 = 1) := by
  unfold mL_law_767
  refine w_gK (congrArg Prod.fst (kl_1 hJ.1.1.1.1.1)) ?_
  refine w_j (M := M) (j4_forms  hJ) (s_X8_forms  hJ.1.1.1.1.1) (fun q hq => congrArg Prod.fst (kl_126 hq.1)) ?_
  intro r1 m1 hk9 hw
  dsimp only
  refine w_gK hk9 ?_
  refine w_call hw ?_
  intro r2 m2 hJ2
  have hJ2 : J4 m2 := hJ2
  dsimp only
  unfold mL_law_1135
  exact hk _ hJ2
theorem lc_780 {L : Nat} {xs : Nat → Int32} {l3 : Int} {M : Mem} {k18 : Int → Int → Int → Mem → Option (Int × Mem)} (hJ : J4 M) (hx : ∀ j : Int, 0 ≤ j → j ≤ 5 → 0 ≤ wI (l3 + j) ∧ wI (l3 + j) < (L : Int)) (hk : ∀ M2, J4 M2 → wp (k18 1 126 (wI (l3 + 6)) M2) (fun q => q.1 = 1)) : wp (mL_law_780 L xs k18 1 126 l3 M) (fun q => q.1 = 1) := by
  unfold mL_law_780
  refine w_aX (hx 1 (by decide) (by decide)) ?_
  refine w_gK (congrArg Prod.fst (kl_1 hJ.1.1.1.1.1)) ?_
  refine w_j (M := M) (j4_form (xr _) hJ) (s_X8_form (xr _) hJ.1.1.1.1.1) (fun q hq => congrArg Prod.fst (kl_126 hq.1)) ?_
  intro r1 m1 hk9 hw
  dsimp only
  refine w_aX (hx 1 (by decide) (by decide)) ?_
  refine w_gK hk9 ?_
  refine w_call hw ?_
  intro r2 m2 hJ2
  have hJ2 : J4 m2 := hJ2
  dsimp only
  unfold mL_law_1135
  exact hk _ hJ2
theorem lc_803 {L : Nat} {xs : Nat → Int32} {l3 : Int} {M : Mem} {k18 : Int → Int → Int → Mem → Option (Int × Mem)} (hJ : J4 M) (hx : ∀ j : Int, 0 ≤ j → j ≤ 5 → 0 ≤ wI (l3 + j) ∧ wI (l3 + j) < (L : Int)) (hk : ∀ M2, J4 M2 → wp (k18 1 126 (wI (l3 + 6)) M2) (fun q => q.1 = 1)) : wp (mL_law_803 L xs k18 1 126 l3 M) (fun q => q.1 = 1) := by
  unfold mL_law_803
  refine w_gK (congrArg Prod.fst (kl_1 hJ.1.1.1.1.1)) ?_
  refine w_j (M := M) (j4_name  hJ) (s_X8_name  hJ.1.1.1.1.1) (fun q hq => congrArg Prod.fst (kl_126 hq.1)) ?_
  intro r1 m1 hk9 hw
  dsimp only
  refine w_gK hk9 ?_
  refine w_call hw ?_
  intro r2 m2 hJ2
  have hJ2 : J4 m2 := hJ2
  dsimp only
  unfold mL_law_1135
  exact hk _ hJ2
theorem lc_816 {L : Nat} {xs : Nat → Int32} {l3 : Int} {M : Mem} {k18 : Int → Int → Int → Mem → Option (Int × Mem)} (hJ : J4 M) (hx : ∀ j : Int, 0 ≤ j → j ≤ 5 → 0 ≤ wI (l3 + j) ∧ wI (l3 + j) < (L : Int)) (hk : ∀ M2, J4 M2 → wp (k18 1 126 (wI (l3 + 6)) M2) (fun q => q.1 = 1)) : wp (mL_law_816 L xs k18 1 126 l3 M) (fun q => q.1 = 1) := by
  unfold mL_law_816
  refine w_aX (hx 1 (by decide) (by decide)) ?_
  refine w_gK (congrArg Prod.fst (kl_1 hJ.1.1.1.1.1)) ?_
  refine w_j (M := M) (j4_least (xr _) hJ) (s_X8_least (xr _) hJ.1.1.1.1.1) (fun q hq => congrArg Prod.fst (kl_126 hq.1)) ?_
  intro r1 m1 hk9 hw
  dsimp only
  refine w_aX (hx 1 (by decide) (by decide)) ?_
  refine w_gK hk9 ?_
  refine w_call hw ?_
  intro r2 m2 hJ2
  have hJ2 : J4 m2 := hJ2
  dsimp only
  unfold mL_law_1135
  exact hk _ hJ2
theorem lc_839 {L : Nat} {xs : Nat → Int32} {l3 : Int} {M : Mem} {k18 : Int → Int → Int → Mem → Option (Int × Mem)} (hJ : J4 M) (hx : ∀ j : Int, 0 ≤ j → j ≤ 5 → 0 ≤ wI (l3 + j) ∧ wI (l3 + j) < (L : Int)) (hk : ∀ M2, J4 M2 → wp (k18 1 126 (wI (l3 + 6)) M2) (fun q => q.1 = 1)) : wp (mL_law_839 L xs k18 1 126 l3 M) (fun q => q.1 = 1) := by
  unfold mL_law_839
  refine w_aX (hx 1 (by decide) (by decide)) ?_
  refine w_gK (congrArg Prod.fst (kl_1 hJ.1.1.1.1.1)) ?_
  refine w_j (M := M) (j4_core (xr _) hJ) (s_X8_core (xr _) hJ.1.1.1.1.1) (fun q hq => congrArg Prod.fst (kl_126 hq.1)) ?_
  intro r1 m1 hk9 hw
  dsimp only
  refine w_aX (hx 1 (by decide) (by decide)) ?_
  refine w_gK hk9 ?_
  refine w_call hw ?_
  intro r2 m2 hJ2
  have hJ2 : J4 m2 := hJ2
  dsimp only
  unfold mL_law_1135
  exact hk _ hJ2
theorem lc_862 {L : Nat} {xs : Nat → Int32} {l3 : Int} {M : Mem} {k18 : Int → Int → Int → Mem → Option (Int × Mem)} (hJ : J4 M) (hx : ∀ j : Int, 0 ≤ j → j ≤ 5 → 0 ≤ wI (l3 + j) ∧ wI (l3 + j) < (L : Int)) (hk : ∀ M2, J4 M2 → wp (k18 1 126 (wI (l3 + 6)) M2) (fun q => q.1 = 1)) : wp (mL_law_862 L xs k18 1 126 l3 M) (fun q => q.1 = 1) := by
  unfold mL_law_862
  refine w_aX (hx 1 (by decide) (by decide)) ?_
  refine w_aX (hx 2 (by decide) (by decide)) ?_
  refine w_aX (hx 3 (by decide) (by decide)) ?_
  refine w_gK (congrArg Prod.fst (kl_1 hJ.1.1.1.1.1)) ?_
  refine w_j (M := M) (j4_sure (xr _) (xr _) (xr _) hJ) (s_X8_sure (xr _) (xr _) (xr _) hJ.1.1.1.1.1) (fun q hq => congrArg Prod.fst (kl_126 hq.1)) ?_
  intro r1 m1 hk9 hw
  dsimp only
  refine w_aX (hx 1 (by decide) (by decide)) ?_
  refine w_aX (hx 2 (by decide) (by decide)) ?_
  refine w_aX (hx 3 (by decide) (by decide)) ?_
  refine w_gK hk9 ?_
  refine w_call hw ?_
  intro r2 m2 hJ2
  have hJ2 : J4 m2 := hJ2
  dsimp only
  unfold mL_law_1135
  exact hk _ hJ2
theorem lc_905 {L : Nat} {xs : Nat → Int32} {l3 : Int} {M : Mem} {k18 : Int → Int → Int → Mem → Option (Int × Mem)} (hJ : J4 M) (hx : ∀ j : Int, 0 ≤ j → j ≤ 5 → 0 ≤ wI (l3 + j) ∧ wI (l3 + j) < (L : Int)) (hk : ∀ M2, J4 M2 → wp (k18 1 126 (wI (l3 + 6)) M2) (fun q => q.1 = 1)) : wp (mL_law_905 L xs k18 1 126 l3 M) (fun q => q.1 = 1) := by
  unfold mL_law_905
  refine w_aX (hx 1 (by decide) (by decide)) ?_
  refine w_aX (hx 2 (by decide) (by decide)) ?_
  refine w_aX (hx 3 (by decide) (by decide)) ?_
  refine w_aX (hx 4 (by decide) (by decide)) ?_
  refine w_gK (congrArg Prod.fst (kl_1 hJ.1.1.1.1.1)) ?_
  refine w_j (M := M) (j4_cause (xr _) (xr _) (xr _) (xr _) hJ) (s_X8_cause (xr _) (xr _) (xr _) (xr _) hJ.1.1.1.1.1) (fun q hq => congrArg Prod.fst (kl_126 hq.1)) ?_
  intro r1 m1 hk9 hw
  dsimp only
  refine w_aX (hx 1 (by decide) (by decide)) ?_
  refine w_aX (hx 2 (by decide) (by decide)) ?_
  refine w_aX (hx 3 (by decide) (by decide)) ?_
  refine w_aX (hx 4 (by decide) (by decide)) ?_
  refine w_gK hk9 ?_
  refine w_call hw ?_
  intro r2 m2 hJ2
  have hJ2 : J4 m2 := hJ2
  dsimp only
  unfold mL_law_1135
  exact hk _ hJ2
theorem lc_958 {L : Nat} {xs : Nat → Int32} {l3 : Int} {M : Mem} {k18 : Int → Int → Int → Mem → Option (Int × Mem)} (hJ : J4 M) (hx : ∀ j : Int, 0 ≤ j → j ≤ 5 → 0 ≤ wI (l3 + j) ∧ wI (l3 + j) < (L : Int)) (hk : ∀ M2, J4 M2 → wp (k18 1 126 (wI (l3 + 6)) M2) (fun q => q.1 = 1)) : wp (mL_law_958 L xs k18 1 126 l3 M) (fun q => q.1 = 1) := by
  unfold mL_law_958
  refine w_aX (hx 1 (by decide) (by decide)) ?_
  refine w_gK (congrArg Prod.fst (kl_1 hJ.1.1.1.1.1)) ?_
  refine w_j (M := M) (j4_without (xr _) hJ) (s_X8_without (xr _) hJ.1.1.1.1.1) (fun q hq => congrArg Prod.fst (kl_126 hq.1)) ?_
  intro r1 m1 hk9 hw
  dsimp only
  refine w_aX (hx 1 (by decide) (by decide)) ?_
  refine w_gK hk9 ?_
  refine w_call hw ?_
  intro r2 m2 hJ2
  have hJ2 : J4 m2 := hJ2
  dsimp only
  unfold mL_law_1135
  exact hk _ hJ2
theorem lc_981 {L : Nat} {xs : Nat → Int32} {l3 : Int} {M : Mem} {k18 : Int → Int → Int → Mem → Option (Int × Mem)} (hJ : J4 M) (hx : ∀ j : Int, 0 ≤ j → j ≤ 5 → 0 ≤ wI (l3 + j) ∧ wI (l3 + j) < (L : Int)) (hk : ∀ M2, J4 M2 → wp (k18 1 126 (wI (l3 + 6)) M2) (fun q => q.1 = 1)) : wp (mL_law_981 L xs k18 1 126 l3 M) (fun q => q.1 = 1) := by
  unfold mL_law_981
  refine w_gK (congrArg Prod.fst (kl_1 hJ.1.1.1.1.1)) ?_
  refine w_j (M := M) (j4_questions  hJ) (s_X8_questions  hJ.1.1.1.1.1) (fun q hq => congrArg Prod.fst (kl_126 hq.1)) ?_
  intro r1 m1 hk9 hw
  dsimp only
  refine w_gK hk9 ?_
  refine w_call hw ?_
  intro r2 m2 hJ2
  have hJ2 : J4 m2 := hJ2
  dsimp only
  unfold mL_law_1135
  exact hk _ hJ2
theorem lc_994 {L : Nat} {xs : Nat → Int32} {l3 : Int} {M : Mem} {k18 : Int → Int → Int → Mem → Option (Int × Mem)} (hJ : J4 M) (hx : ∀ j : Int, 0 ≤ j → j ≤ 5 → 0 ≤ wI (l3 + j) ∧ wI (l3 + j) < (L : Int)) (hk : ∀ M2, J4 M2 → wp (k18 1 126 (wI (l3 + 6)) M2) (fun q => q.1 = 1)) : wp (mL_law_994 L xs k18 1 126 l3 M) (fun q => q.1 = 1) := by
  unfold mL_law_994
  refine w_aX (hx 1 (by decide) (by decide)) ?_
  refine w_gK (congrArg Prod.fst (kl_1 hJ.1.1.1.1.1)) ?_
  refine w_j (M := M) (j4_settle (xr _) hJ) (s_X8_settle (xr _) hJ.1.1.1.1.1) (fun q hq => congrArg Prod.fst (kl_126 hq.1)) ?_
  intro r1 m1 hk9 hw
  dsimp only
  refine w_aX (hx 1 (by decide) (by decide)) ?_
  refine w_gK hk9 ?_
  refine w_call hw ?_
  intro r2 m2 hJ2
  have hJ2 : J4 m2 := hJ2
  dsimp only
  unfold mL_law_1135
  exact hk _ hJ2
theorem lc_1017 {L : Nat} {xs : Nat → Int32} {l3 : Int} {M : Mem} {k18 : Int → Int → Int → Mem → Option (Int × Mem)} (hJ : J4 M) (hx : ∀ j : Int, 0 ≤ j → j ≤ 5 → 0 ≤ wI (l3 + j) ∧ wI (l3 + j) < (L : Int)) (hk : ∀ M2, J4 M2 → wp (k18 1 126 (wI (l3 + 6)) M2) (fun q => q.1 = 1)) : wp (mL_law_1017 L xs k18 1 126 l3 M) (fun q => q.1 = 1) := by
  unfold mL_law_1017
  refine w_gK (congrArg Prod.fst (kl_1 hJ.1.1.1.1.1)) ?_
  refine w_j (M := M) (j4_near  hJ) (s_X8_near  hJ.1.1.1.1.1) (fun q hq => congrArg Prod.fst (kl_126 hq.1)) ?_
  intro r1 m1 hk9 hw
  dsimp only
  refine w_gK hk9 ?_
  refine w_call hw ?_
  intro r2 m2 hJ2
  have hJ2 : J4 m2 := hJ2
  dsimp only
  unfold mL_law_1135
  exact hk _ hJ2
theorem lc_1030 {L : Nat} {xs : Nat → Int32} {l3 : Int} {M : Mem} {k18 : Int → Int → Int → Mem → Option (Int × Mem)} (hJ : J4 M) (hx : ∀ j : Int, 0 ≤ j → j ≤ 5 → 0 ≤ wI (l3 + j) ∧ wI (l3 + j) < (L : Int)) (hk : ∀ M2, J4 M2 → wp (k18 1 126 (wI (l3 + 6)) M2) (fun q => q.1 = 1)) : wp (mL_law_1030 L xs k18 1 126 l3 M) (fun q => q.1 = 1) := by
  unfold mL_law_1030
  refine w_aX (hx 1 (by decide) (by decide)) ?_
  refine w_gK (congrArg Prod.fst (kl_1 hJ.1.1.1.1.1)) ?_
  refine w_j (M := M) (j4_holds (xr _) hJ) (s_X8_holds (xr _) hJ.1.1.1.1.1) (fun q hq => congrArg Prod.fst (kl_126 hq.1)) ?_
  intro r1 m1 hk9 hw
  dsimp only
  refine w_aX (hx 1 (by decide) (by decide)) ?_
  refine w_gK hk9 ?_
  refine w_call hw ?_
  intro r2 m2 hJ2
  have hJ2 : J4 m2 := hJ2
  dsimp only
  unfold mL_law_1135
  exact hk _ hJ2
theorem lc_1053 {L : Nat} {xs : Nat → Int32} {l3 : Int} {M : Mem} {k18 : Int → Int → Int → Mem → Option (Int × Mem)} (hJ : J4 M) (hx : ∀ j : Int, 0 ≤ j → j ≤ 5 → 0 ≤ wI (l3 + j) ∧ wI (l3 + j) < (L : Int)) (hk : ∀ M2, J4 M2 → wp (k18 1 126 (wI (l3 + 6)) M2) (fun q => q.1 = 1)) : wp (mL_law_1053 L xs k18 1 126 l3 M) (fun q => q.1 = 1) := by
  unfold mL_law_1053
  refine w_gK (congrArg Prod.fst (kl_1 hJ.1.1.1.1.1)) ?_
  refine w_j (M := M) (j4_against  hJ) (s_X8_against  hJ.1.1.1.1.1) (fun q hq => congrArg Prod.fst (kl_126 hq.1)) ?_
  intro r1 m1 hk9 hw
  dsimp only
  refine w_gK hk9 ?_
  refine w_call hw ?_
  intro r2 m2 hJ2
  have hJ2 : J4 m2 := hJ2
  dsimp only
  unfold mL_law_1135
  exact hk _ hJ2
theorem lc_1066 {L : Nat} {xs : Nat → Int32} {l3 : Int} {M : Mem} {k18 : Int → Int → Int → Mem → Option (Int × Mem)} (hJ : J4 M) (hx : ∀ j : Int, 0 ≤ j → j ≤ 5 → 0 ≤ wI (l3 + j) ∧ wI (l3 + j) < (L : Int)) (hk : ∀ M2, J4 M2 → wp (k18 1 126 (wI (l3 + 6)) M2) (fun q => q.1 = 1)) : wp (mL_law_1066 L xs k18 1 126 l3 M) (fun q => q.1 = 1) := by
  unfold mL_law_1066
  refine w_aX (hx 1 (by decide) (by decide)) ?_
  refine w_gK (congrArg Prod.fst (kl_1 hJ.1.1.1.1.1)) ?_
  refine w_j (M := M) (j4_many (xr _) hJ) (s_X8_many (xr _) hJ.1.1.1.1.1) (fun q hq => congrArg Prod.fst (kl_126 hq.1)) ?_
  intro r1 m1 hk9 hw
  dsimp only
  refine w_aX (hx 1 (by decide) (by decide)) ?_
  refine w_gK hk9 ?_
  refine w_call hw ?_
  intro r2 m2 hJ2
  have hJ2 : J4 m2 := hJ2
  dsimp only
  unfold mL_law_1135
  exact hk _ hJ2
theorem lc_1089 {L : Nat} {xs : Nat → Int32} {l3 : Int} {M : Mem} {k18 : Int → Int → Int → Mem → Option (Int × Mem)} (hJ : J4 M) (hx : ∀ j : Int, 0 ≤ j → j ≤ 5 → 0 ≤ wI (l3 + j) ∧ wI (l3 + j) < (L : Int)) (hk : ∀ M2, J4 M2 → wp (k18 1 126 (wI (l3 + 6)) M2) (fun q => q.1 = 1)) : wp (mL_law_1089 L xs k18 1 126 l3 M) (fun q => q.1 = 1) := by
  unfold mL_law_1089
  refine w_aX (hx 1 (by decide) (by decide)) ?_
  refine w_gK (congrArg Prod.fst (kl_1 hJ.1.1.1.1.1)) ?_
  refine w_j (M := M) (j4_image (xr _) hJ) (s_X8_image (xr _) hJ.1.1.1.1.1) (fun q hq => congrArg Prod.fst (kl_126 hq.1)) ?_
  intro r1 m1 hk9 hw
  dsimp only
  refine w_aX (hx 1 (by decide) (by decide)) ?_
  refine w_gK hk9 ?_
  refine w_call hw ?_
  intro r2 m2 hJ2
  have hJ2 : J4 m2 := hJ2
  dsimp only
  unfold mL_law_1135
  exact hk _ hJ2
theorem lc_1112 {L : Nat} {xs : Nat → Int32} {l3 : Int} {M : Mem} {k18 : Int → Int → Int → Mem → Option (Int × Mem)} (hJ : J4 M) (hx : ∀ j : Int, 0 ≤ j → j ≤ 5 → 0 ≤ wI (l3 + j) ∧ wI (l3 + j) < (L : Int)) (hk : ∀ M2, J4 M2 → wp (k18 1 126 (wI (l3 + 6)) M2) (fun q => q.1 = 1)) : wp (mL_law_1112 L xs k18 1 126 l3 M) (fun q => q.1 = 1) := by
  unfold mL_law_1112
  refine w_aX (hx 1 (by decide) (by decide)) ?_
  refine w_gK (congrArg Prod.fst (kl_1 hJ.1.1.1.1.1)) ?_
  refine w_j (M := M) (j4_again (xr _) hJ) (s_X8_again (xr _) hJ.1.1.1.1.1) (fun q hq => congrArg Prod.fst (kl_126 hq.1)) ?_
  intro r1 m1 hk9 hw
  dsimp only
  refine w_aX (hx 1 (by decide) (by decide)) ?_
  refine w_gK hk9 ?_
  refine w_call hw ?_
  intro r2 m2 hJ2
  have hJ2 : J4 m2 := hJ2
  dsimp only
  unfold mL_law_1135
  exact hk _ hJ2
theorem law_loop {L : Nat} {xs : Nat → Int32} (hL : L ≤ 3072) : ∀ (fu k : Nat) (M : Mem), k ≤ 512 → 513 ≤ fu + k → J4 M → wp (mL_law_18 L xs fu 1 126 (6 * (k : Int)) M) (fun q => q.1 = 1) := by
  intro fu
  induction fu with
  | zero => intro k M h1 h2; exfalso; omega
  | succ fu ih =>
    intro k M h1 h2 hJ
    show wp (bL_law_18 L xs (mL_law_18 L xs fu) 1 126 (6 * (k : Int)) M) _
    have wL := wI_id (x := (L : Int) - 6) (by omega) (by omega)
    unfold bL_law_18
    rw [wL]
    refine w_if (fun _ => w_ret rfl) (fun c => ?_)
    have hx : ∀ j : Int, 0 ≤ j → j ≤ 5 → 0 ≤ wI (6 * (k : Int) + j) ∧ wI (6 * (k : Int) + j) < (L : Int) := fun j j0 j1 => by
      have w := wI_id (x := 6 * (k : Int) + j) (by omega) (by omega)
      omega
    have hk : ∀ M2, J4 M2 → wp (mL_law_18 L xs fu 1 126 (wI (6 * (k : Int) + 6)) M2) (fun q => q.1 = 1) := fun M2 h => by
      have w := wI_id (x := 6 * (k : Int) + 6) (by omega) (by omega)
      rw [w, show 6 * (k : Int) + 6 = 6 * ((k + 1 : Nat) : Int) by omega]
      exact ih (k + 1) M2 (by omega) (by omega) h
    refine w_aX ⟨by omega, by omega⟩ ?_
    refine w_if (fun _ => lc_188 hJ hx hk) (fun _ => ?_)
    refine w_if (fun _ => lc_221 hJ hx hk) (fun _ => ?_)
    refine w_if (fun _ => lc_254 hJ hx hk) (fun _ => ?_)
    refine w_if (fun _ => lc_267 hJ hx hk) (fun _ => ?_)
    refine w_if (fun _ => lc_336 hJ hx hk) (fun _ => ?_)
    refine w_if (fun _ => lc_379 hJ hx hk) (fun _ => ?_)
    refine w_if (fun _ => lc_448 hJ hx hk) (fun _ => ?_)
    refine w_if (fun _ => lc_471 hJ hx hk) (fun _ => ?_)
    refine w_if (fun _ => lc_494 hJ hx hk) (fun _ => ?_)
    refine w_if (fun _ => lc_557 hJ hx hk) (fun _ => ?_)
    refine w_if (fun _ => lc_580 hJ hx hk) (fun _ => ?_)
    refine w_if (fun _ => lc_593 hJ hx hk) (fun _ => ?_)
    refine w_if (fun _ => lc_606 hJ hx hk) (fun _ => ?_)
    refine w_if (fun _ => lc_629 hJ hx hk) (fun _ => ?_)
    refine w_if (fun _ => lc_652 hJ hx hk) (fun _ => ?_)
    refine w_if (fun _ => lc_675 hJ hx hk) (fun _ => ?_)
    refine w_if (fun _ => lc_698 hJ hx hk) (fun _ => ?_)
    refine w_if (fun _ => lc_721 hJ hx hk) (fun _ => ?_)
    refine w_if (fun _ => lc_754 hJ hx hk) (fun _ => ?_)
    refine w_if (fun _ => lc_767 hJ hx hk) (fun _ => ?_)
    refine w_if (fun _ => lc_780 hJ hx hk) (fun _ => ?_)
    refine w_if (fun _ => lc_803 hJ hx hk) (fun _ => ?_)
    refine w_if (fun _ => lc_816 hJ hx hk) (fun _ => ?_)
    refine w_if (fun _ => lc_839 hJ hx hk) (fun _ => ?_)
    refine w_if (fun _ => lc_862 hJ hx hk) (fun _ => ?_)
    refine w_if (fun _ => lc_905 hJ hx hk) (fun _ => ?_)
    refine w_if (fun _ => lc_958 hJ hx hk) (fun _ => ?_)
    refine w_if (fun _ => lc_981 hJ hx hk) (fun _ => ?_)
    refine w_if (fun _ => lc_994 hJ hx hk) (fun _ => ?_)
    refine w_if (fun _ => lc_1017 hJ hx hk) (fun _ => ?_)
    refine w_if (fun _ => lc_1030 hJ hx hk) (fun _ => ?_)
    refine w_if (fun _ => lc_1053 hJ hx hk) (fun _ => ?_)
    refine w_if (fun _ => lc_1066 hJ hx hk) (fun _ => ?_)
    refine w_if (fun _ => lc_1089 hJ hx hk) (fun _ => ?_)
    refine w_if (fun _ => lc_1112 hJ hx hk) (fun _ => ?_)
    unfold mL_law_1135
    exact hk _ hJ
theorem law_one (L : Nat) (xs : Nat → Int32) (hL : L ≤ 3072) : ∃ q : Int × Mem, mL_law L xs M0 = some q ∧ q.1 = 1 := by
  have h : wp (mL_law L xs M0) (fun q => q.1 = 1) := law_start (fun M1 r => law_loop hL FL 0 M1 (by decide) (by decide) (init_J4 r))
  exact h
