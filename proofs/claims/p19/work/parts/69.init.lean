/-! ===== the two constructors have run ===== -/
def LF : List ((Int × Int) × Int) := [((5, 0), 2), ((5, 1), 2), ((5, 2), 2), ((4, 0), 5), ((4, 1), 6), ((4, 2), 7), ((4, 3), 8), ((4, 4), 9), ((4, 5), 10), ((3, 0), 4), ((3, 2), 11), ((3, 3), 12), ((3, 4), 13), ((3, 7), (-1)), ((3, 8), 14), ((3, 9), 15), ((3, 10), 16), ((3, 14), (-1)), ((3, 15), 17), ((3, 16), 18), ((3, 17), 19), ((2, 0), 3), ((20, 2), 21), ((20, 3), 22), ((20, 4), 23), ((2, 1), 20), ((24, 0), 25), ((24, 1), 26), ((27, 0), 28), ((24, 2), 27), ((29, 0), 30), ((24, 3), 29), ((2, 2), 24), ((2, 3), 31), ((32, 0), 33), ((2, 5), 32), ((34, 0), 35), ((2, 6), 34), ((36, 0), 37), ((2, 7), 36), ((39, 0), 2), ((39, 1), 2), ((39, 2), 2), ((38, 0), 39), ((38, 1), 40), ((38, 2), 41), ((38, 3), 42), ((38, 4), 43), ((38, 5), 44), ((2, 8), 38), ((2, 9), 45), ((2, 10), (-1)), ((2, 11), 46), ((47, 0), 48), ((31, 0), 47), ((49, 0), 50), ((31, 1), 49), ((51, 0), 52), ((31, 2), 51), ((53, 0), 54), ((31, 3), 53), ((55, 0), 56), ((31, 4), 55), ((57, 0), 58), ((31, 5), 57), ((59, 0), 60), ((31, 6), 59), ((61, 0), 62), ((31, 7), 61), ((63, 0), 64), ((31, 8), 63), ((1, 0), 2), ((1, 1), 3), ((66, 0), 67), ((66, 1), 68), ((66, 2), 69), ((66, 3), 70), ((66, 4), 71), ((65, 5), 66), ((65, 6), 72), ((1, 2), 65), ((1, 3), 73), ((1, 4), 74), ((77, 0), 2), ((77, 1), 2), ((77, 2), 2), ((76, 0), 77), ((76, 1), 78), ((76, 2), 79), ((76, 3), 80), ((76, 4), 81), ((76, 5), 82), ((75, 0), 76), ((75, 2), 83), ((75, 3), 84), ((75, 4), 85), ((75, 7), (-1)), ((75, 8), 86), ((75, 9), 87), ((75, 10), 88), ((75, 14), (-1)), ((75, 15), 89), ((75, 16), 90), ((75, 17), 91), ((73, 0), 75), ((94, 0), 2), ((94, 1), 2), ((94, 2), 2), ((93, 0), 94), ((93, 1), 95), ((93, 2), 96), ((93, 3), 97), ((93, 4), 98), ((93, 5), 99), ((92, 0), 93), ((92, 2), 100), ((92, 3), 101), ((92, 4), 102), ((92, 7), (-1)), ((92, 8), 103), ((92, 9), 104), ((92, 10), 105), ((92, 14), (-1)), ((92, 15), 106), ((92, 16), 107), ((92, 17), 108), ((73, 1), 92), ((111, 0), 2), ((111, 1), 2), ((111, 2), 2), ((110, 0), 111), ((110, 1), 112), ((110, 2), 113), ((110, 3), 114), ((110, 4), 115), ((110, 5), 116), ((109, 0), 110), ((109, 2), 117), ((109, 3), 118), ((109, 4), 119), ((109, 7), (-1)), ((109, 8), 120), ((109, 9), 121), ((109, 10), 122), ((109, 14), (-1)), ((109, 15), 123), ((109, 16), 124), ((109, 17), 125), ((73, 2), 109), ((126, 1), 127), ((126, 2), 128), ((126, 3), 129), ((126, 4), 130), ((126, 5), 131), ((126, 6), 132), ((126, 7), 133), ((126, 8), 134), ((126, 9), 135), ((126, 10), 136), ((126, 11), 137), ((126, 12), 138), ((126, 13), 139), ((126, 14), 140), ((126, 15), 141), ((126, 16), 142), ((126, 17), 143), ((126, 18), 144), ((126, 19), 145), ((126, 20), 146), ((126, 21), 147), ((126, 22), 148), ((126, 23), 149), ((126, 24), 150), ((126, 25), 151), ((126, 26), 152), ((126, 27), 153), ((126, 28), 154), ((126, 39), 155), ((126, 41), 156), ((126, 42), 157), ((126, 43), 158), ((126, 44), 159), ((126, 45), 160), ((126, 47), 161), ((126, 51), 162), ((126, 55), 163), ((126, 56), 164), ((126, 58), 165), ((126, 59), 166), ((126, 60), 167), ((126, 61), 168), ((126, 62), 169), ((130, 0), (-1)), ((132, 0), (-1)), ((133, 0), 2), ((133, 1), 2), ((133, 2), 2)]
def fdL (m : Nat) (a j : Int) : Option ((Int × Int) × Int) := (LF.take m).find? (fun e => decide (e.1.1 = a ∧ e.1.2 = j))
def lkL (m : Nat) (a j : Int) : Int := match fdL m a j with | some e => e.2 | none => 0
def RepL (m n : Nat) (M : Mem) : Prop := mN M = n ∧ (∀ b : Nat, b < n → mK M ((b : Int) + 1) = layL.getD b (99, 0)) ∧ (∀ b j : Int, mG M b j = lkL m b j) ∧ ∀ e, e ∈ LF.take m → e.1.1 ≤ (n : Int)
theorem lkL_out {m : Nat} {a j : Int} (h : ∀ e, e ∈ LF.take m → ¬ (e.1.1 = a ∧ e.1.2 = j)) : lkL m a j = 0 := by
  unfold lkL fdL
  rw [List.find?_eq_none.mpr (fun e he => by simpa using h e he)]
theorem fdL_s {m : Nat} {a i x : Int} (hl : LF[m]? = some ((a, i), x)) (b j : Int) : fdL (m + 1) b j = (fdL m b j).or (if b = a ∧ j = i then some ((a, i), x) else none) := by
  unfold fdL
  rw [List.take_add_one, hl, List.find?_append]
  congr 1
  show (match decide (a = b ∧ i = j) with | true => some ((a, i), x) | false => none) = _
  by_cases e : b = a ∧ j = i
  · obtain ⟨e1, e2⟩ := e
    subst e1; subst e2
    rw [decide_eq_true (⟨rfl, rfl⟩ : b = b ∧ j = j), if_pos ⟨rfl, rfl⟩]
  · rw [decide_eq_false (fun z : a = b ∧ i = j => e ⟨z.1.symm, z.2.symm⟩), if_neg e]
section RL
variable {m n : Nat} {M : Mem} {Q : Int × Mem → Prop}
theorem RepL.k (r : RepL m n M) {a : Int} (hr : 1 ≤ a ∧ a ≤ (n : Int)) : mK M a = layL.getD (a - 1).toNat (99, 0) := by
  have := r.2.1 (a - 1).toNat (by omega)
  rw [show (((a - 1).toNat : Nat) : Int) + 1 = a by omega] at this
  exact this
theorem RepL.nw {n' : Nat} {kd : Nat × Nat} {M' : Mem} (r : RepL m n M) (hk : layL.getD n (99, 0) = kd) (hn : n + 1 = n') (hM : M' = mNew M kd) : RepL m n' M' := by
  subst hn
  obtain ⟨h1, h2, h3, h4⟩ := r
  refine ⟨by rw [nw_n hM, h1], fun b hb => ?_, fun b j => ?_, fun e he => by have := h4 e he; omega⟩
  · by_cases e : b = n
    · rw [nw_kn hM (by omega), e, hk]
    · rw [nw_k hM (by omega)]; exact h2 b (by omega)
  · by_cases e : b = (n : Int) + 1
    · rw [nw_gn hM (by omega), lkL_out]
      intro x hx z
      have := h4 x hx
      omega
    · rw [nw_g hM (by omega)]; exact h3 b j
theorem RepL.z {M' : Mem} {a i : Int} (r : RepL m n M) (hz : lkL m a i = 0) (hM : M' = mS M a i 0) : RepL m n M' := by
  obtain ⟨h1, h2, h3, h4⟩ := r
  refine ⟨(st_n hM).trans h1, fun b hb => (st_k hM _).trans (h2 b hb), fun b j => ?_, h4⟩
  by_cases e : b = a ∧ j = i
  · obtain ⟨e1, e2⟩ := e
    subst e1; subst e2
    rw [st_eq hM, hz]
  · rw [st_ne hM e]; exact h3 b j
theorem RepL.s {M' : Mem} {a i x : Int} (r : RepL m n M) (ha : a ≤ (n : Int)) (hl : LF[m]? = some ((a, i), x)) (hf : fdL m a i = none) (hM : M' = mS M a i x) : RepL (m + 1) n M' := by
  obtain ⟨h1, h2, h3, h4⟩ := r
  refine ⟨(st_n hM).trans h1, fun b hb => (st_k hM _).trans (h2 b hb), fun b j => ?_, fun e he => ?_⟩
  · unfold lkL
    rw [fdL_s hl]
    by_cases e : b = a ∧ j = i
    · obtain ⟨e1, e2⟩ := e
      subst e1; subst e2
      rw [st_eq hM, hf, if_pos ⟨rfl, rfl⟩]; rfl
    · rw [st_ne hM e, if_neg e, Option.or_none]; exact h3 b j
  · rw [List.take_add_one, hl] at he
    rcases List.mem_append.mp he with he | he
    · exact h4 e he
    · have : e = ((a, i), x) := by simpa using he
      subst this; exact ha
theorem w_bind {x : Option (Int × Mem)} {f : Int × Mem → Option (Int × Mem)} (h : wp x (fun q => wp (f q) Q)) : wp (x.bind f) Q := by
  obtain ⟨q, e, h⟩ := h
  rw [e]; exact h
theorem w_bindg {x : Option (Int × Mem)} {f : Int × Mem → Option (Int × Mem)} (h : ∀ Q2 : Int × Mem → Prop, (∀ a, wp (f a) Q → Q2 a) → wp x Q2) : wp (x.bind f) Q := w_bind (h _ (fun _ z => z))
theorem w_retb {a : Int × Mem} {f : Int × Mem → Option (Int × Mem)} (h : wp (f a) Q) : wp (some a) (fun q => wp (f q) Q) := ⟨a, rfl, h⟩
theorem r_nO {n' c : Nat} {a : Int} {f : Int × Mem → Option (Int × Mem)} (r : RepL m n M) (hk : layL.getD n (99, 0) = (c, 0)) (hn : n + 1 = n') (ha : (n' : Int) = a) (k : ∀ M', RepL m n' M' → wp (f (a, M')) Q) : wp ((some (nO c M)).bind f) Q := by
  refine w_nO (fun v M' hv hM => ?_)
  have : v = a := by rw [hv, r.1]; omega
  subst this
  exact k M' (r.nw hk hn hM)
theorem r_nA {n' t B : Nat} {a l : Int} {f : Int × Mem → Option (Int × Mem)} (r : RepL m n M) (h : 0 ≤ l ∧ l ≤ (B : Int)) (hk : layL.getD n (99, 0) = (t, l.toNat)) (hn : n + 1 = n') (ha : (n' : Int) = a) (k : ∀ M', RepL m n' M' → wp (f (a, M')) Q) : wp ((nA t B M l).bind f) Q := by
  refine w_nA h (fun v M' hv hM => ?_)
  have : v = a := by rw [hv, r.1]; omega
  subst this
  exact k M' (r.nw hk hn hM)
theorem r_gK {c : Nat} {a : Int} {f : Unit → Option (Int × Mem)} (r : RepL m n M) (hk : (layL.getD (a - 1).toNat (99, 0)).1 = c) (hr : 1 ≤ a ∧ a ≤ (n : Int)) (k : wp (f ()) Q) : wp ((gK c M a).bind f) Q :=
  w_gK (by rw [r.k hr]; exact hk) k
theorem r_gF {c j : Nat} {a ji v : Int} {f : Int → Option (Int × Mem)} (r : RepL m n M) (e : ((j : Nat) : Int) = ji) (hk : (layL.getD (a - 1).toNat (99, 0)).1 = c) (hr : 1 ≤ a ∧ a ≤ (n : Int)) (hv : lkL m a ji = v) (k : wp (f v) Q) : wp ((gF c j M a).bind f) Q :=
  w_gFc e (by rw [r.k hr]; exact hk) ((r.2.2.1 a ji).trans hv) k
theorem r_pF0 {c j : Nat} {a ji : Int} {f : Mem → Option (Int × Mem)} (r : RepL m n M) (e : ((j : Nat) : Int) = ji) (hk : (layL.getD (a - 1).toNat (99, 0)).1 = c) (hr : 1 ≤ a ∧ a ≤ (n : Int)) (hz : lkL m a ji = 0) (k : ∀ M', RepL m n M' → wp (f M') Q) : wp ((pF c j M a 0).bind f) Q :=
  w_pF e (by rw [r.k hr]; exact hk) (fun M' hM => k M' (r.z hz hM))
theorem r_pZ0 {c j : Nat} {a ji : Int} {f : Mem → Option (Int × Mem)} (r : RepL m n M) (e : ((j : Nat) : Int) = ji) (hk : (layL.getD (a - 1).toNat (99, 0)).1 = c) (hr : 1 ≤ a ∧ a ≤ (n : Int)) (hz : lkL m a ji = 0) (k : ∀ M', RepL m n M' → wp (f M') Q) : wp ((pZ c j M a 0).bind f) Q :=
  w_pZ e (by rw [r.k hr]; exact hk) (Or.inl rfl) (fun M' hM => k M' (r.z hz hM))
theorem r_pF {m' : Nat} {c j : Nat} {a ji x : Int} {f : Mem → Option (Int × Mem)} (r : RepL m n M) (hm : m + 1 = m') (e : ((j : Nat) : Int) = ji) (hk : (layL.getD (a - 1).toNat (99, 0)).1 = c) (hr : 1 ≤ a ∧ a ≤ (n : Int)) (hl : LF[m]? = some ((a, ji), x)) (hf : fdL m a ji = none) (k : ∀ M', RepL m' n M' → wp (f M') Q) : wp ((pF c j M a x).bind f) Q :=
  w_pF e (by rw [r.k hr]; exact hk) (fun M' hM => k M' (hm ▸ r.s hr.2 hl hf hM))
theorem r_aS {m' : Nat} {t : Nat} {a i x : Int} {f : Mem → Option (Int × Mem)} (r : RepL m n M) (hm : m + 1 = m') (hk : (layL.getD (a - 1).toNat (99, 0)).1 = t ∧ 0 ≤ i ∧ i < ((layL.getD (a - 1).toNat (99, 0)).2 : Int)) (hr : 1 ≤ a ∧ a ≤ (n : Int)) (_ : 0 = 0) (hl : LF[m]? = some ((a, i), x)) (hf : fdL m a i = none) (k : ∀ M', RepL m' n M' → wp (f M') Q) : wp ((aS t M a i x).bind f) Q :=
  w_aS (n := (layL.getD (a - 1).toNat (99, 0)).2) (by rw [r.k hr, ← hk.1]) hk.2.1 hk.2.2 (fun M' hM => k M' (hm ▸ r.s hr.2 hl hf hM))
theorem r_aSl {m' : Nat} {t : Nat} {a i il x : Int} {f : Mem → Option (Int × Mem)} (r : RepL m n M) (hm : m + 1 = m') (he : i = il) (hk : (layL.getD (a - 1).toNat (99, 0)).1 = t ∧ 0 ≤ il ∧ il < ((layL.getD (a - 1).toNat (99, 0)).2 : Int)) (hr : 1 ≤ a ∧ a ≤ (n : Int)) (_ : 0 = 0) (hl : LF[m]? = some ((a, il), x)) (hf : fdL m a il = none) (k : ∀ M', RepL m' n M' → wp (f M') Q) : wp ((aS t M a i x).bind f) Q := by
  subst he; exact r_aS r hm hk hr rfl hl hf k
theorem r_aSR {m' : Nat} {t : Nat} {a i x : Int} {f : Mem → Option (Int × Mem)} (r : RepL m n M) (hm : m + 1 = m') (hk : (layL.getD (a - 1).toNat (99, 0)).1 = t ∧ 0 ≤ i ∧ i < ((layL.getD (a - 1).toNat (99, 0)).2 : Int)) (hr : 1 ≤ a ∧ a ≤ (n : Int)) (_ : 0 = 0) (hx : (1 ≤ x ∧ x ≤ (n : Int)) ∧ (layL.getD (x - 1).toNat (99, 0)).1 = acl t) (hl : LF[m]? = some ((a, i), x)) (hf : fdL m a i = none) (k : ∀ M', RepL m' n M' → wp (f M') Q) : wp ((aSR t M a i x).bind f) Q :=
  w_aSR (n := (layL.getD (a - 1).toNat (99, 0)).2) (by rw [r.k hr, ← hk.1]) hk.2.1 hk.2.2 (Or.inr (by rw [r.k hx.1]; exact hx.2)) (fun M' hM => k M' (hm ▸ r.s hr.2 hl hf hM))
end RL
theorem rep0 : RepL 0 0 M0 := ⟨rfl, fun b h => absurd h (Nat.not_lt_zero b), fun b j => rfl, fun e h => by cases h⟩
set_option maxRecDepth 100000 in
set_option maxHeartbeats 4000000 in
theorem law_start {L : Nat} {xs : Nat → Int32} {Q : Int × Mem → Prop} (h : ∀ M1, RepL 197 169 M1 → wp (mL_law_18 L xs FL 1 126 0 M1) Q) : wp (mL_law L xs M0) Q := by
  have r0 := rep0
  unfold mL_law
  refine r_nO (a := 1) (n' := 1) r0 (by decide +kernel) rfl rfl (fun M1 r1 => ?_)
  refine r_gK (a := 1) r1 (by decide +kernel) (by decide) ?_
  refine w_bindg (fun Q1 hQ1 => ?_)
  unfold mX8_init
  refine r_gK (a := 1) r1 (by decide +kernel) (by decide) ?_
  refine r_nO (a := 2) (n' := 2) r1 (by decide +kernel) rfl rfl (fun M2 r2 => ?_)
  refine r_gK (a := 2) r2 (by decide +kernel) (by decide) ?_
  refine w_bindg (fun Q2 hQ2 => ?_)
  unfold mX4_init
  refine r_gK (a := 2) r2 (by decide +kernel) (by decide) ?_
  refine r_nO (a := 3) (n' := 3) r2 (by decide +kernel) rfl rfl (fun M3 r3 => ?_)
  refine r_gK (a := 3) r3 (by decide +kernel) (by decide) ?_
  refine w_bindg (fun Q3 hQ3 => ?_)
  unfold mX6_init
  refine r_gK (a := 3) r3 (by decide +kernel) (by decide) ?_
  refine r_nO (a := 4) (n' := 4) r3 (by decide +kernel) rfl rfl (fun M4 r4 => ?_)
  refine r_gK (a := 4) r4 (by decide +kernel) (by decide) ?_
  refine w_bindg (fun Q4 hQ4 => ?_)
  unfold mX3_init
  refine r_gK (a := 4) r4 (by decide +kernel) (by decide) ?_
  refine r_nA (a := 5) (n' := 5) r4 (by decide) (by decide +kernel) rfl rfl (fun M5 r5 => ?_)
  refine r_aS (a := 5) (x := 2) (m' := 1) (i := 0) r5 rfl (by decide +kernel) (by decide) (by decide) (by decide +kernel) (by decide +kernel) (fun M6 r6 => ?_)
  refine r_aS (a := 5) (x := 2) (m' := 2) (i := 1) r6 rfl (by decide +kernel) (by decide) (by decide) (by decide +kernel) (by decide +kernel) (fun M7 r7 => ?_)
  refine r_aS (a := 5) (x := 2) (m' := 3) (i := 2) r7 rfl (by decide +kernel) (by decide) (by decide) (by decide +kernel) (by decide +kernel) (fun M8 r8 => ?_)
  refine r_pF (a := 4) (x := 5) (m' := 4) (ji := 0) r8 rfl rfl (by decide +kernel) (by decide) (by decide +kernel) (by decide +kernel) (fun M9 r9 => ?_)
  refine r_nA (a := 6) (n' := 6) r9 (by decide) (by decide +kernel) rfl rfl (fun M10 r10 => ?_)
  refine r_pF (a := 4) (x := 6) (m' := 5) (ji := 1) r10 rfl rfl (by decide +kernel) (by decide) (by decide +kernel) (by decide +kernel) (fun M11 r11 => ?_)
  refine r_nA (a := 7) (n' := 7) r11 (by decide) (by decide +kernel) rfl rfl (fun M12 r12 => ?_)
  refine r_pF (a := 4) (x := 7) (m' := 6) (ji := 2) r12 rfl rfl (by decide +kernel) (by decide) (by decide +kernel) (by decide +kernel) (fun M13 r13 => ?_)
  refine r_nA (a := 8) (n' := 8) r13 (by decide) (by decide +kernel) rfl rfl (fun M14 r14 => ?_)
  refine r_pF (a := 4) (x := 8) (m' := 7) (ji := 3) r14 rfl rfl (by decide +kernel) (by decide) (by decide +kernel) (by decide +kernel) (fun M15 r15 => ?_)
  refine r_nA (a := 9) (n' := 9) r15 (by decide) (by decide +kernel) rfl rfl (fun M16 r16 => ?_)
  refine r_pF (a := 4) (x := 9) (m' := 8) (ji := 4) r16 rfl rfl (by decide +kernel) (by decide) (by decide +kernel) (by decide +kernel) (fun M17 r17 => ?_)
  refine r_nA (a := 10) (n' := 10) r17 (by decide) (by decide +kernel) rfl rfl (fun M18 r18 => ?_)
  refine r_pF (a := 4) (x := 10) (m' := 9) (ji := 5) r18 rfl rfl (by decide +kernel) (by decide) (by decide +kernel) (by decide +kernel) (fun M19 r19 => ?_)
  refine r_pF0 (a := 4) (ji := 6) r19 rfl (by decide +kernel) (by decide) (by decide +kernel) (fun M20 r20 => ?_)
  refine r_pF0 (a := 4) (ji := 7) r20 rfl (by decide +kernel) (by decide) (by decide +kernel) (fun M21 r21 => ?_)
  refine w_ret (hQ4 _ ?_)
  dsimp only
  refine r_pF (a := 3) (x := 4) (m' := 10) (ji := 0) r21 rfl rfl (by decide +kernel) (by decide) (by decide +kernel) (by decide +kernel) (fun M22 r22 => ?_)
  refine r_pF0 (a := 3) (ji := 1) r22 rfl (by decide +kernel) (by decide) (by decide +kernel) (fun M23 r23 => ?_)
  refine r_nA (a := 11) (n' := 11) r23 (by decide) (by decide +kernel) rfl rfl (fun M24 r24 => ?_)
  refine r_pF (a := 3) (x := 11) (m' := 11) (ji := 2) r24 rfl rfl (by decide +kernel) (by decide) (by decide +kernel) (by decide +kernel) (fun M25 r25 => ?_)
  refine r_nA (a := 12) (n' := 12) r25 (by decide) (by decide +kernel) rfl rfl (fun M26 r26 => ?_)
  refine r_pF (a := 3) (x := 12) (m' := 12) (ji := 3) r26 rfl rfl (by decide +kernel) (by decide) (by decide +kernel) (by decide +kernel) (fun M27 r27 => ?_)
  refine r_nA (a := 13) (n' := 13) r27 (by decide) (by decide +kernel) rfl rfl (fun M28 r28 => ?_)
  refine r_pF (a := 3) (x := 13) (m' := 13) (ji := 4) r28 rfl rfl (by decide +kernel) (by decide) (by decide +kernel) (by decide +kernel) (fun M29 r29 => ?_)
  refine r_pF0 (a := 3) (ji := 5) r29 rfl (by decide +kernel) (by decide) (by decide +kernel) (fun M30 r30 => ?_)
  refine r_pF0 (a := 3) (ji := 6) r30 rfl (by decide +kernel) (by decide) (by decide +kernel) (fun M31 r31 => ?_)
  refine r_pF (a := 3) (x := (-1)) (m' := 14) (ji := 7) r31 rfl rfl (by decide +kernel) (by decide) (by decide +kernel) (by decide +kernel) (fun M32 r32 => ?_)
  refine r_nA (a := 14) (n' := 14) r32 (by decide) (by decide +kernel) rfl rfl (fun M33 r33 => ?_)
  refine r_pF (a := 3) (x := 14) (m' := 15) (ji := 8) r33 rfl rfl (by decide +kernel) (by decide) (by decide +kernel) (by decide +kernel) (fun M34 r34 => ?_)
  refine r_nA (a := 15) (n' := 15) r34 (by decide) (by decide +kernel) rfl rfl (fun M35 r35 => ?_)
  refine r_pF (a := 3) (x := 15) (m' := 16) (ji := 9) r35 rfl rfl (by decide +kernel) (by decide) (by decide +kernel) (by decide +kernel) (fun M36 r36 => ?_)
  refine r_nA (a := 16) (n' := 16) r36 (by decide) (by decide +kernel) rfl rfl (fun M37 r37 => ?_)
  refine r_pF (a := 3) (x := 16) (m' := 17) (ji := 10) r37 rfl rfl (by decide +kernel) (by decide) (by decide +kernel) (by decide +kernel) (fun M38 r38 => ?_)
  refine r_pF0 (a := 3) (ji := 11) r38 rfl (by decide +kernel) (by decide) (by decide +kernel) (fun M39 r39 => ?_)
  refine r_pF0 (a := 3) (ji := 12) r39 rfl (by decide +kernel) (by decide) (by decide +kernel) (fun M40 r40 => ?_)
  refine r_pF0 (a := 3) (ji := 13) r40 rfl (by decide +kernel) (by decide) (by decide +kernel) (fun M41 r41 => ?_)
  refine r_pF (a := 3) (x := (-1)) (m' := 18) (ji := 14) r41 rfl rfl (by decide +kernel) (by decide) (by decide +kernel) (by decide +kernel) (fun M42 r42 => ?_)
  refine r_nA (a := 17) (n' := 17) r42 (by decide) (by decide +kernel) rfl rfl (fun M43 r43 => ?_)
  refine r_pF (a := 3) (x := 17) (m' := 19) (ji := 15) r43 rfl rfl (by decide +kernel) (by decide) (by decide +kernel) (by decide +kernel) (fun M44 r44 => ?_)
  refine r_nA (a := 18) (n' := 18) r44 (by decide) (by decide +kernel) rfl rfl (fun M45 r45 => ?_)
  refine r_pF (a := 3) (x := 18) (m' := 20) (ji := 16) r45 rfl rfl (by decide +kernel) (by decide) (by decide +kernel) (by decide +kernel) (fun M46 r46 => ?_)
  refine r_nA (a := 19) (n' := 19) r46 (by decide) (by decide +kernel) rfl rfl (fun M47 r47 => ?_)
  refine r_pF (a := 3) (x := 19) (m' := 21) (ji := 17) r47 rfl rfl (by decide +kernel) (by decide) (by decide +kernel) (by decide +kernel) (fun M48 r48 => ?_)
  refine r_pF0 (a := 3) (ji := 18) r48 rfl (by decide +kernel) (by decide) (by decide +kernel) (fun M49 r49 => ?_)
  refine w_ret (hQ3 _ ?_)
  dsimp only
  refine r_pF (a := 2) (x := 3) (m' := 22) (ji := 0) r49 rfl rfl (by decide +kernel) (by decide) (by decide +kernel) (by decide +kernel) (fun M50 r50 => ?_)
  refine r_nO (a := 20) (n' := 20) r50 (by decide +kernel) rfl rfl (fun M51 r51 => ?_)
  refine r_gK (a := 20) r51 (by decide +kernel) (by decide) ?_
  refine w_bindg (fun Q5 hQ5 => ?_)
  unfold mX0_init
  refine r_gK (a := 20) r51 (by decide +kernel) (by decide) ?_
  refine r_pF0 (a := 20) (ji := 0) r51 rfl (by decide +kernel) (by decide) (by decide +kernel) (fun M52 r52 => ?_)
  refine r_pF0 (a := 20) (ji := 1) r52 rfl (by decide +kernel) (by decide) (by decide +kernel) (fun M53 r53 => ?_)
  refine r_nA (a := 21) (n' := 21) r53 (by decide) (by decide +kernel) rfl rfl (fun M54 r54 => ?_)
  refine r_pF (a := 20) (x := 21) (m' := 23) (ji := 2) r54 rfl rfl (by decide +kernel) (by decide) (by decide +kernel) (by decide +kernel) (fun M55 r55 => ?_)
  refine r_nA (a := 22) (n' := 22) r55 (by decide) (by decide +kernel) rfl rfl (fun M56 r56 => ?_)
  refine r_pF (a := 20) (x := 22) (m' := 24) (ji := 3) r56 rfl rfl (by decide +kernel) (by decide) (by decide +kernel) (by decide +kernel) (fun M57 r57 => ?_)
  refine r_nA (a := 23) (n' := 23) r57 (by decide) (by decide +kernel) rfl rfl (fun M58 r58 => ?_)
  refine r_pF (a := 20) (x := 23) (m' := 25) (ji := 4) r58 rfl rfl (by decide +kernel) (by decide) (by decide +kernel) (by decide +kernel) (fun M59 r59 => ?_)
  refine r_pF0 (a := 20) (ji := 5) r59 rfl (by decide +kernel) (by decide) (by decide +kernel) (fun M60 r60 => ?_)
  refine w_ret (hQ5 _ ?_)
  dsimp only
  refine r_pF (a := 2) (x := 20) (m' := 26) (ji := 1) r60 rfl rfl (by decide +kernel) (by decide) (by decide +kernel) (by decide +kernel) (fun M61 r61 => ?_)
  refine r_nO (a := 24) (n' := 24) r61 (by decide +kernel) rfl rfl (fun M62 r62 => ?_)
  refine r_gK (a := 24) r62 (by decide +kernel) (by decide) ?_
  refine w_bindg (fun Q6 hQ6 => ?_)
  unfold mX1_init
  refine r_gK (a := 24) r62 (by decide +kernel) (by decide) ?_
  refine r_nA (a := 25) (n' := 25) r62 (by decide) (by decide +kernel) rfl rfl (fun M63 r63 => ?_)
  refine r_pF (a := 24) (x := 25) (m' := 27) (ji := 0) r63 rfl rfl (by decide +kernel) (by decide) (by decide +kernel) (by decide +kernel) (fun M64 r64 => ?_)
  refine r_nA (a := 26) (n' := 26) r64 (by decide) (by decide +kernel) rfl rfl (fun M65 r65 => ?_)
  refine r_pF (a := 24) (x := 26) (m' := 28) (ji := 1) r65 rfl rfl (by decide +kernel) (by decide) (by decide +kernel) (by decide +kernel) (fun M66 r66 => ?_)
  refine r_nO (a := 27) (n' := 27) r66 (by decide +kernel) rfl rfl (fun M67 r67 => ?_)
  refine r_gK (a := 27) r67 (by decide +kernel) (by decide) ?_
  refine w_bindg (fun Q7 hQ7 => ?_)
  unfold mX7_init
  refine r_gK (a := 27) r67 (by decide +kernel) (by decide) ?_
  refine r_nA (a := 28) (n' := 28) r67 (by decide) (by decide +kernel) rfl rfl (fun M68 r68 => ?_)
  refine r_pF (a := 27) (x := 28) (m' := 29) (ji := 0) r68 rfl rfl (by decide +kernel) (by decide) (by decide +kernel) (by decide +kernel) (fun M69 r69 => ?_)
  refine r_pF0 (a := 27) (ji := 1) r69 rfl (by decide +kernel) (by decide) (by decide +kernel) (fun M70 r70 => ?_)
  refine r_pF0 (a := 27) (ji := 2) r70 rfl (by decide +kernel) (by decide) (by decide +kernel) (fun M71 r71 => ?_)
  refine w_ret (hQ7 _ ?_)
  dsimp only
  refine r_pF (a := 24) (x := 27) (m' := 30) (ji := 2) r71 rfl rfl (by decide +kernel) (by decide) (by decide +kernel) (by decide +kernel) (fun M72 r72 => ?_)
  refine r_nO (a := 29) (n' := 29) r72 (by decide +kernel) rfl rfl (fun M73 r73 => ?_)
  refine r_gK (a := 29) r73 (by decide +kernel) (by decide) ?_
  refine w_bindg (fun Q8 hQ8 => ?_)
  unfold mX7_init
  refine r_gK (a := 29) r73 (by decide +kernel) (by decide) ?_
  refine r_nA (a := 30) (n' := 30) r73 (by decide) (by decide +kernel) rfl rfl (fun M74 r74 => ?_)
  refine r_pF (a := 29) (x := 30) (m' := 31) (ji := 0) r74 rfl rfl (by decide +kernel) (by decide) (by decide +kernel) (by decide +kernel) (fun M75 r75 => ?_)
  refine r_pF0 (a := 29) (ji := 1) r75 rfl (by decide +kernel) (by decide) (by decide +kernel) (fun M76 r76 => ?_)
  refine r_pF0 (a := 29) (ji := 2) r76 rfl (by decide +kernel) (by decide) (by decide +kernel) (fun M77 r77 => ?_)
  refine w_ret (hQ8 _ ?_)
  dsimp only
  refine r_pF (a := 24) (x := 29) (m' := 32) (ji := 3) r77 rfl rfl (by decide +kernel) (by decide) (by decide +kernel) (by decide +kernel) (fun M78 r78 => ?_)
  refine r_pF0 (a := 24) (ji := 4) r78 rfl (by decide +kernel) (by decide) (by decide +kernel) (fun M79 r79 => ?_)
  refine r_pF0 (a := 24) (ji := 5) r79 rfl (by decide +kernel) (by decide) (by decide +kernel) (fun M80 r80 => ?_)
  refine r_pZ0 (a := 24) (ji := 6) r80 rfl (by decide +kernel) (by decide) (by decide +kernel) (fun M81 r81 => ?_)
  refine r_pZ0 (a := 24) (ji := 7) r81 rfl (by decide +kernel) (by decide) (by decide +kernel) (fun M82 r82 => ?_)
  refine w_ret (hQ6 _ ?_)
  dsimp only
  refine r_pF (a := 2) (x := 24) (m' := 33) (ji := 2) r82 rfl rfl (by decide +kernel) (by decide) (by decide +kernel) (by decide +kernel) (fun M83 r83 => ?_)
  refine r_nA (a := 31) (n' := 31) r83 (by decide) (by decide +kernel) rfl rfl (fun M84 r84 => ?_)
  refine r_pF (a := 2) (x := 31) (m' := 34) (ji := 3) r84 rfl rfl (by decide +kernel) (by decide) (by decide +kernel) (by decide +kernel) (fun M85 r85 => ?_)
  refine r_pF0 (a := 2) (ji := 4) r85 rfl (by decide +kernel) (by decide) (by decide +kernel) (fun M86 r86 => ?_)
  refine r_nO (a := 32) (n' := 32) r86 (by decide +kernel) rfl rfl (fun M87 r87 => ?_)
  refine r_gK (a := 32) r87 (by decide +kernel) (by decide) ?_
  refine w_bindg (fun Q9 hQ9 => ?_)
  unfold mX7_init
  refine r_gK (a := 32) r87 (by decide +kernel) (by decide) ?_
  refine r_nA (a := 33) (n' := 33) r87 (by decide) (by decide +kernel) rfl rfl (fun M88 r88 => ?_)
  refine r_pF (a := 32) (x := 33) (m' := 35) (ji := 0) r88 rfl rfl (by decide +kernel) (by decide) (by decide +kernel) (by decide +kernel) (fun M89 r89 => ?_)
  refine r_pF0 (a := 32) (ji := 1) r89 rfl (by decide +kernel) (by decide) (by decide +kernel) (fun M90 r90 => ?_)
  refine r_pF0 (a := 32) (ji := 2) r90 rfl (by decide +kernel) (by decide) (by decide +kernel) (fun M91 r91 => ?_)
  refine w_ret (hQ9 _ ?_)
  dsimp only
  refine r_pF (a := 2) (x := 32) (m' := 36) (ji := 5) r91 rfl rfl (by decide +kernel) (by decide) (by decide +kernel) (by decide +kernel) (fun M92 r92 => ?_)
  refine r_nO (a := 34) (n' := 34) r92 (by decide +kernel) rfl rfl (fun M93 r93 => ?_)
  refine r_gK (a := 34) r93 (by decide +kernel) (by decide) ?_
  refine w_bindg (fun Q10 hQ10 => ?_)
  unfold mX7_init
  refine r_gK (a := 34) r93 (by decide +kernel) (by decide) ?_
  refine r_nA (a := 35) (n' := 35) r93 (by decide) (by decide +kernel) rfl rfl (fun M94 r94 => ?_)
  refine r_pF (a := 34) (x := 35) (m' := 37) (ji := 0) r94 rfl rfl (by decide +kernel) (by decide) (by decide +kernel) (by decide +kernel) (fun M95 r95 => ?_)
  refine r_pF0 (a := 34) (ji := 1) r95 rfl (by decide +kernel) (by decide) (by decide +kernel) (fun M96 r96 => ?_)
  refine r_pF0 (a := 34) (ji := 2) r96 rfl (by decide +kernel) (by decide) (by decide +kernel) (fun M97 r97 => ?_)
  refine w_ret (hQ10 _ ?_)
  dsimp only
  refine r_pF (a := 2) (x := 34) (m' := 38) (ji := 6) r97 rfl rfl (by decide +kernel) (by decide) (by decide +kernel) (by decide +kernel) (fun M98 r98 => ?_)
  refine r_nO (a := 36) (n' := 36) r98 (by decide +kernel) rfl rfl (fun M99 r99 => ?_)
  refine r_gK (a := 36) r99 (by decide +kernel) (by decide) ?_
  refine w_bindg (fun Q11 hQ11 => ?_)
  unfold mX7_init
  refine r_gK (a := 36) r99 (by decide +kernel) (by decide) ?_
  refine r_nA (a := 37) (n' := 37) r99 (by decide) (by decide +kernel) rfl rfl (fun M100 r100 => ?_)
  refine r_pF (a := 36) (x := 37) (m' := 39) (ji := 0) r100 rfl rfl (by decide +kernel) (by decide) (by decide +kernel) (by decide +kernel) (fun M101 r101 => ?_)
  refine r_pF0 (a := 36) (ji := 1) r101 rfl (by decide +kernel) (by decide) (by decide +kernel) (fun M102 r102 => ?_)
  refine r_pF0 (a := 36) (ji := 2) r102 rfl (by decide +kernel) (by decide) (by decide +kernel) (fun M103 r103 => ?_)
  refine w_ret (hQ11 _ ?_)
  dsimp only
  refine r_pF (a := 2) (x := 36) (m' := 40) (ji := 7) r103 rfl rfl (by decide +kernel) (by decide) (by decide +kernel) (by decide +kernel) (fun M104 r104 => ?_)
  refine r_nO (a := 38) (n' := 38) r104 (by decide +kernel) rfl rfl (fun M105 r105 => ?_)
  refine r_gK (a := 38) r105 (by decide +kernel) (by decide) ?_
  refine w_bindg (fun Q12 hQ12 => ?_)
  unfold mX3_init
  refine r_gK (a := 38) r105 (by decide +kernel) (by decide) ?_
  refine r_nA (a := 39) (n' := 39) r105 (by decide) (by decide +kernel) rfl rfl (fun M106 r106 => ?_)
  refine r_aS (a := 39) (x := 2) (m' := 41) (i := 0) r106 rfl (by decide +kernel) (by decide) (by decide) (by decide +kernel) (by decide +kernel) (fun M107 r107 => ?_)
  refine r_aS (a := 39) (x := 2) (m' := 42) (i := 1) r107 rfl (by decide +kernel) (by decide) (by decide) (by decide +kernel) (by decide +kernel) (fun M108 r108 => ?_)
  refine r_aS (a := 39) (x := 2) (m' := 43) (i := 2) r108 rfl (by decide +kernel) (by decide) (by decide) (by decide +kernel) (by decide +kernel) (fun M109 r109 => ?_)
  refine r_pF (a := 38) (x := 39) (m' := 44) (ji := 0) r109 rfl rfl (by decide +kernel) (by decide) (by decide +kernel) (by decide +kernel) (fun M110 r110 => ?_)
  refine r_nA (a := 40) (n' := 40) r110 (by decide) (by decide +kernel) rfl rfl (fun M111 r111 => ?_)
  refine r_pF (a := 38) (x := 40) (m' := 45) (ji := 1) r111 rfl rfl (by decide +kernel) (by decide) (by decide +kernel) (by decide +kernel) (fun M112 r112 => ?_)
  refine r_nA (a := 41) (n' := 41) r112 (by decide) (by decide +kernel) rfl rfl (fun M113 r113 => ?_)
  refine r_pF (a := 38) (x := 41) (m' := 46) (ji := 2) r113 rfl rfl (by decide +kernel) (by decide) (by decide +kernel) (by decide +kernel) (fun M114 r114 => ?_)
  refine r_nA (a := 42) (n' := 42) r114 (by decide) (by decide +kernel) rfl rfl (fun M115 r115 => ?_)
  refine r_pF (a := 38) (x := 42) (m' := 47) (ji := 3) r115 rfl rfl (by decide +kernel) (by decide) (by decide +kernel) (by decide +kernel) (fun M116 r116 => ?_)
  refine r_nA (a := 43) (n' := 43) r116 (by decide) (by decide +kernel) rfl rfl (fun M117 r117 => ?_)
  refine r_pF (a := 38) (x := 43) (m' := 48) (ji := 4) r117 rfl rfl (by decide +kernel) (by decide) (by decide +kernel) (by decide +kernel) (fun M118 r118 => ?_)
  refine r_nA (a := 44) (n' := 44) r118 (by decide) (by decide +kernel) rfl rfl (fun M119 r119 => ?_)
  refine r_pF (a := 38) (x := 44) (m' := 49) (ji := 5) r119 rfl rfl (by decide +kernel) (by decide) (by decide +kernel) (by decide +kernel) (fun M120 r120 => ?_)
  refine r_pF0 (a := 38) (ji := 6) r120 rfl (by decide +kernel) (by decide) (by decide +kernel) (fun M121 r121 => ?_)
  refine r_pF0 (a := 38) (ji := 7) r121 rfl (by decide +kernel) (by decide) (by decide +kernel) (fun M122 r122 => ?_)
  refine w_ret (hQ12 _ ?_)
  dsimp only
  refine r_pF (a := 2) (x := 38) (m' := 50) (ji := 8) r122 rfl rfl (by decide +kernel) (by decide) (by decide +kernel) (by decide +kernel) (fun M123 r123 => ?_)
  refine r_nA (a := 45) (n' := 45) r123 (by decide) (by decide +kernel) rfl rfl (fun M124 r124 => ?_)
  refine r_pF (a := 2) (x := 45) (m' := 51) (ji := 9) r124 rfl rfl (by decide +kernel) (by decide) (by decide +kernel) (by decide +kernel) (fun M125 r125 => ?_)
  refine r_pF (a := 2) (x := (-1)) (m' := 52) (ji := 10) r125 rfl rfl (by decide +kernel) (by decide) (by decide +kernel) (by decide +kernel) (fun M126 r126 => ?_)
  refine r_nA (a := 46) (n' := 46) r126 (by decide) (by decide +kernel) rfl rfl (fun M127 r127 => ?_)
  refine r_pF (a := 2) (x := 46) (m' := 53) (ji := 11) r127 rfl rfl (by decide +kernel) (by decide) (by decide +kernel) (by decide +kernel) (fun M128 r128 => ?_)
  refine r_gF (a := 2) (ji := 3) (v := 31) r128 rfl (by decide +kernel) (by decide) (by decide +kernel) ?_
  refine r_nO (a := 47) (n' := 47) r128 (by decide +kernel) rfl rfl (fun M129 r129 => ?_)
  refine r_gK (a := 47) r129 (by decide +kernel) (by decide) ?_
  refine w_bindg (fun Q13 hQ13 => ?_)
  unfold mX7_init
  refine r_gK (a := 47) r129 (by decide +kernel) (by decide) ?_
  refine r_nA (a := 48) (n' := 48) r129 (by decide) (by decide +kernel) rfl rfl (fun M130 r130 => ?_)
  refine r_pF (a := 47) (x := 48) (m' := 54) (ji := 0) r130 rfl rfl (by decide +kernel) (by decide) (by decide +kernel) (by decide +kernel) (fun M131 r131 => ?_)
  refine r_pF0 (a := 47) (ji := 1) r131 rfl (by decide +kernel) (by decide) (by decide +kernel) (fun M132 r132 => ?_)
  refine r_pF0 (a := 47) (ji := 2) r132 rfl (by decide +kernel) (by decide) (by decide +kernel) (fun M133 r133 => ?_)
  refine w_ret (hQ13 _ ?_)
  dsimp only
  refine r_aSR (a := 31) (x := 47) (m' := 55) (i := 0) r133 rfl (by decide +kernel) (by decide) (by decide) (by decide +kernel) (by decide +kernel) (by decide +kernel) (fun M134 r134 => ?_)
  refine r_gF (a := 2) (ji := 3) (v := 31) r134 rfl (by decide +kernel) (by decide) (by decide +kernel) ?_
  refine r_nO (a := 49) (n' := 49) r134 (by decide +kernel) rfl rfl (fun M135 r135 => ?_)
  refine r_gK (a := 49) r135 (by decide +kernel) (by decide) ?_
  refine w_bindg (fun Q14 hQ14 => ?_)
  unfold mX7_init
  refine r_gK (a := 49) r135 (by decide +kernel) (by decide) ?_
  refine r_nA (a := 50) (n' := 50) r135 (by decide) (by decide +kernel) rfl rfl (fun M136 r136 => ?_)
  refine r_pF (a := 49) (x := 50) (m' := 56) (ji := 0) r136 rfl rfl (by decide +kernel) (by decide) (by decide +kernel) (by decide +kernel) (fun M137 r137 => ?_)
  refine r_pF0 (a := 49) (ji := 1) r137 rfl (by decide +kernel) (by decide) (by decide +kernel) (fun M138 r138 => ?_)
  refine r_pF0 (a := 49) (ji := 2) r138 rfl (by decide +kernel) (by decide) (by decide +kernel) (fun M139 r139 => ?_)
  refine w_ret (hQ14 _ ?_)
  dsimp only
  refine r_aSR (a := 31) (x := 49) (m' := 57) (i := 1) r139 rfl (by decide +kernel) (by decide) (by decide) (by decide +kernel) (by decide +kernel) (by decide +kernel) (fun M140 r140 => ?_)
  refine r_gF (a := 2) (ji := 3) (v := 31) r140 rfl (by decide +kernel) (by decide) (by decide +kernel) ?_
  refine r_nO (a := 51) (n' := 51) r140 (by decide +kernel) rfl rfl (fun M141 r141 => ?_)
  refine r_gK (a := 51) r141 (by decide +kernel) (by decide) ?_
  refine w_bindg (fun Q15 hQ15 => ?_)
  unfold mX7_init
  refine r_gK (a := 51) r141 (by decide +kernel) (by decide) ?_
  refine r_nA (a := 52) (n' := 52) r141 (by decide) (by decide +kernel) rfl rfl (fun M142 r142 => ?_)
  refine r_pF (a := 51) (x := 52) (m' := 58) (ji := 0) r142 rfl rfl (by decide +kernel) (by decide) (by decide +kernel) (by decide +kernel) (fun M143 r143 => ?_)
  refine r_pF0 (a := 51) (ji := 1) r143 rfl (by decide +kernel) (by decide) (by decide +kernel) (fun M144 r144 => ?_)
  refine r_pF0 (a := 51) (ji := 2) r144 rfl (by decide +kernel) (by decide) (by decide +kernel) (fun M145 r145 => ?_)
  refine w_ret (hQ15 _ ?_)
  dsimp only
  refine r_aSR (a := 31) (x := 51) (m' := 59) (i := 2) r145 rfl (by decide +kernel) (by decide) (by decide) (by decide +kernel) (by decide +kernel) (by decide +kernel) (fun M146 r146 => ?_)
  refine r_gF (a := 2) (ji := 3) (v := 31) r146 rfl (by decide +kernel) (by decide) (by decide +kernel) ?_
  refine r_nO (a := 53) (n' := 53) r146 (by decide +kernel) rfl rfl (fun M147 r147 => ?_)
  refine r_gK (a := 53) r147 (by decide +kernel) (by decide) ?_
  refine w_bindg (fun Q16 hQ16 => ?_)
  unfold mX7_init
  refine r_gK (a := 53) r147 (by decide +kernel) (by decide) ?_
  refine r_nA (a := 54) (n' := 54) r147 (by decide) (by decide +kernel) rfl rfl (fun M148 r148 => ?_)
  refine r_pF (a := 53) (x := 54) (m' := 60) (ji := 0) r148 rfl rfl (by decide +kernel) (by decide) (by decide +kernel) (by decide +kernel) (fun M149 r149 => ?_)
  refine r_pF0 (a := 53) (ji := 1) r149 rfl (by decide +kernel) (by decide) (by decide +kernel) (fun M150 r150 => ?_)
  refine r_pF0 (a := 53) (ji := 2) r150 rfl (by decide +kernel) (by decide) (by decide +kernel) (fun M151 r151 => ?_)
  refine w_ret (hQ16 _ ?_)
  dsimp only
  refine r_aSR (a := 31) (x := 53) (m' := 61) (i := 3) r151 rfl (by decide +kernel) (by decide) (by decide) (by decide +kernel) (by decide +kernel) (by decide +kernel) (fun M152 r152 => ?_)
  refine r_gF (a := 2) (ji := 3) (v := 31) r152 rfl (by decide +kernel) (by decide) (by decide +kernel) ?_
  refine r_nO (a := 55) (n' := 55) r152 (by decide +kernel) rfl rfl (fun M153 r153 => ?_)
  refine r_gK (a := 55) r153 (by decide +kernel) (by decide) ?_
  refine w_bindg (fun Q17 hQ17 => ?_)
  unfold mX7_init
  refine r_gK (a := 55) r153 (by decide +kernel) (by decide) ?_
  refine r_nA (a := 56) (n' := 56) r153 (by decide) (by decide +kernel) rfl rfl (fun M154 r154 => ?_)
  refine r_pF (a := 55) (x := 56) (m' := 62) (ji := 0) r154 rfl rfl (by decide +kernel) (by decide) (by decide +kernel) (by decide +kernel) (fun M155 r155 => ?_)
  refine r_pF0 (a := 55) (ji := 1) r155 rfl (by decide +kernel) (by decide) (by decide +kernel) (fun M156 r156 => ?_)
  refine r_pF0 (a := 55) (ji := 2) r156 rfl (by decide +kernel) (by decide) (by decide +kernel) (fun M157 r157 => ?_)
  refine w_ret (hQ17 _ ?_)
  dsimp only
  refine r_aSR (a := 31) (x := 55) (m' := 63) (i := 4) r157 rfl (by decide +kernel) (by decide) (by decide) (by decide +kernel) (by decide +kernel) (by decide +kernel) (fun M158 r158 => ?_)
  refine r_gF (a := 2) (ji := 3) (v := 31) r158 rfl (by decide +kernel) (by decide) (by decide +kernel) ?_
  refine r_nO (a := 57) (n' := 57) r158 (by decide +kernel) rfl rfl (fun M159 r159 => ?_)
  refine r_gK (a := 57) r159 (by decide +kernel) (by decide) ?_
  refine w_bindg (fun Q18 hQ18 => ?_)
  unfold mX7_init
  refine r_gK (a := 57) r159 (by decide +kernel) (by decide) ?_
  refine r_nA (a := 58) (n' := 58) r159 (by decide) (by decide +kernel) rfl rfl (fun M160 r160 => ?_)
  refine r_pF (a := 57) (x := 58) (m' := 64) (ji := 0) r160 rfl rfl (by decide +kernel) (by decide) (by decide +kernel) (by decide +kernel) (fun M161 r161 => ?_)
  refine r_pF0 (a := 57) (ji := 1) r161 rfl (by decide +kernel) (by decide) (by decide +kernel) (fun M162 r162 => ?_)
  refine r_pF0 (a := 57) (ji := 2) r162 rfl (by decide +kernel) (by decide) (by decide +kernel) (fun M163 r163 => ?_)
  refine w_ret (hQ18 _ ?_)
  dsimp only
  refine r_aSR (a := 31) (x := 57) (m' := 65) (i := 5) r163 rfl (by decide +kernel) (by decide) (by decide) (by decide +kernel) (by decide +kernel) (by decide +kernel) (fun M164 r164 => ?_)
  refine r_gF (a := 2) (ji := 3) (v := 31) r164 rfl (by decide +kernel) (by decide) (by decide +kernel) ?_
  refine r_nO (a := 59) (n' := 59) r164 (by decide +kernel) rfl rfl (fun M165 r165 => ?_)
  refine r_gK (a := 59) r165 (by decide +kernel) (by decide) ?_
  refine w_bindg (fun Q19 hQ19 => ?_)
  unfold mX7_init
  refine r_gK (a := 59) r165 (by decide +kernel) (by decide) ?_
  refine r_nA (a := 60) (n' := 60) r165 (by decide) (by decide +kernel) rfl rfl (fun M166 r166 => ?_)
  refine r_pF (a := 59) (x := 60) (m' := 66) (ji := 0) r166 rfl rfl (by decide +kernel) (by decide) (by decide +kernel) (by decide +kernel) (fun M167 r167 => ?_)
  refine r_pF0 (a := 59) (ji := 1) r167 rfl (by decide +kernel) (by decide) (by decide +kernel) (fun M168 r168 => ?_)
  refine r_pF0 (a := 59) (ji := 2) r168 rfl (by decide +kernel) (by decide) (by decide +kernel) (fun M169 r169 => ?_)
  refine w_ret (hQ19 _ ?_)
  dsimp only
  refine r_aSR (a := 31) (x := 59) (m' := 67) (i := 6) r169 rfl (by decide +kernel) (by decide) (by decide) (by decide +kernel) (by decide +kernel) (by decide +kernel) (fun M170 r170 => ?_)
  refine r_gF (a := 2) (ji := 3) (v := 31) r170 rfl (by decide +kernel) (by decide) (by decide +kernel) ?_
  refine r_nO (a := 61) (n' := 61) r170 (by decide +kernel) rfl rfl (fun M171 r171 => ?_)
  refine r_gK (a := 61) r171 (by decide +kernel) (by decide) ?_
  refine w_bindg (fun Q20 hQ20 => ?_)
  unfold mX7_init
  refine r_gK (a := 61) r171 (by decide +kernel) (by decide) ?_
  refine r_nA (a := 62) (n' := 62) r171 (by decide) (by decide +kernel) rfl rfl (fun M172 r172 => ?_)
  refine r_pF (a := 61) (x := 62) (m' := 68) (ji := 0) r172 rfl rfl (by decide +kernel) (by decide) (by decide +kernel) (by decide +kernel) (fun M173 r173 => ?_)
  refine r_pF0 (a := 61) (ji := 1) r173 rfl (by decide +kernel) (by decide) (by decide +kernel) (fun M174 r174 => ?_)
  refine r_pF0 (a := 61) (ji := 2) r174 rfl (by decide +kernel) (by decide) (by decide +kernel) (fun M175 r175 => ?_)
  refine w_ret (hQ20 _ ?_)
  dsimp only
  refine r_aSR (a := 31) (x := 61) (m' := 69) (i := 7) r175 rfl (by decide +kernel) (by decide) (by decide) (by decide +kernel) (by decide +kernel) (by decide +kernel) (fun M176 r176 => ?_)
  refine r_gF (a := 2) (ji := 3) (v := 31) r176 rfl (by decide +kernel) (by decide) (by decide +kernel) ?_
  refine r_nO (a := 63) (n' := 63) r176 (by decide +kernel) rfl rfl (fun M177 r177 => ?_)
  refine r_gK (a := 63) r177 (by decide +kernel) (by decide) ?_
  refine w_bindg (fun Q21 hQ21 => ?_)
  unfold mX7_init
  refine r_gK (a := 63) r177 (by decide +kernel) (by decide) ?_
  refine r_nA (a := 64) (n' := 64) r177 (by decide) (by decide +kernel) rfl rfl (fun M178 r178 => ?_)
  refine r_pF (a := 63) (x := 64) (m' := 70) (ji := 0) r178 rfl rfl (by decide +kernel) (by decide) (by decide +kernel) (by decide +kernel) (fun M179 r179 => ?_)
  refine r_pF0 (a := 63) (ji := 1) r179 rfl (by decide +kernel) (by decide) (by decide +kernel) (fun M180 r180 => ?_)
  refine r_pF0 (a := 63) (ji := 2) r180 rfl (by decide +kernel) (by decide) (by decide +kernel) (fun M181 r181 => ?_)
  refine w_ret (hQ21 _ ?_)
  dsimp only
  refine r_aSR (a := 31) (x := 63) (m' := 71) (i := 8) r181 rfl (by decide +kernel) (by decide) (by decide) (by decide +kernel) (by decide +kernel) (by decide +kernel) (fun M182 r182 => ?_)
  refine w_ret (hQ2 _ ?_)
  dsimp only
  refine r_pF (a := 1) (x := 2) (m' := 72) (ji := 0) r182 rfl rfl (by decide +kernel) (by decide) (by decide +kernel) (by decide +kernel) (fun M183 r183 => ?_)
  refine r_gF (a := 1) (ji := 0) (v := 2) r183 rfl (by decide +kernel) (by decide) (by decide +kernel) ?_
  refine r_gF (a := 2) (ji := 0) (v := 3) r183 rfl (by decide +kernel) (by decide) (by decide +kernel) ?_
  refine r_pF (a := 1) (x := 3) (m' := 73) (ji := 1) r183 rfl rfl (by decide +kernel) (by decide) (by decide +kernel) (by decide +kernel) (fun M184 r184 => ?_)
  refine r_nO (a := 65) (n' := 65) r184 (by decide +kernel) rfl rfl (fun M185 r185 => ?_)
  refine r_gK (a := 65) r185 (by decide +kernel) (by decide) ?_
  refine w_bindg (fun Q22 hQ22 => ?_)
  unfold mX2_init
  refine r_gK (a := 65) r185 (by decide +kernel) (by decide) ?_
  refine r_pF0 (a := 65) (ji := 0) r185 rfl (by decide +kernel) (by decide) (by decide +kernel) (fun M186 r186 => ?_)
  refine r_pF0 (a := 65) (ji := 1) r186 rfl (by decide +kernel) (by decide) (by decide +kernel) (fun M187 r187 => ?_)
  refine r_pF0 (a := 65) (ji := 2) r187 rfl (by decide +kernel) (by decide) (by decide +kernel) (fun M188 r188 => ?_)
  refine r_pF0 (a := 65) (ji := 3) r188 rfl (by decide +kernel) (by decide) (by decide +kernel) (fun M189 r189 => ?_)
  refine r_pZ0 (a := 65) (ji := 4) r189 rfl (by decide +kernel) (by decide) (by decide +kernel) (fun M190 r190 => ?_)
  refine r_nO (a := 66) (n' := 66) r190 (by decide +kernel) rfl rfl (fun M191 r191 => ?_)
  refine r_gK (a := 66) r191 (by decide +kernel) (by decide) ?_
  refine w_bindg (fun Q23 hQ23 => ?_)
  unfold mX5_init
  refine r_gK (a := 66) r191 (by decide +kernel) (by decide) ?_
  refine r_pF0 (a := 66) (ji := 5) r191 rfl (by decide +kernel) (by decide) (by decide +kernel) (fun M192 r192 => ?_)
  refine w_some (fun b14_192 hb14_192 => ?_)
  subst hb14_192
  refine r_nA (a := 67) (n' := 67) r192 (by decide) (by decide +kernel) rfl rfl (fun M193 r193 => ?_)
  refine r_pF (a := 66) (x := 67) (m' := 74) (ji := 0) r193 rfl rfl (by decide +kernel) (by decide) (by decide +kernel) (by decide +kernel) (fun M194 r194 => ?_)
  refine r_nA (a := 68) (n' := 68) r194 (by decide) (by decide +kernel) rfl rfl (fun M195 r195 => ?_)
  refine r_pF (a := 66) (x := 68) (m' := 75) (ji := 1) r195 rfl rfl (by decide +kernel) (by decide) (by decide +kernel) (by decide +kernel) (fun M196 r196 => ?_)
  refine r_nA (a := 69) (n' := 69) r196 (by decide) (by decide +kernel) rfl rfl (fun M197 r197 => ?_)
  refine r_pF (a := 66) (x := 69) (m' := 76) (ji := 2) r197 rfl rfl (by decide +kernel) (by decide) (by decide +kernel) (by decide +kernel) (fun M198 r198 => ?_)
  refine r_nA (a := 70) (n' := 70) r198 (by decide) (by decide +kernel) rfl rfl (fun M199 r199 => ?_)
  refine r_pF (a := 66) (x := 70) (m' := 77) (ji := 3) r199 rfl rfl (by decide +kernel) (by decide) (by decide +kernel) (by decide +kernel) (fun M200 r200 => ?_)
  refine r_nA (a := 71) (n' := 71) r200 (by decide) (by decide +kernel) rfl rfl (fun M201 r201 => ?_)
  refine r_pF (a := 66) (x := 71) (m' := 78) (ji := 4) r201 rfl rfl (by decide +kernel) (by decide) (by decide +kernel) (by decide +kernel) (fun M202 r202 => ?_)
  refine w_ret (hQ23 _ ?_)
  dsimp only
  refine r_pF (a := 65) (x := 66) (m' := 79) (ji := 5) r202 rfl rfl (by decide +kernel) (by decide) (by decide +kernel) (by decide +kernel) (fun M203 r203 => ?_)
  refine r_nA (a := 72) (n' := 72) r203 (by decide) (by decide +kernel) rfl rfl (fun M204 r204 => ?_)
  refine r_pF (a := 65) (x := 72) (m' := 80) (ji := 6) r204 rfl rfl (by decide +kernel) (by decide) (by decide +kernel) (by decide +kernel) (fun M205 r205 => ?_)
  refine r_pF0 (a := 65) (ji := 7) r205 rfl (by decide +kernel) (by decide) (by decide +kernel) (fun M206 r206 => ?_)
  refine r_pF0 (a := 65) (ji := 8) r206 rfl (by decide +kernel) (by decide) (by decide +kernel) (fun M207 r207 => ?_)
  refine r_pF0 (a := 65) (ji := 9) r207 rfl (by decide +kernel) (by decide) (by decide +kernel) (fun M208 r208 => ?_)
  refine r_pF0 (a := 65) (ji := 10) r208 rfl (by decide +kernel) (by decide) (by decide +kernel) (fun M209 r209 => ?_)
  refine r_pF0 (a := 65) (ji := 11) r209 rfl (by decide +kernel) (by decide) (by decide +kernel) (fun M210 r210 => ?_)
  refine w_ret (hQ22 _ ?_)
  dsimp only
  refine r_pF (a := 1) (x := 65) (m' := 81) (ji := 2) r210 rfl rfl (by decide +kernel) (by decide) (by decide +kernel) (by decide +kernel) (fun M211 r211 => ?_)
  refine r_nA (a := 73) (n' := 73) r211 (by decide) (by decide +kernel) rfl rfl (fun M212 r212 => ?_)
  refine r_pF (a := 1) (x := 73) (m' := 82) (ji := 3) r212 rfl rfl (by decide +kernel) (by decide) (by decide +kernel) (by decide +kernel) (fun M213 r213 => ?_)
  refine r_nA (a := 74) (n' := 74) r213 (by decide) (by decide +kernel) rfl rfl (fun M214 r214 => ?_)
  refine r_pF (a := 1) (x := 74) (m' := 83) (ji := 4) r214 rfl rfl (by decide +kernel) (by decide) (by decide +kernel) (by decide +kernel) (fun M215 r215 => ?_)
  refine r_gF (a := 1) (ji := 3) (v := 73) r215 rfl (by decide +kernel) (by decide) (by decide +kernel) ?_
  refine r_nO (a := 75) (n' := 75) r215 (by decide +kernel) rfl rfl (fun M216 r216 => ?_)
  refine r_gK (a := 75) r216 (by decide +kernel) (by decide) ?_
  refine w_bindg (fun Q24 hQ24 => ?_)
  unfold mX6_init
  refine r_gK (a := 75) r216 (by decide +kernel) (by decide) ?_
  refine r_nO (a := 76) (n' := 76) r216 (by decide +kernel) rfl rfl (fun M217 r217 => ?_)
  refine r_gK (a := 76) r217 (by decide +kernel) (by decide) ?_
  refine w_bindg (fun Q25 hQ25 => ?_)
  unfold mX3_init
  refine r_gK (a := 76) r217 (by decide +kernel) (by decide) ?_
  refine r_nA (a := 77) (n' := 77) r217 (by decide) (by decide +kernel) rfl rfl (fun M218 r218 => ?_)
  refine r_aS (a := 77) (x := 2) (m' := 84) (i := 0) r218 rfl (by decide +kernel) (by decide) (by decide) (by decide +kernel) (by decide +kernel) (fun M219 r219 => ?_)
  refine r_aS (a := 77) (x := 2) (m' := 85) (i := 1) r219 rfl (by decide +kernel) (by decide) (by decide) (by decide +kernel) (by decide +kernel) (fun M220 r220 => ?_)
  refine r_aS (a := 77) (x := 2) (m' := 86) (i := 2) r220 rfl (by decide +kernel) (by decide) (by decide) (by decide +kernel) (by decide +kernel) (fun M221 r221 => ?_)
  refine r_pF (a := 76) (x := 77) (m' := 87) (ji := 0) r221 rfl rfl (by decide +kernel) (by decide) (by decide +kernel) (by decide +kernel) (fun M222 r222 => ?_)
  refine r_nA (a := 78) (n' := 78) r222 (by decide) (by decide +kernel) rfl rfl (fun M223 r223 => ?_)
  refine r_pF (a := 76) (x := 78) (m' := 88) (ji := 1) r223 rfl rfl (by decide +kernel) (by decide) (by decide +kernel) (by decide +kernel) (fun M224 r224 => ?_)
  refine r_nA (a := 79) (n' := 79) r224 (by decide) (by decide +kernel) rfl rfl (fun M225 r225 => ?_)
  refine r_pF (a := 76) (x := 79) (m' := 89) (ji := 2) r225 rfl rfl (by decide +kernel) (by decide) (by decide +kernel) (by decide +kernel) (fun M226 r226 => ?_)
  refine r_nA (a := 80) (n' := 80) r226 (by decide) (by decide +kernel) rfl rfl (fun M227 r227 => ?_)
  refine r_pF (a := 76) (x := 80) (m' := 90) (ji := 3) r227 rfl rfl (by decide +kernel) (by decide) (by decide +kernel) (by decide +kernel) (fun M228 r228 => ?_)
  refine r_nA (a := 81) (n' := 81) r228 (by decide) (by decide +kernel) rfl rfl (fun M229 r229 => ?_)
  refine r_pF (a := 76) (x := 81) (m' := 91) (ji := 4) r229 rfl rfl (by decide +kernel) (by decide) (by decide +kernel) (by decide +kernel) (fun M230 r230 => ?_)
  refine r_nA (a := 82) (n' := 82) r230 (by decide) (by decide +kernel) rfl rfl (fun M231 r231 => ?_)
  refine r_pF (a := 76) (x := 82) (m' := 92) (ji := 5) r231 rfl rfl (by decide +kernel) (by decide) (by decide +kernel) (by decide +kernel) (fun M232 r232 => ?_)
  refine r_pF0 (a := 76) (ji := 6) r232 rfl (by decide +kernel) (by decide) (by decide +kernel) (fun M233 r233 => ?_)
  refine r_pF0 (a := 76) (ji := 7) r233 rfl (by decide +kernel) (by decide) (by decide +kernel) (fun M234 r234 => ?_)
  refine w_ret (hQ25 _ ?_)
  dsimp only
  refine r_pF (a := 75) (x := 76) (m' := 93) (ji := 0) r234 rfl rfl (by decide +kernel) (by decide) (by decide +kernel) (by decide +kernel) (fun M235 r235 => ?_)
  refine r_pF0 (a := 75) (ji := 1) r235 rfl (by decide +kernel) (by decide) (by decide +kernel) (fun M236 r236 => ?_)
  refine r_nA (a := 83) (n' := 83) r236 (by decide) (by decide +kernel) rfl rfl (fun M237 r237 => ?_)
  refine r_pF (a := 75) (x := 83) (m' := 94) (ji := 2) r237 rfl rfl (by decide +kernel) (by decide) (by decide +kernel) (by decide +kernel) (fun M238 r238 => ?_)
  refine r_nA (a := 84) (n' := 84) r238 (by decide) (by decide +kernel) rfl rfl (fun M239 r239 => ?_)
  refine r_pF (a := 75) (x := 84) (m' := 95) (ji := 3) r239 rfl rfl (by decide +kernel) (by decide) (by decide +kernel) (by decide +kernel) (fun M240 r240 => ?_)
  refine r_nA (a := 85) (n' := 85) r240 (by decide) (by decide +kernel) rfl rfl (fun M241 r241 => ?_)
  refine r_pF (a := 75) (x := 85) (m' := 96) (ji := 4) r241 rfl rfl (by decide +kernel) (by decide) (by decide +kernel) (by decide +kernel) (fun M242 r242 => ?_)
  refine r_pF0 (a := 75) (ji := 5) r242 rfl (by decide +kernel) (by decide) (by decide +kernel) (fun M243 r243 => ?_)
  refine r_pF0 (a := 75) (ji := 6) r243 rfl (by decide +kernel) (by decide) (by decide +kernel) (fun M244 r244 => ?_)
  refine r_pF (a := 75) (x := (-1)) (m' := 97) (ji := 7) r244 rfl rfl (by decide +kernel) (by decide) (by decide +kernel) (by decide +kernel) (fun M245 r245 => ?_)
  refine r_nA (a := 86) (n' := 86) r245 (by decide) (by decide +kernel) rfl rfl (fun M246 r246 => ?_)
  refine r_pF (a := 75) (x := 86) (m' := 98) (ji := 8) r246 rfl rfl (by decide +kernel) (by decide) (by decide +kernel) (by decide +kernel) (fun M247 r247 => ?_)
  refine r_nA (a := 87) (n' := 87) r247 (by decide) (by decide +kernel) rfl rfl (fun M248 r248 => ?_)
  refine r_pF (a := 75) (x := 87) (m' := 99) (ji := 9) r248 rfl rfl (by decide +kernel) (by decide) (by decide +kernel) (by decide +kernel) (fun M249 r249 => ?_)
  refine r_nA (a := 88) (n' := 88) r249 (by decide) (by decide +kernel) rfl rfl (fun M250 r250 => ?_)
  refine r_pF (a := 75) (x := 88) (m' := 100) (ji := 10) r250 rfl rfl (by decide +kernel) (by decide) (by decide +kernel) (by decide +kernel) (fun M251 r251 => ?_)
  refine r_pF0 (a := 75) (ji := 11) r251 rfl (by decide +kernel) (by decide) (by decide +kernel) (fun M252 r252 => ?_)
  refine r_pF0 (a := 75) (ji := 12) r252 rfl (by decide +kernel) (by decide) (by decide +kernel) (fun M253 r253 => ?_)
  refine r_pF0 (a := 75) (ji := 13) r253 rfl (by decide +kernel) (by decide) (by decide +kernel) (fun M254 r254 => ?_)
  refine r_pF (a := 75) (x := (-1)) (m' := 101) (ji := 14) r254 rfl rfl (by decide +kernel) (by decide) (by decide +kernel) (by decide +kernel) (fun M255 r255 => ?_)
  refine r_nA (a := 89) (n' := 89) r255 (by decide) (by decide +kernel) rfl rfl (fun M256 r256 => ?_)
  refine r_pF (a := 75) (x := 89) (m' := 102) (ji := 15) r256 rfl rfl (by decide +kernel) (by decide) (by decide +kernel) (by decide +kernel) (fun M257 r257 => ?_)
  refine r_nA (a := 90) (n' := 90) r257 (by decide) (by decide +kernel) rfl rfl (fun M258 r258 => ?_)
  refine r_pF (a := 75) (x := 90) (m' := 103) (ji := 16) r258 rfl rfl (by decide +kernel) (by decide) (by decide +kernel) (by decide +kernel) (fun M259 r259 => ?_)
  refine r_nA (a := 91) (n' := 91) r259 (by decide) (by decide +kernel) rfl rfl (fun M260 r260 => ?_)
  refine r_pF (a := 75) (x := 91) (m' := 104) (ji := 17) r260 rfl rfl (by decide +kernel) (by decide) (by decide +kernel) (by decide +kernel) (fun M261 r261 => ?_)
  refine r_pF0 (a := 75) (ji := 18) r261 rfl (by decide +kernel) (by decide) (by decide +kernel) (fun M262 r262 => ?_)
  refine w_ret (hQ24 _ ?_)
  dsimp only
  refine r_aSR (a := 73) (x := 75) (m' := 105) (i := 0) r262 rfl (by decide +kernel) (by decide) (by decide) (by decide +kernel) (by decide +kernel) (by decide +kernel) (fun M263 r263 => ?_)
  refine r_gF (a := 1) (ji := 3) (v := 73) r263 rfl (by decide +kernel) (by decide) (by decide +kernel) ?_
  refine r_nO (a := 92) (n' := 92) r263 (by decide +kernel) rfl rfl (fun M264 r264 => ?_)
  refine r_gK (a := 92) r264 (by decide +kernel) (by decide) ?_
  refine w_bindg (fun Q26 hQ26 => ?_)
  unfold mX6_init
  refine r_gK (a := 92) r264 (by decide +kernel) (by decide) ?_
  refine r_nO (a := 93) (n' := 93) r264 (by decide +kernel) rfl rfl (fun M265 r265 => ?_)
  refine r_gK (a := 93) r265 (by decide +kernel) (by decide) ?_
  refine w_bindg (fun Q27 hQ27 => ?_)
  unfold mX3_init
  refine r_gK (a := 93) r265 (by decide +kernel) (by decide) ?_
  refine r_nA (a := 94) (n' := 94) r265 (by decide) (by decide +kernel) rfl rfl (fun M266 r266 => ?_)
  refine r_aS (a := 94) (x := 2) (m' := 106) (i := 0) r266 rfl (by decide +kernel) (by decide) (by decide) (by decide +kernel) (by decide +kernel) (fun M267 r267 => ?_)
  refine r_aS (a := 94) (x := 2) (m' := 107) (i := 1) r267 rfl (by decide +kernel) (by decide) (by decide) (by decide +kernel) (by decide +kernel) (fun M268 r268 => ?_)
  refine r_aS (a := 94) (x := 2) (m' := 108) (i := 2) r268 rfl (by decide +kernel) (by decide) (by decide) (by decide +kernel) (by decide +kernel) (fun M269 r269 => ?_)
  refine r_pF (a := 93) (x := 94) (m' := 109) (ji := 0) r269 rfl rfl (by decide +kernel) (by decide) (by decide +kernel) (by decide +kernel) (fun M270 r270 => ?_)
  refine r_nA (a := 95) (n' := 95) r270 (by decide) (by decide +kernel) rfl rfl (fun M271 r271 => ?_)
  refine r_pF (a := 93) (x := 95) (m' := 110) (ji := 1) r271 rfl rfl (by decide +kernel) (by decide) (by decide +kernel) (by decide +kernel) (fun M272 r272 => ?_)
  refine r_nA (a := 96) (n' := 96) r272 (by decide) (by decide +kernel) rfl rfl (fun M273 r273 => ?_)
  refine r_pF (a := 93) (x := 96) (m' := 111) (ji := 2) r273 rfl rfl (by decide +kernel) (by decide) (by decide +kernel) (by decide +kernel) (fun M274 r274 => ?_)
  refine r_nA (a := 97) (n' := 97) r274 (by decide) (by decide +kernel) rfl rfl (fun M275 r275 => ?_)
  refine r_pF (a := 93) (x := 97) (m' := 112) (ji := 3) r275 rfl rfl (by decide +kernel) (by decide) (by decide +kernel) (by decide +kernel) (fun M276 r276 => ?_)
  refine r_nA (a := 98) (n' := 98) r276 (by decide) (by decide +kernel) rfl rfl (fun M277 r277 => ?_)
  refine r_pF (a := 93) (x := 98) (m' := 113) (ji := 4) r277 rfl rfl (by decide +kernel) (by decide) (by decide +kernel) (by decide +kernel) (fun M278 r278 => ?_)
  refine r_nA (a := 99) (n' := 99) r278 (by decide) (by decide +kernel) rfl rfl (fun M279 r279 => ?_)
  refine r_pF (a := 93) (x := 99) (m' := 114) (ji := 5) r279 rfl rfl (by decide +kernel) (by decide) (by decide +kernel) (by decide +kernel) (fun M280 r280 => ?_)
  refine r_pF0 (a := 93) (ji := 6) r280 rfl (by decide +kernel) (by decide) (by decide +kernel) (fun M281 r281 => ?_)
  refine r_pF0 (a := 93) (ji := 7) r281 rfl (by decide +kernel) (by decide) (by decide +kernel) (fun M282 r282 => ?_)
  refine w_ret (hQ27 _ ?_)
  dsimp only
  refine r_pF (a := 92) (x := 93) (m' := 115) (ji := 0) r282 rfl rfl (by decide +kernel) (by decide) (by decide +kernel) (by decide +kernel) (fun M283 r283 => ?_)
  refine r_pF0 (a := 92) (ji := 1) r283 rfl (by decide +kernel) (by decide) (by decide +kernel) (fun M284 r284 => ?_)
  refine r_nA (a := 100) (n' := 100) r284 (by decide) (by decide +kernel) rfl rfl (fun M285 r285 => ?_)
  refine r_pF (a := 92) (x := 100) (m' := 116) (ji := 2) r285 rfl rfl (by decide +kernel) (by decide) (by decide +kernel) (by decide +kernel) (fun M286 r286 => ?_)
  refine r_nA (a := 101) (n' := 101) r286 (by decide) (by decide +kernel) rfl rfl (fun M287 r287 => ?_)
  refine r_pF (a := 92) (x := 101) (m' := 117) (ji := 3) r287 rfl rfl (by decide +kernel) (by decide) (by decide +kernel) (by decide +kernel) (fun M288 r288 => ?_)
  refine r_nA (a := 102) (n' := 102) r288 (by decide) (by decide +kernel) rfl rfl (fun M289 r289 => ?_)
  refine r_pF (a := 92) (x := 102) (m' := 118) (ji := 4) r289 rfl rfl (by decide +kernel) (by decide) (by decide +kernel) (by decide +kernel) (fun M290 r290 => ?_)
  refine r_pF0 (a := 92) (ji := 5) r290 rfl (by decide +kernel) (by decide) (by decide +kernel) (fun M291 r291 => ?_)
  refine r_pF0 (a := 92) (ji := 6) r291 rfl (by decide +kernel) (by decide) (by decide +kernel) (fun M292 r292 => ?_)
  refine r_pF (a := 92) (x := (-1)) (m' := 119) (ji := 7) r292 rfl rfl (by decide +kernel) (by decide) (by decide +kernel) (by decide +kernel) (fun M293 r293 => ?_)
  refine r_nA (a := 103) (n' := 103) r293 (by decide) (by decide +kernel) rfl rfl (fun M294 r294 => ?_)
  refine r_pF (a := 92) (x := 103) (m' := 120) (ji := 8) r294 rfl rfl (by decide +kernel) (by decide) (by decide +kernel) (by decide +kernel) (fun M295 r295 => ?_)
  refine r_nA (a := 104) (n' := 104) r295 (by decide) (by decide +kernel) rfl rfl (fun M296 r296 => ?_)
  refine r_pF (a := 92) (x := 104) (m' := 121) (ji := 9) r296 rfl rfl (by decide +kernel) (by decide) (by decide +kernel) (by decide +kernel) (fun M297 r297 => ?_)
  refine r_nA (a := 105) (n' := 105) r297 (by decide) (by decide +kernel) rfl rfl (fun M298 r298 => ?_)
  refine r_pF (a := 92) (x := 105) (m' := 122) (ji := 10) r298 rfl rfl (by decide +kernel) (by decide) (by decide +kernel) (by decide +kernel) (fun M299 r299 => ?_)
  refine r_pF0 (a := 92) (ji := 11) r299 rfl (by decide +kernel) (by decide) (by decide +kernel) (fun M300 r300 => ?_)
  refine r_pF0 (a := 92) (ji := 12) r300 rfl (by decide +kernel) (by decide) (by decide +kernel) (fun M301 r301 => ?_)
  refine r_pF0 (a := 92) (ji := 13) r301 rfl (by decide +kernel) (by decide) (by decide +kernel) (fun M302 r302 => ?_)
  refine r_pF (a := 92) (x := (-1)) (m' := 123) (ji := 14) r302 rfl rfl (by decide +kernel) (by decide) (by decide +kernel) (by decide +kernel) (fun M303 r303 => ?_)
  refine r_nA (a := 106) (n' := 106) r303 (by decide) (by decide +kernel) rfl rfl (fun M304 r304 => ?_)
  refine r_pF (a := 92) (x := 106) (m' := 124) (ji := 15) r304 rfl rfl (by decide +kernel) (by decide) (by decide +kernel) (by decide +kernel) (fun M305 r305 => ?_)
  refine r_nA (a := 107) (n' := 107) r305 (by decide) (by decide +kernel) rfl rfl (fun M306 r306 => ?_)
  refine r_pF (a := 92) (x := 107) (m' := 125) (ji := 16) r306 rfl rfl (by decide +kernel) (by decide) (by decide +kernel) (by decide +kernel) (fun M307 r307 => ?_)
  refine r_nA (a := 108) (n' := 108) r307 (by decide) (by decide +kernel) rfl rfl (fun M308 r308 => ?_)
  refine r_pF (a := 92) (x := 108) (m' := 126) (ji := 17) r308 rfl rfl (by decide +kernel) (by decide) (by decide +kernel) (by decide +kernel) (fun M309 r309 => ?_)
  refine r_pF0 (a := 92) (ji := 18) r309 rfl (by decide +kernel) (by decide) (by decide +kernel) (fun M310 r310 => ?_)
  refine w_ret (hQ26 _ ?_)
  dsimp only
  refine r_aSR (a := 73) (x := 92) (m' := 127) (i := 1) r310 rfl (by decide +kernel) (by decide) (by decide) (by decide +kernel) (by decide +kernel) (by decide +kernel) (fun M311 r311 => ?_)
  refine r_gF (a := 1) (ji := 3) (v := 73) r311 rfl (by decide +kernel) (by decide) (by decide +kernel) ?_
  refine r_nO (a := 109) (n' := 109) r311 (by decide +kernel) rfl rfl (fun M312 r312 => ?_)
  refine r_gK (a := 109) r312 (by decide +kernel) (by decide) ?_
  refine w_bindg (fun Q28 hQ28 => ?_)
  unfold mX6_init
  refine r_gK (a := 109) r312 (by decide +kernel) (by decide) ?_
  refine r_nO (a := 110) (n' := 110) r312 (by decide +kernel) rfl rfl (fun M313 r313 => ?_)
  refine r_gK (a := 110) r313 (by decide +kernel) (by decide) ?_
  refine w_bindg (fun Q29 hQ29 => ?_)
  unfold mX3_init
  refine r_gK (a := 110) r313 (by decide +kernel) (by decide) ?_
  refine r_nA (a := 111) (n' := 111) r313 (by decide) (by decide +kernel) rfl rfl (fun M314 r314 => ?_)
  refine r_aS (a := 111) (x := 2) (m' := 128) (i := 0) r314 rfl (by decide +kernel) (by decide) (by decide) (by decide +kernel) (by decide +kernel) (fun M315 r315 => ?_)
  refine r_aS (a := 111) (x := 2) (m' := 129) (i := 1) r315 rfl (by decide +kernel) (by decide) (by decide) (by decide +kernel) (by decide +kernel) (fun M316 r316 => ?_)
  refine r_aS (a := 111) (x := 2) (m' := 130) (i := 2) r316 rfl (by decide +kernel) (by decide) (by decide) (by decide +kernel) (by decide +kernel) (fun M317 r317 => ?_)
  refine r_pF (a := 110) (x := 111) (m' := 131) (ji := 0) r317 rfl rfl (by decide +kernel) (by decide) (by decide +kernel) (by decide +kernel) (fun M318 r318 => ?_)
  refine r_nA (a := 112) (n' := 112) r318 (by decide) (by decide +kernel) rfl rfl (fun M319 r319 => ?_)
  refine r_pF (a := 110) (x := 112) (m' := 132) (ji := 1) r319 rfl rfl (by decide +kernel) (by decide) (by decide +kernel) (by decide +kernel) (fun M320 r320 => ?_)
  refine r_nA (a := 113) (n' := 113) r320 (by decide) (by decide +kernel) rfl rfl (fun M321 r321 => ?_)
  refine r_pF (a := 110) (x := 113) (m' := 133) (ji := 2) r321 rfl rfl (by decide +kernel) (by decide) (by decide +kernel) (by decide +kernel) (fun M322 r322 => ?_)
  refine r_nA (a := 114) (n' := 114) r322 (by decide) (by decide +kernel) rfl rfl (fun M323 r323 => ?_)
  refine r_pF (a := 110) (x := 114) (m' := 134) (ji := 3) r323 rfl rfl (by decide +kernel) (by decide) (by decide +kernel) (by decide +kernel) (fun M324 r324 => ?_)
  refine r_nA (a := 115) (n' := 115) r324 (by decide) (by decide +kernel) rfl rfl (fun M325 r325 => ?_)
  refine r_pF (a := 110) (x := 115) (m' := 135) (ji := 4) r325 rfl rfl (by decide +kernel) (by decide) (by decide +kernel) (by decide +kernel) (fun M326 r326 => ?_)
  refine r_nA (a := 116) (n' := 116) r326 (by decide) (by decide +kernel) rfl rfl (fun M327 r327 => ?_)
  refine r_pF (a := 110) (x := 116) (m' := 136) (ji := 5) r327 rfl rfl (by decide +kernel) (by decide) (by decide +kernel) (by decide +kernel) (fun M328 r328 => ?_)
  refine r_pF0 (a := 110) (ji := 6) r328 rfl (by decide +kernel) (by decide) (by decide +kernel) (fun M329 r329 => ?_)
  refine r_pF0 (a := 110) (ji := 7) r329 rfl (by decide +kernel) (by decide) (by decide +kernel) (fun M330 r330 => ?_)
  refine w_ret (hQ29 _ ?_)
  dsimp only
  refine r_pF (a := 109) (x := 110) (m' := 137) (ji := 0) r330 rfl rfl (by decide +kernel) (by decide) (by decide +kernel) (by decide +kernel) (fun M331 r331 => ?_)
  refine r_pF0 (a := 109) (ji := 1) r331 rfl (by decide +kernel) (by decide) (by decide +kernel) (fun M332 r332 => ?_)
  refine r_nA (a := 117) (n' := 117) r332 (by decide) (by decide +kernel) rfl rfl (fun M333 r333 => ?_)
  refine r_pF (a := 109) (x := 117) (m' := 138) (ji := 2) r333 rfl rfl (by decide +kernel) (by decide) (by decide +kernel) (by decide +kernel) (fun M334 r334 => ?_)
  refine r_nA (a := 118) (n' := 118) r334 (by decide) (by decide +kernel) rfl rfl (fun M335 r335 => ?_)
  refine r_pF (a := 109) (x := 118) (m' := 139) (ji := 3) r335 rfl rfl (by decide +kernel) (by decide) (by decide +kernel) (by decide +kernel) (fun M336 r336 => ?_)
  refine r_nA (a := 119) (n' := 119) r336 (by decide) (by decide +kernel) rfl rfl (fun M337 r337 => ?_)
  refine r_pF (a := 109) (x := 119) (m' := 140) (ji := 4) r337 rfl rfl (by decide +kernel) (by decide) (by decide +kernel) (by decide +kernel) (fun M338 r338 => ?_)
  refine r_pF0 (a := 109) (ji := 5) r338 rfl (by decide +kernel) (by decide) (by decide +kernel) (fun M339 r339 => ?_)
  refine r_pF0 (a := 109) (ji := 6) r339 rfl (by decide +kernel) (by decide) (by decide +kernel) (fun M340 r340 => ?_)
  refine r_pF (a := 109) (x := (-1)) (m' := 141) (ji := 7) r340 rfl rfl (by decide +kernel) (by decide) (by decide +kernel) (by decide +kernel) (fun M341 r341 => ?_)
  refine r_nA (a := 120) (n' := 120) r341 (by decide) (by decide +kernel) rfl rfl (fun M342 r342 => ?_)
  refine r_pF (a := 109) (x := 120) (m' := 142) (ji := 8) r342 rfl rfl (by decide +kernel) (by decide) (by decide +kernel) (by decide +kernel) (fun M343 r343 => ?_)
  refine r_nA (a := 121) (n' := 121) r343 (by decide) (by decide +kernel) rfl rfl (fun M344 r344 => ?_)
  refine r_pF (a := 109) (x := 121) (m' := 143) (ji := 9) r344 rfl rfl (by decide +kernel) (by decide) (by decide +kernel) (by decide +kernel) (fun M345 r345 => ?_)
  refine r_nA (a := 122) (n' := 122) r345 (by decide) (by decide +kernel) rfl rfl (fun M346 r346 => ?_)
  refine r_pF (a := 109) (x := 122) (m' := 144) (ji := 10) r346 rfl rfl (by decide +kernel) (by decide) (by decide +kernel) (by decide +kernel) (fun M347 r347 => ?_)
  refine r_pF0 (a := 109) (ji := 11) r347 rfl (by decide +kernel) (by decide) (by decide +kernel) (fun M348 r348 => ?_)
  refine r_pF0 (a := 109) (ji := 12) r348 rfl (by decide +kernel) (by decide) (by decide +kernel) (fun M349 r349 => ?_)
  refine r_pF0 (a := 109) (ji := 13) r349 rfl (by decide +kernel) (by decide) (by decide +kernel) (fun M350 r350 => ?_)
  refine r_pF (a := 109) (x := (-1)) (m' := 145) (ji := 14) r350 rfl rfl (by decide +kernel) (by decide) (by decide +kernel) (by decide +kernel) (fun M351 r351 => ?_)
  refine r_nA (a := 123) (n' := 123) r351 (by decide) (by decide +kernel) rfl rfl (fun M352 r352 => ?_)
  refine r_pF (a := 109) (x := 123) (m' := 146) (ji := 15) r352 rfl rfl (by decide +kernel) (by decide) (by decide +kernel) (by decide +kernel) (fun M353 r353 => ?_)
  refine r_nA (a := 124) (n' := 124) r353 (by decide) (by decide +kernel) rfl rfl (fun M354 r354 => ?_)
  refine r_pF (a := 109) (x := 124) (m' := 147) (ji := 16) r354 rfl rfl (by decide +kernel) (by decide) (by decide +kernel) (by decide +kernel) (fun M355 r355 => ?_)
  refine r_nA (a := 125) (n' := 125) r355 (by decide) (by decide +kernel) rfl rfl (fun M356 r356 => ?_)
  refine r_pF (a := 109) (x := 125) (m' := 148) (ji := 17) r356 rfl rfl (by decide +kernel) (by decide) (by decide +kernel) (by decide +kernel) (fun M357 r357 => ?_)
  refine r_pF0 (a := 109) (ji := 18) r357 rfl (by decide +kernel) (by decide) (by decide +kernel) (fun M358 r358 => ?_)
  refine w_ret (hQ28 _ ?_)
  dsimp only
  refine r_aSR (a := 73) (x := 109) (m' := 149) (i := 2) r358 rfl (by decide +kernel) (by decide) (by decide) (by decide +kernel) (by decide +kernel) (by decide +kernel) (fun M359 r359 => ?_)
  refine w_ret (hQ1 _ ?_)
  dsimp only
  refine r_nO (a := 126) (n' := 126) r359 (by decide +kernel) rfl rfl (fun M360 r360 => ?_)
  refine r_gK (a := 126) r360 (by decide +kernel) (by decide) ?_
  refine w_bindg (fun Q30 hQ30 => ?_)
  unfold mX9_init
  refine r_gK (a := 126) r360 (by decide +kernel) (by decide) ?_
  refine r_nA (a := 127) (n' := 127) r360 (by decide) (by decide +kernel) rfl rfl (fun M361 r361 => ?_)
  refine r_pF (a := 126) (x := 127) (m' := 150) (ji := 1) r361 rfl rfl (by decide +kernel) (by decide) (by decide +kernel) (by decide +kernel) (fun M362 r362 => ?_)
  refine r_nA (a := 128) (n' := 128) r362 (by decide) (by decide +kernel) rfl rfl (fun M363 r363 => ?_)
  refine r_pF (a := 126) (x := 128) (m' := 151) (ji := 2) r363 rfl rfl (by decide +kernel) (by decide) (by decide +kernel) (by decide +kernel) (fun M364 r364 => ?_)
  refine r_nA (a := 129) (n' := 129) r364 (by decide) (by decide +kernel) rfl rfl (fun M365 r365 => ?_)
  refine r_pF (a := 126) (x := 129) (m' := 152) (ji := 3) r365 rfl rfl (by decide +kernel) (by decide) (by decide +kernel) (by decide +kernel) (fun M366 r366 => ?_)
  refine r_nA (a := 130) (n' := 130) r366 (by decide) (by decide +kernel) rfl rfl (fun M367 r367 => ?_)
  refine r_pF (a := 126) (x := 130) (m' := 153) (ji := 4) r367 rfl rfl (by decide +kernel) (by decide) (by decide +kernel) (by decide +kernel) (fun M368 r368 => ?_)
  refine r_nA (a := 131) (n' := 131) r368 (by decide) (by decide +kernel) rfl rfl (fun M369 r369 => ?_)
  refine r_pF (a := 126) (x := 131) (m' := 154) (ji := 5) r369 rfl rfl (by decide +kernel) (by decide) (by decide +kernel) (by decide +kernel) (fun M370 r370 => ?_)
  refine r_nA (a := 132) (n' := 132) r370 (by decide) (by decide +kernel) rfl rfl (fun M371 r371 => ?_)
  refine r_pF (a := 126) (x := 132) (m' := 155) (ji := 6) r371 rfl rfl (by decide +kernel) (by decide) (by decide +kernel) (by decide +kernel) (fun M372 r372 => ?_)
  refine r_nA (a := 133) (n' := 133) r372 (by decide) (by decide +kernel) rfl rfl (fun M373 r373 => ?_)
  refine r_pF (a := 126) (x := 133) (m' := 156) (ji := 7) r373 rfl rfl (by decide +kernel) (by decide) (by decide +kernel) (by decide +kernel) (fun M374 r374 => ?_)
  refine r_nA (a := 134) (n' := 134) r374 (by decide) (by decide +kernel) rfl rfl (fun M375 r375 => ?_)
  refine r_pF (a := 126) (x := 134) (m' := 157) (ji := 8) r375 rfl rfl (by decide +kernel) (by decide) (by decide +kernel) (by decide +kernel) (fun M376 r376 => ?_)
  refine r_nA (a := 135) (n' := 135) r376 (by decide) (by decide +kernel) rfl rfl (fun M377 r377 => ?_)
  refine r_pF (a := 126) (x := 135) (m' := 158) (ji := 9) r377 rfl rfl (by decide +kernel) (by decide) (by decide +kernel) (by decide +kernel) (fun M378 r378 => ?_)
  refine r_nA (a := 136) (n' := 136) r378 (by decide) (by decide +kernel) rfl rfl (fun M379 r379 => ?_)
  refine r_pF (a := 126) (x := 136) (m' := 159) (ji := 10) r379 rfl rfl (by decide +kernel) (by decide) (by decide +kernel) (by decide +kernel) (fun M380 r380 => ?_)
  refine r_nA (a := 137) (n' := 137) r380 (by decide) (by decide +kernel) rfl rfl (fun M381 r381 => ?_)
  refine r_pF (a := 126) (x := 137) (m' := 160) (ji := 11) r381 rfl rfl (by decide +kernel) (by decide) (by decide +kernel) (by decide +kernel) (fun M382 r382 => ?_)
  refine r_nA (a := 138) (n' := 138) r382 (by decide) (by decide +kernel) rfl rfl (fun M383 r383 => ?_)
  refine r_pF (a := 126) (x := 138) (m' := 161) (ji := 12) r383 rfl rfl (by decide +kernel) (by decide) (by decide +kernel) (by decide +kernel) (fun M384 r384 => ?_)
  refine r_nA (a := 139) (n' := 139) r384 (by decide) (by decide +kernel) rfl rfl (fun M385 r385 => ?_)
  refine r_pF (a := 126) (x := 139) (m' := 162) (ji := 13) r385 rfl rfl (by decide +kernel) (by decide) (by decide +kernel) (by decide +kernel) (fun M386 r386 => ?_)
  refine r_nA (a := 140) (n' := 140) r386 (by decide) (by decide +kernel) rfl rfl (fun M387 r387 => ?_)
  refine r_pF (a := 126) (x := 140) (m' := 163) (ji := 14) r387 rfl rfl (by decide +kernel) (by decide) (by decide +kernel) (by decide +kernel) (fun M388 r388 => ?_)
  refine r_nA (a := 141) (n' := 141) r388 (by decide) (by decide +kernel) rfl rfl (fun M389 r389 => ?_)
  refine r_pF (a := 126) (x := 141) (m' := 164) (ji := 15) r389 rfl rfl (by decide +kernel) (by decide) (by decide +kernel) (by decide +kernel) (fun M390 r390 => ?_)
  refine r_nA (a := 142) (n' := 142) r390 (by decide) (by decide +kernel) rfl rfl (fun M391 r391 => ?_)
  refine r_pF (a := 126) (x := 142) (m' := 165) (ji := 16) r391 rfl rfl (by decide +kernel) (by decide) (by decide +kernel) (by decide +kernel) (fun M392 r392 => ?_)
  refine r_nA (a := 143) (n' := 143) r392 (by decide) (by decide +kernel) rfl rfl (fun M393 r393 => ?_)
  refine r_pF (a := 126) (x := 143) (m' := 166) (ji := 17) r393 rfl rfl (by decide +kernel) (by decide) (by decide +kernel) (by decide +kernel) (fun M394 r394 => ?_)
  refine r_nA (a := 144) (n' := 144) r394 (by decide) (by decide +kernel) rfl rfl (fun M395 r395 => ?_)
  refine r_pF (a := 126) (x := 144) (m' := 167) (ji := 18) r395 rfl rfl (by decide +kernel) (by decide) (by decide +kernel) (by decide +kernel) (fun M396 r396 => ?_)
  refine r_nA (a := 145) (n' := 145) r396 (by decide) (by decide +kernel) rfl rfl (fun M397 r397 => ?_)
  refine r_pF (a := 126) (x := 145) (m' := 168) (ji := 19) r397 rfl rfl (by decide +kernel) (by decide) (by decide +kernel) (by decide +kernel) (fun M398 r398 => ?_)
  refine r_nA (a := 146) (n' := 146) r398 (by decide) (by decide +kernel) rfl rfl (fun M399 r399 => ?_)
  refine r_pF (a := 126) (x := 146) (m' := 169) (ji := 20) r399 rfl rfl (by decide +kernel) (by decide) (by decide +kernel) (by decide +kernel) (fun M400 r400 => ?_)
  refine r_nA (a := 147) (n' := 147) r400 (by decide) (by decide +kernel) rfl rfl (fun M401 r401 => ?_)
  refine r_pF (a := 126) (x := 147) (m' := 170) (ji := 21) r401 rfl rfl (by decide +kernel) (by decide) (by decide +kernel) (by decide +kernel) (fun M402 r402 => ?_)
  refine r_nA (a := 148) (n' := 148) r402 (by decide) (by decide +kernel) rfl rfl (fun M403 r403 => ?_)
  refine r_pF (a := 126) (x := 148) (m' := 171) (ji := 22) r403 rfl rfl (by decide +kernel) (by decide) (by decide +kernel) (by decide +kernel) (fun M404 r404 => ?_)
  refine r_nA (a := 149) (n' := 149) r404 (by decide) (by decide +kernel) rfl rfl (fun M405 r405 => ?_)
  refine r_pF (a := 126) (x := 149) (m' := 172) (ji := 23) r405 rfl rfl (by decide +kernel) (by decide) (by decide +kernel) (by decide +kernel) (fun M406 r406 => ?_)
  refine r_nA (a := 150) (n' := 150) r406 (by decide) (by decide +kernel) rfl rfl (fun M407 r407 => ?_)
  refine r_pF (a := 126) (x := 150) (m' := 173) (ji := 24) r407 rfl rfl (by decide +kernel) (by decide) (by decide +kernel) (by decide +kernel) (fun M408 r408 => ?_)
  refine r_nA (a := 151) (n' := 151) r408 (by decide) (by decide +kernel) rfl rfl (fun M409 r409 => ?_)
  refine r_pF (a := 126) (x := 151) (m' := 174) (ji := 25) r409 rfl rfl (by decide +kernel) (by decide) (by decide +kernel) (by decide +kernel) (fun M410 r410 => ?_)
  refine r_nA (a := 152) (n' := 152) r410 (by decide) (by decide +kernel) rfl rfl (fun M411 r411 => ?_)
  refine r_pF (a := 126) (x := 152) (m' := 175) (ji := 26) r411 rfl rfl (by decide +kernel) (by decide) (by decide +kernel) (by decide +kernel) (fun M412 r412 => ?_)
  refine r_nA (a := 153) (n' := 153) r412 (by decide) (by decide +kernel) rfl rfl (fun M413 r413 => ?_)
  refine r_pF (a := 126) (x := 153) (m' := 176) (ji := 27) r413 rfl rfl (by decide +kernel) (by decide) (by decide +kernel) (by decide +kernel) (fun M414 r414 => ?_)
  refine r_nA (a := 154) (n' := 154) r414 (by decide) (by decide +kernel) rfl rfl (fun M415 r415 => ?_)
  refine r_pF (a := 126) (x := 154) (m' := 177) (ji := 28) r415 rfl rfl (by decide +kernel) (by decide) (by decide +kernel) (by decide +kernel) (fun M416 r416 => ?_)
  refine r_nA (a := 155) (n' := 155) r416 (by decide) (by decide +kernel) rfl rfl (fun M417 r417 => ?_)
  refine r_pF (a := 126) (x := 155) (m' := 178) (ji := 39) r417 rfl rfl (by decide +kernel) (by decide) (by decide +kernel) (by decide +kernel) (fun M418 r418 => ?_)
  refine r_nA (a := 156) (n' := 156) r418 (by decide) (by decide +kernel) rfl rfl (fun M419 r419 => ?_)
  refine r_pF (a := 126) (x := 156) (m' := 179) (ji := 41) r419 rfl rfl (by decide +kernel) (by decide) (by decide +kernel) (by decide +kernel) (fun M420 r420 => ?_)
  refine r_nA (a := 157) (n' := 157) r420 (by decide) (by decide +kernel) rfl rfl (fun M421 r421 => ?_)
  refine r_pF (a := 126) (x := 157) (m' := 180) (ji := 42) r421 rfl rfl (by decide +kernel) (by decide) (by decide +kernel) (by decide +kernel) (fun M422 r422 => ?_)
  refine r_nA (a := 158) (n' := 158) r422 (by decide) (by decide +kernel) rfl rfl (fun M423 r423 => ?_)
  refine r_pF (a := 126) (x := 158) (m' := 181) (ji := 43) r423 rfl rfl (by decide +kernel) (by decide) (by decide +kernel) (by decide +kernel) (fun M424 r424 => ?_)
  refine r_nA (a := 159) (n' := 159) r424 (by decide) (by decide +kernel) rfl rfl (fun M425 r425 => ?_)
  refine r_pF (a := 126) (x := 159) (m' := 182) (ji := 44) r425 rfl rfl (by decide +kernel) (by decide) (by decide +kernel) (by decide +kernel) (fun M426 r426 => ?_)
  refine r_nA (a := 160) (n' := 160) r426 (by decide) (by decide +kernel) rfl rfl (fun M427 r427 => ?_)
  refine r_pF (a := 126) (x := 160) (m' := 183) (ji := 45) r427 rfl rfl (by decide +kernel) (by decide) (by decide +kernel) (by decide +kernel) (fun M428 r428 => ?_)
  refine r_nA (a := 161) (n' := 161) r428 (by decide) (by decide +kernel) rfl rfl (fun M429 r429 => ?_)
  refine r_pF (a := 126) (x := 161) (m' := 184) (ji := 47) r429 rfl rfl (by decide +kernel) (by decide) (by decide +kernel) (by decide +kernel) (fun M430 r430 => ?_)
  refine r_nA (a := 162) (n' := 162) r430 (by decide) (by decide +kernel) rfl rfl (fun M431 r431 => ?_)
  refine r_pF (a := 126) (x := 162) (m' := 185) (ji := 51) r431 rfl rfl (by decide +kernel) (by decide) (by decide +kernel) (by decide +kernel) (fun M432 r432 => ?_)
  refine r_nA (a := 163) (n' := 163) r432 (by decide) (by decide +kernel) rfl rfl (fun M433 r433 => ?_)
  refine r_pF (a := 126) (x := 163) (m' := 186) (ji := 55) r433 rfl rfl (by decide +kernel) (by decide) (by decide +kernel) (by decide +kernel) (fun M434 r434 => ?_)
  refine r_nA (a := 164) (n' := 164) r434 (by decide) (by decide +kernel) rfl rfl (fun M435 r435 => ?_)
  refine r_pF (a := 126) (x := 164) (m' := 187) (ji := 56) r435 rfl rfl (by decide +kernel) (by decide) (by decide +kernel) (by decide +kernel) (fun M436 r436 => ?_)
  refine r_nA (a := 165) (n' := 165) r436 (by decide) (by decide +kernel) rfl rfl (fun M437 r437 => ?_)
  refine r_pF (a := 126) (x := 165) (m' := 188) (ji := 58) r437 rfl rfl (by decide +kernel) (by decide) (by decide +kernel) (by decide +kernel) (fun M438 r438 => ?_)
  refine r_nA (a := 166) (n' := 166) r438 (by decide) (by decide +kernel) rfl rfl (fun M439 r439 => ?_)
  refine r_pF (a := 126) (x := 166) (m' := 189) (ji := 59) r439 rfl rfl (by decide +kernel) (by decide) (by decide +kernel) (by decide +kernel) (fun M440 r440 => ?_)
  refine r_nA (a := 167) (n' := 167) r440 (by decide) (by decide +kernel) rfl rfl (fun M441 r441 => ?_)
  refine r_pF (a := 126) (x := 167) (m' := 190) (ji := 60) r441 rfl rfl (by decide +kernel) (by decide) (by decide +kernel) (by decide +kernel) (fun M442 r442 => ?_)
  refine r_nA (a := 168) (n' := 168) r442 (by decide) (by decide +kernel) rfl rfl (fun M443 r443 => ?_)
  refine r_pF (a := 126) (x := 168) (m' := 191) (ji := 61) r443 rfl rfl (by decide +kernel) (by decide) (by decide +kernel) (by decide +kernel) (fun M444 r444 => ?_)
  refine r_nA (a := 169) (n' := 169) r444 (by decide) (by decide +kernel) rfl rfl (fun M445 r445 => ?_)
  refine r_pF (a := 126) (x := 169) (m' := 192) (ji := 62) r445 rfl rfl (by decide +kernel) (by decide) (by decide +kernel) (by decide +kernel) (fun M446 r446 => ?_)
  refine r_gF (a := 126) (ji := 4) (v := 130) r446 rfl (by decide +kernel) (by decide) (by decide +kernel) ?_
  refine r_aS (a := 130) (x := (-1)) (m' := 193) (i := 0) r446 rfl (by decide +kernel) (by decide) (by decide) (by decide +kernel) (by decide +kernel) (fun M447 r447 => ?_)
  refine r_gF (a := 126) (ji := 6) (v := 132) r447 rfl (by decide +kernel) (by decide) (by decide +kernel) ?_
  refine r_aS (a := 132) (x := (-1)) (m' := 194) (i := 0) r447 rfl (by decide +kernel) (by decide) (by decide) (by decide +kernel) (by decide +kernel) (fun M448 r448 => ?_)
  show wp (bX9_init_365 (mX9_init_365 69999) 126 0 _) _
  unfold bX9_init_365
  rw [if_neg (by decide +kernel)]
  refine r_gF (a := 126) (ji := 7) (v := 133) r448 rfl (by decide +kernel) (by decide) (by decide +kernel) ?_
  refine r_aSl (a := 133) (x := 2) (m' := 195) (il := 0) r448 rfl (by decide +kernel) (by decide +kernel) (by decide) (by decide) (by decide +kernel) (by decide +kernel) (fun M449 r449 => ?_)
  show wp (bX9_init_365 (mX9_init_365 69998) 126 _ _) _
  unfold bX9_init_365
  rw [if_neg (by decide +kernel)]
  refine r_gF (a := 126) (ji := 7) (v := 133) r449 rfl (by decide +kernel) (by decide) (by decide +kernel) ?_
  refine r_aSl (a := 133) (x := 2) (m' := 196) (il := 1) r449 rfl (by decide +kernel) (by decide +kernel) (by decide) (by decide) (by decide +kernel) (by decide +kernel) (fun M450 r450 => ?_)
  show wp (bX9_init_365 (mX9_init_365 69997) 126 _ _) _
  unfold bX9_init_365
  rw [if_neg (by decide +kernel)]
  refine r_gF (a := 126) (ji := 7) (v := 133) r450 rfl (by decide +kernel) (by decide) (by decide +kernel) ?_
  refine r_aSl (a := 133) (x := 2) (m' := 197) (il := 2) r450 rfl (by decide +kernel) (by decide +kernel) (by decide) (by decide) (by decide +kernel) (by decide +kernel) (fun M451 r451 => ?_)
  show wp (bX9_init_365 (mX9_init_365 69996) 126 _ _) _
  unfold bX9_init_365
  rw [if_pos (by decide +kernel)]
  refine w_ret (hQ30 _ ?_)
  dsimp only
  exact h _ r451
