/-! ===== J3 at the beginning; worlds alike ===== -/
theorem init_J3 {M : Mem} (r : RepL 197 169 M) : J3 M := by
  have t := TR.of r (X := 0) (lo := 1) (hi := 169)
  have g : ∀ a j v, 1 ≤ a → a ≤ 169 → tvo 0 [] a j = some v → mG M a j = v := fun a j v a0 a1 e => t.v e ⟨a0, a1⟩
  refine ⟨init_J2 r, fun i i0 i1 hi => ?_, CA.z (g 2 4 0 (by decide) (by decide) (by decide))⟩
  have e0 : i = 0 := by
    rcases hi with hi | hi
    · exact hi
    · have hk : i - 1 = 0 ∨ i - 1 = 1 ∨ i - 1 = 2 ∨ i - 1 = -1 := by omega
      rcases hk with e | e | e | e
      · rw [e, g 169 0 0 (by decide) (by decide) (by decide)] at hi; cases hi
      · rw [e, g 169 1 0 (by decide) (by decide) (by decide)] at hi; cases hi
      · rw [e, g 169 2 0 (by decide) (by decide) (by decide)] at hi; cases hi
      · omega
  subst e0
  intro k k0 k1
  rw [g 146 0 0 (by decide) (by decide) (by decide)] at k1
  omega
/-- a call's answers are alike, and J3 is kept -/
theorem J3.e {M : Mem} {x : Option (Int × Mem)} {y : Mem → Option (Int × Mem)} (h : wp x (fun q1 => wp (y q1.2) (fun q2 => J3 q2.2))) (k : pw x (fun q1 => pw (y q1.2) (fun q2 => EQ q1 q2))) : wp x (fun q1 => wp (y q1.2) (fun q2 => J3 q2.2 ∧ EQ q1 q2)) := w_and3 (M := M) h k
theorem j3_worldsE {M : Mem} (h : J3 M) : wp (mX8_worlds 1 M) (fun q1 => wp (mX9_worlds 126 q1.2) (fun q2 => J3 q2.2 ∧ EQ q1 q2)) := J3.e (M := M) (j3_worlds h) (eq_worlds h)
