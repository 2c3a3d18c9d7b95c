def W_X9_bringSizes (b j : Int) : Prop := (152 ≤ b ∧ b ≤ 153)
theorem s_X9_bringSizes {n : Nat} {M : Mem} (iM : I n M) : wp (mX9_bringSizes 126 M) (fun q => I n q.2 ∧ Keep n W_X9_bringSizes M q.2 ∧ (NP q.2) ∧ (SF q.2) ∧ True) := sorry
def W_X9_copy (b j : Int) : Prop := (127 ≤ b ∧ b ≤ 151)
theorem s_X9_copy {n : Nat} {l1 l2 : Int} {M : Mem} (r_l1 : 0 ≤ l1 ∧ l1 ≤ 3) (r_l2 : 0 ≤ l2 ∧ l2 ≤ 3) (iM : I n M) : wp (mX9_copy 126 l1 l2 M) (fun q => I n q.2 ∧ Keep n W_X9_copy M q.2 ∧ True) := sorry
def W_X5_leadingAlls (b j : Int) : Prop := False
theorem s_X5_leadingAlls {n : Nat} {l0 : Int} {M : Mem} (x_l0 : TX n M l0) (n_l0 : ¬ l0 = 0) (iM : I n M) : wp (mX5_leadingAlls l0 M) (fun q => I n q.2 ∧ Keep n W_X5_leadingAlls M q.2 ∧ (0 ≤ q.1 ∧ q.1 ≤ 4) ∧ (∀ m2 : Nat, TextN M l0 m2 → q.1 ≤ (m2 : Int)) ∧ True) := by
  obtain ⟨q, m, t⟩ := TX.nn x_l0 n_l0
  have hp := tn_p t
  have key : ∀ (fu : Nat) (l1 : Int), 0 ≤ l1 → l1 ≤ 4 → l1 ≤ (m : Int) → 5 - l1 < (fu : Int) → wp (mX5_leadingAlls_2 fu l0 l1 M) (fun q => q.2 = M ∧ 0 ≤ q.1 ∧ q.1 ≤ 4 ∧ q.1 ≤ (m : Int)) := by
    intro fu
    induction fu with
    | zero => intro l1 h0 h1 h2 hf; exfalso; omega
    | succ fu ih =>
      intro l1 h0 h1 h2 hf
      show wp (bX5_leadingAlls_2 (mX5_leadingAlls_2 fu) l0 l1 M) _
      unfold bX5_leadingAlls_2
      refine w_gF (ji := 5) rfl (congrArg Prod.fst (tn_k t)) (fun a4 ha4 => ?_)
      have e4 : mG M l0 5 = a4 := ha4
      refine w_if (fun c1 => ?_) (fun c1 => ?_)
      · exact w_ret ⟨rfl, h0, h1, h2⟩
      · refine w_if (fun c2 => ?_) (fun c2 => ?_)
        · exact w_ret ⟨rfl, h0, h1, h2⟩
        · refine w_gFc (ji := 0) rfl (congrArg Prod.fst (tn_k t)) (tn_0 t) ?_
          refine w_aG (tn_a0 t) h0 (by omega) (fun a20 ha20 => ?_)
          have w1 := wI_id (x := l1 + 1) (by omega) (by omega)
          refine w_if (fun c3 => ?_) (fun c3 => ?_)
          · exact ih _ (by omega) (by omega) (by omega) (by rw [w1]; have : ((fu + 1 : Nat) : Int) = (fu : Int) + 1 := rfl; omega)
          · exact w_ret ⟨rfl, h0, h1, h2⟩
  unfold mX5_leadingAlls
  refine w_mono (key FU 0 (by omega) (by omega) (by omega) (by show _ < (70000 : Int); omega)) ?_
  rintro ⟨r, M'⟩ ⟨h0, h1, h2, h3⟩
  have h0 : M' = M := h0
  subst h0
  exact ⟨iM, Keep.rf, ⟨h1, h2⟩, fun m2 z => by have z1 := (tn_p z).1; have h3 : r ≤ (m : Int) := h3; show r ≤ _; omega, trivial⟩
