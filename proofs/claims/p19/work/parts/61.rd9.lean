/-! ===== runs that end, what they leave: pw ===== -/
def pw {α : Type} (x : Option α) (Q : α → Prop) : Prop := ∀ a, x = some a → Q a
section PW
variable {α β : Type} {Q : β → Prop} {M : Mem}
theorem p_ret {a : β} (h : Q a) : pw (some a) Q := fun b e => by obtain rfl := Option.some.inj e; exact h
theorem p_none : pw (none : Option β) Q := fun b e => by cases e
theorem p_if {P : Prop} [Decidable P] {a b : Option β} (h1 : P → pw a Q) (h2 : ¬ P → pw b Q) : pw (if P then a else b) Q := by
  by_cases h : P
  · rw [if_pos h]; exact h1 h
  · rw [if_neg h]; exact h2 h
theorem p_mono {x : Option β} {P : β → Prop} (h : pw x P) (k : ∀ a, P a → Q a) : pw x Q := fun a e => k a (h a e)
theorem p_and {x : Option β} {P : β → Prop} (h : pw x P) (h2 : pw x Q) : pw x (fun a => P a ∧ Q a) := fun a e => ⟨h a e, h2 a e⟩
theorem p_wp {x : Option β} (h : wp x Q) : pw x Q := fun a e => w_so h e
theorem w_pw {x : Option β} {P : β → Prop} (h : wp x P) (h2 : pw x Q) : wp x (fun a => P a ∧ Q a) := w_and h (fun a e => h2 a e)
theorem p_call {x : Option (Int × Mem)} {f : Int × Mem → Option β} {P : Int × Mem → Prop} (h : pw x P) (k : ∀ r M', P (r, M') → pw (f (r, M')) Q) : pw (x.bind f) Q := by
  intro a e
  cases hx : x with
  | none => rw [hx] at e; cases e
  | some q => rw [hx] at e; exact k q.1 q.2 (h q hx) a e
theorem p_some {x : α} {f : α → Option β} (k : ∀ v, v = x → pw (f v) Q) : pw ((some x).bind f) Q := k x rfl
theorem p_gF {c j : Nat} {ji a : Int} {f : Int → Option β} (e : ((j : Nat) : Int) = ji) (k : ∀ v, mG M a ji = v → pw (f v) Q) : pw ((gF c j M a).bind f) Q := by
  subst e; unfold gF; split
  · exact k _ rfl
  · exact p_none
theorem p_gFc {c j : Nat} {ji a r : Int} {f : Int → Option β} (e : ((j : Nat) : Int) = ji) (hc : mG M a ji = r) (k : pw (f r) Q) : pw ((gF c j M a).bind f) Q :=
  p_gF e (fun v hv => by rw [← hv, hc]; exact k)
theorem p_gK {c : Nat} {a : Int} {f : Unit → Option β} (k : pw (f ()) Q) : pw ((gK c M a).bind f) Q := by
  unfold gK; split
  · exact k
  · exact p_none
theorem p_pF {c j : Nat} {ji a x : Int} {f : Mem → Option β} (e : ((j : Nat) : Int) = ji) (k : ∀ M', M' = mS M a ji x → pw (f M') Q) : pw ((pF c j M a x).bind f) Q := by
  subst e; unfold pF; split
  · exact k _ rfl
  · exact p_none
theorem p_pZ {c j : Nat} {ji a x : Int} {f : Mem → Option β} (e : ((j : Nat) : Int) = ji) (k : ∀ M', M' = mS M a ji x → pw (f M') Q) : pw ((pZ c j M a x).bind f) Q := by
  subst e; unfold pZ; split
  · exact k _ rfl
  · exact p_none
theorem p_aG {t : Nat} {a i : Int} {f : Int → Option β} (k : ∀ v, mG M a i = v → pw (f v) Q) : pw ((aG t M a i).bind f) Q := by
  unfold aG; split
  · exact k _ rfl
  · exact p_none
theorem p_aGc {t : Nat} {a i r : Int} {f : Int → Option β} (hc : mG M a i = r) (k : pw (f r) Q) : pw ((aG t M a i).bind f) Q :=
  p_aG (fun v hv => by rw [← hv, hc]; exact k)
theorem p_aS {t : Nat} {a i x : Int} {f : Mem → Option β} (k : ∀ M', M' = mS M a i x → pw (f M') Q) : pw ((aS t M a i x).bind f) Q := by
  unfold aS; split
  · exact k _ rfl
  · exact p_none
theorem p_aSZ {t : Nat} {a i x : Int} {f : Mem → Option β} (k : ∀ M', M' = mS M a i x → pw (f M') Q) : pw ((aSZ t M a i x).bind f) Q := by
  unfold aSZ; split
  · exact k _ rfl
  · exact p_none
theorem p_aSB {t : Nat} {a i x : Int} {f : Mem → Option β} (k : ∀ M', M' = mS M a i x → pw (f M') Q) : pw ((aSB t M a i x).bind f) Q := by
  unfold aSB; split
  · exact k _ rfl
  · exact p_none
theorem p_zR {x : Int} {f : Int → Option β} (k : x = 0 ∨ x = 1 → pw (f x) Q) : pw ((zR x).bind f) Q := by
  unfold zR; split
  · rename_i h; exact k h
  · exact p_none
theorem p_dQ {x y : Int} {f : Int → Option β} (k : ∀ v, v = idiv x y → pw (f v) Q) : pw ((dQ x y).bind f) Q := by
  unfold dQ; split
  · exact p_none
  · exact k _ rfl
end PW
/-! ===== the reference's reader: what a text that it takes is like ===== -/
/-- the addresses of the reference's rows -/
def adc (j : Int) : Int := match j with | 1 => 127 | 2 => 128 | 3 => 129 | 4 => 130 | 5 => 131 | 6 => 132 | 7 => 133 | 8 => 134 | 9 => 135 | 10 => 136 | 11 => 137 | 12 => 138 | 13 => 139 | 14 => 140 | 15 => 141 | 16 => 142 | 17 => 143 | 18 => 144 | 19 => 145 | 39 => 155 | 41 => 156 | 42 => 157 | 43 => 158 | 44 => 159 | _ => 0
def AD (M : Mem) : Prop := ∀ j : Int, ¬ adc j = 0 → mG M 126 j = adc j
theorem I.ad {n : Nat} {M : Mem} (h : I n M) : AD M := by
  intro j hj
  have k := rdf h (j := j) (show fam 126 = 42 from rfl)
  unfold adc at hj ⊢
  split at hj <;> first | exact absurd rfl hj | exact k
theorem AD.of {M M' : Mem} (h : AD M) (g : ∀ j : Int, ¬ adc j = 0 → mG M' 126 j = mG M 126 j) : AD M' := fun j hj => (g j hj).trans (h j hj)
theorem adc_in {j : Int} (h : ¬ adc j = 0) : ¬ (29 ≤ j ∧ j ≤ 38) ∧ ¬ j = 40 ∧ ¬ j = 0 := by
  refine ⟨fun z => h ?_, fun z => h ?_, fun z => h ?_⟩
  · obtain ⟨m, rfl⟩ := Int.eq_ofNat_of_zero_le (a := j) (by omega)
    have : ∀ m : Nat, m < 39 → 29 ≤ m → adc (m : Int) = 0 := by decide
    exact this m (by omega) (by omega)
  · subst z; rfl
  · subst z; rfl
/-- tokens and faults alone have changed -/
def TK (M M' : Mem) : Prop := (∀ b j : Int, ¬ (b = 126 ∧ 29 ≤ j ∧ j ≤ 37) → mG M' b j = mG M b j) ∧ (¬ mG M 126 36 = 0 → ¬ mG M' 126 36 = 0)
theorem TK.rf {M : Mem} : TK M M := ⟨fun _ _ _ => rfl, fun h => h⟩
theorem TK.tr {M M1 M2 : Mem} (h1 : TK M M1) (h2 : TK M1 M2) : TK M M2 := ⟨fun b j h => (h2.1 b j h).trans (h1.1 b j h), fun h => h2.2 (h1.2 h)⟩
theorem TK.st {M M1 M2 : Mem} {i x : Int} (h1 : TK M M1) (hi : 29 ≤ i ∧ i ≤ 37 ∧ ¬ i = 36) (hM : M2 = mS M1 126 i x) : TK M M2 :=
  ⟨fun b j h => (st_ne hM (fun z => h ⟨z.1, by omega, by omega⟩)).trans (h1.1 b j h), fun h => by rw [st_ne hM (fun z => hi.2.2 z.2.symm)]; exact h1.2 h⟩
theorem TK.ad {M M' : Mem} (h : TK M M') (ha : AD M) : AD M' := ha.of (fun j hj => h.1 126 j (fun z => (adc_in hj).1 (by omega)))
theorem pt_see {M : Mem} : pw (mX9_see 126 M) (fun q => q.2 = M) := by
  unfold mX9_see
  refine p_gF (ji := 29) rfl (fun v hv => ?_)
  refine p_gF (ji := 30) rfl (fun v2 hv2 => ?_)
  refine p_if (fun c => ?_) (fun c => ?_)
  · exact p_ret rfl
  · refine p_gF (ji := 1) rfl (fun _ _ => ?_)
    refine p_gF (ji := 29) rfl (fun _ _ => ?_)
    refine p_aG (fun _ _ => ?_)
    exact p_ret rfl
theorem pt_in {a b c : Int} {M : Mem} : pw (mX9_in a b c M) (fun q => q.2 = M) := by
  unfold mX9_in
  exact p_if (fun _ => p_ret rfl) (fun _ => p_if (fun _ => p_ret rfl) (fun _ => p_ret rfl))
theorem pt_235 {M M0 : Mem} {s1 : Int} (h : TK M0 M) : pw (mX9_token_235 126 s1 M) (fun q => TK M0 q.2) := by
  unfold mX9_token_235
  refine p_pF (ji := 32) rfl (fun M1 h1 => ?_)
  exact p_ret (h.st (by omega) h1)
theorem pt_163 {M0 : Mem} : ∀ (fu : Nat) (l2 : Int) (M : Mem), TK M0 M → pw (mX9_token_163 fu 126 l2 M) (fun q => TK M0 q.2) := by
  intro fu
  induction fu with
  | zero => intro l2 M h; exact p_none
  | succ fu ih =>
    intro l2 M h
    show pw (bX9_token_163 (mX9_token_163 fu) 126 l2 M) _
    unfold bX9_token_163
    refine p_gK ?_
    refine p_call pt_see ?_
    rintro r1 m1 e1
    have e1 : m1 = M := e1
    subst e1
    refine p_call pt_in ?_
    rintro r2 m2 e2
    have e2 : m2 = m1 := e2
    subst e2
    dsimp only
    refine p_if (fun c => ?_) (fun c => ?_)
    · exact p_if (fun _ => pt_235 h) (fun _ => pt_235 h)
    · have t : ∀ (s1 : Int) (M : Mem), TK M0 M → pw (mX9_token_205 (mX9_token_163 fu) 126 l2 126 s1 M) (fun q => TK M0 q.2) := by
        intro s1 M h
        unfold mX9_token_205
        refine p_pF (ji := 33) rfl (fun M1 h1 => ?_)
        refine p_gF (ji := 29) rfl (fun _ _ => ?_)
        refine p_pF (ji := 29) rfl (fun M2 h2 => ?_)
        exact ih _ _ ((h.st (by omega) h1).st (by omega) h2)
      refine p_if (fun c => ?_) (fun c => ?_)
      · refine p_gF (ji := 33) rfl (fun _ _ => ?_)
        exact t _ _ h
      · refine p_gF (ji := 33) rfl (fun _ _ => ?_)
        refine p_gK ?_
        refine p_call pt_see ?_
        rintro r3 m3 e3
        have e3 : m3 = m2 := e3
        subst e3
        exact t _ _ h
theorem pt_141 {M M0 : Mem} {s1 : Int} (h : TK M0 M) : pw (mX9_token_141 126 126 s1 M) (fun q => TK M0 q.2) := by
  unfold mX9_token_141
  refine p_pF (ji := 34) rfl (fun M1 h1 => ?_)
  refine p_pF (ji := 32) rfl (fun M2 h2 => ?_)
  exact p_ret ((h.st (by omega) h1).st (by omega) h2)
theorem pt_79 {M0 : Mem} : ∀ (fu : Nat) (l2 : Int) (M : Mem), TK M0 M → pw (mX9_token_79 fu 126 l2 M) (fun q => TK M0 q.2) := by
  intro fu
  induction fu with
  | zero => intro l2 M h; exact p_none
  | succ fu ih =>
    intro l2 M h
    show pw (bX9_token_79 (mX9_token_79 fu) 126 l2 M) _
    unfold bX9_token_79
    refine p_gK ?_
    refine p_call pt_see ?_
    rintro r1 m1 e1
    have e1 : m1 = M := e1
    subst e1
    refine p_call pt_in ?_
    rintro r2 m2 e2
    have e2 : m2 = m1 := e2
    subst e2
    dsimp only
    refine p_if (fun c => ?_) (fun c => ?_)
    · refine p_if (fun _ => ?_) (fun _ => ?_)
      · refine p_gF (ji := 34) rfl (fun _ _ => ?_)
        exact pt_141 h
      · exact pt_141 h
    · refine p_gF (ji := 34) rfl (fun _ _ => ?_)
      refine p_gK ?_
      refine p_call pt_see ?_
      rintro r3 m3 e3
      have e3 : m3 = m2 := e3
      subst e3
      refine p_pF (ji := 34) rfl (fun M1 h1 => ?_)
      refine p_gF (ji := 29) rfl (fun _ _ => ?_)
      refine p_pF (ji := 29) rfl (fun M2 h2 => ?_)
      exact ih _ _ ((h.st (by omega) h1).st (by omega) h2)
theorem pt_0 {M0 : Mem} : ∀ (fu : Nat) (M : Mem), TK M0 M → pw (mX9_token_0 fu 126 M) (fun q => TK M0 q.2) := by
  intro fu
  induction fu with
  | zero => intro M h; exact p_none
  | succ fu ih =>
    intro M h
    show pw (bX9_token_0 (mX9_token_0 fu) 126 M) _
    unfold bX9_token_0
    have t : pw (mX9_token_18 (mX9_token_0 fu) 126 M) (fun q => TK M0 q.2) := by
      unfold mX9_token_18
      refine p_gF (ji := 29) rfl (fun _ _ => ?_)
      refine p_pF (ji := 29) rfl (fun M2 h2 => ?_)
      exact ih _ (h.st (by omega) h2)
    refine p_gK ?_
    refine p_call pt_see ?_
    rintro r1 m1 e1
    have e1 : m1 = M := e1
    subst e1
    dsimp only
    refine p_if (fun c => t) (fun c => ?_)
    refine p_gK ?_
    refine p_call pt_see ?_
    rintro r2 m2 e2
    have e2 : m2 = m1 := e2
    subst e2
    dsimp only
    refine p_if (fun c => t) (fun c => ?_)
    refine p_gF (ji := 29) rfl (fun _ _ => ?_)
    refine p_pF (ji := 31) rfl (fun M1 h1 => ?_)
    refine p_gK ?_
    refine p_call pt_see ?_
    rintro r3 m3 e3
    have e3 : m3 = M1 := e3
    subst e3
    refine p_pF (ji := 33) rfl (fun M4 h4 => ?_)
    refine p_pF (ji := 34) rfl (fun M5 h5 => ?_)
    have t5 : TK M0 M5 := ((h.st (by omega) h1).st (by omega) h4).st (by omega) h5
    refine p_if (fun c => ?_) (fun c => ?_)
    · refine p_call pt_in ?_
      rintro r6 m6 e6
      have e6 : m6 = M5 := e6
      subst e6
      dsimp only
      refine p_if (fun c => ?_) (fun c => ?_)
      · refine p_call pt_in ?_
        rintro r7 m7 e7
        have e7 : m7 = m6 := e7
        subst e7
        dsimp only
        refine p_if (fun c => ?_) (fun c => ?_)
        · refine p_gF (ji := 29) rfl (fun _ _ => ?_)
          refine p_pF (ji := 29) rfl (fun M8 h8 => ?_)
          refine p_pF (ji := 32) rfl (fun M9 h9 => ?_)
          exact p_ret ((t5.st (by omega) h8).st (by omega) h9)
        · exact pt_163 _ _ _ t5
      · exact pt_79 _ _ _ t5
    · refine p_pF (ji := 32) rfl (fun M9 h9 => ?_)
      exact p_ret (t5.st (by omega) h9)
theorem pt_token {M : Mem} : pw (mX9_token 126 M) (fun q => TK M q.2) := by
  unfold mX9_token
  exact pt_0 _ _ TK.rf
theorem pt_31 {M : Mem} {l1 l2 : Int} (h : ¬ l1 = 0) : pw (mX9_later_31 126 l1 l2 M) (fun q => TK M q.2 ∧ ¬ mG q.2 126 36 = 0) := by
  unfold mX9_later_31
  refine p_pF (ji := 36) rfl (fun M1 h1 => ?_)
  refine p_pF (ji := 37) rfl (fun M2 h2 => ?_)
  have e : mG M2 126 36 = l1 := by rw [st_ne h2 (fun z => absurd z.2 (by decide)), st_eq h1]
  refine p_ret ⟨⟨fun b j z => ?_, fun _ => by rw [e]; exact h⟩, by rw [e]; exact h⟩
  rw [st_ne h2 (fun y => z ⟨y.1, by omega, by omega⟩), st_ne h1 (fun y => z ⟨y.1, by omega, by omega⟩)]
theorem pt_later {M : Mem} {l1 l2 : Int} (h : ¬ l1 = 0) : pw (mX9_later 126 l1 l2 M) (fun q => TK M q.2 ∧ ¬ mG q.2 126 36 = 0) := by
  unfold mX9_later
  refine p_gF (ji := 36) rfl (fun v hv => ?_)
  refine p_if (fun c => pt_31 h) (fun c => ?_)
  have e : ¬ mG M 126 36 = 0 := by rw [hv]; exact c
  refine p_gF (ji := 37) rfl (fun _ _ => ?_)
  refine p_if (fun _ => pt_31 h) (fun _ => ?_)
  refine p_gF (ji := 37) rfl (fun _ _ => ?_)
  refine p_if (fun _ => ?_) (fun _ => ?_)
  · refine p_gF (ji := 36) rfl (fun _ _ => ?_)
    exact p_if (fun _ => p_ret ⟨TK.rf, e⟩) (fun _ => pt_31 h)
  · exact p_ret ⟨TK.rf, e⟩
theorem pt_isWord {M : Mem} {w : Int} : pw (mX9_isWord 126 w M) (fun q => q.2 = M) := by
  unfold mX9_isWord
  refine p_gF (ji := 32) rfl (fun _ _ => ?_)
  refine p_if (fun _ => ?_) (fun _ => p_ret rfl)
  refine p_gF (ji := 34) rfl (fun _ _ => ?_)
  exact p_if (fun _ => p_ret rfl) (fun _ => p_ret rfl)
theorem p_isw {β : Type} {Q : β → Prop} {M : Mem} {w : Int} {f : Int × Mem → Option β} (k : ∀ r, pw (f (r, M)) Q) : pw ((gK 9 M 126).bind fun _ => (mX9_isWord 126 w M).bind f) Q :=
  p_gK (p_call pt_isWord (fun r m e => by have e : m = M := e; subst e; exact k r))
theorem pt_varOf {M : Mem} : pw (mX9_varOf 126 M) (fun q => q.2 = M ∧ -1 ≤ q.1 ∧ q.1 ≤ 3) := by
  unfold mX9_varOf
  refine p_isw (fun r => p_if (fun _ => ?_) (fun _ => p_ret ⟨rfl, (show (-1 : Int) ≤ 0 from by decide), (show (0 : Int) ≤ 3 from by decide)⟩))
  refine p_isw (fun r => p_if (fun _ => ?_) (fun _ => p_ret ⟨rfl, (show (-1 : Int) ≤ 1 from by decide), (show (1 : Int) ≤ 3 from by decide)⟩))
  refine p_isw (fun r => p_if (fun _ => ?_) (fun _ => p_ret ⟨rfl, (show (-1 : Int) ≤ 2 from by decide), (show (2 : Int) ≤ 3 from by decide)⟩))
  exact p_isw (fun r => p_if (fun _ => p_ret ⟨rfl, (show (-1 : Int) ≤ -1 from by decide), (show (-1 : Int) ≤ 3 from by decide)⟩) (fun _ => p_ret ⟨rfl, (show (-1 : Int) ≤ 3 from by decide), (show (3 : Int) ≤ 3 from by decide)⟩))
theorem pt_kindOf {M : Mem} : pw (mX9_kindOf 126 M) (fun q => q.2 = M ∧ -1 ≤ q.1 ∧ q.1 ≤ 2) := by
  unfold mX9_kindOf
  refine p_isw (fun r => p_if (fun _ => ?_) (fun _ => p_ret ⟨rfl, (show (-1 : Int) ≤ 0 from by decide), (show (0 : Int) ≤ 2 from by decide)⟩))
  refine p_isw (fun r => p_if (fun _ => ?_) (fun _ => p_ret ⟨rfl, (show (-1 : Int) ≤ 1 from by decide), (show (1 : Int) ≤ 2 from by decide)⟩))
  exact p_isw (fun r => p_if (fun _ => p_ret ⟨rfl, (show (-1 : Int) ≤ -1 from by decide), (show (-1 : Int) ≤ 2 from by decide)⟩) (fun _ => p_ret ⟨rfl, (show (-1 : Int) ≤ 2 from by decide), (show (2 : Int) ≤ 2 from by decide)⟩))
theorem pt_relOf {M : Mem} : pw (mX9_relOf 126 M) (fun q => q.2 = M ∧ -1 ≤ q.1 ∧ q.1 ≤ 3) := by
  have t : ∀ s : Int, -1 ≤ s → s ≤ 3 → pw (mX9_relOf_57 126 s M) (fun q => q.2 = M ∧ -1 ≤ q.1 ∧ q.1 ≤ 3) := by
    intro s s0 s1
    unfold mX9_relOf_57
    refine p_gF (ji := 8) rfl (fun _ _ => ?_)
    refine p_aG (fun _ _ => ?_)
    exact p_if (fun _ => p_ret ⟨rfl, (show (-1 : Int) ≤ -1 from by decide), (show (-1 : Int) ≤ 3 from by decide)⟩) (fun _ => p_ret ⟨rfl, s0, s1⟩)
  unfold mX9_relOf
  refine p_isw (fun r => p_if (fun _ => ?_) (fun _ => t 0 (by decide) (by decide)))
  refine p_isw (fun r => p_if (fun _ => ?_) (fun _ => t 1 (by decide) (by decide)))
  refine p_isw (fun r => p_if (fun _ => ?_) (fun _ => t 2 (by decide) (by decide)))
  exact p_isw (fun r => p_if (fun _ => t (-1) (by decide) (by decide)) (fun _ => t 3 (by decide) (by decide)))
theorem pt_actOf {M : Mem} : pw (mX9_actOf 126 M) (fun q => q.2 = M ∧ -1 ≤ q.1 ∧ q.1 ≤ 10) := by
  have t : ∀ s : Int, -1 ≤ s → s ≤ 10 → pw (some (s, M)) (fun q : Int × Mem => q.2 = M ∧ -1 ≤ q.1 ∧ q.1 ≤ 10) := fun s s0 s1 => p_ret ⟨rfl, s0, s1⟩
  unfold mX9_actOf
  refine p_isw (fun r => p_if (fun _ => ?_) (fun _ => t 0 (by decide) (by decide)))
  refine p_isw (fun r => p_if (fun _ => ?_) (fun _ => t 1 (by decide) (by decide)))
  refine p_isw (fun r => p_if (fun _ => ?_) (fun _ => t 2 (by decide) (by decide)))
  refine p_isw (fun r => p_if (fun _ => ?_) (fun _ => t 3 (by decide) (by decide)))
  refine p_isw (fun r => p_if (fun _ => ?_) (fun _ => t 4 (by decide) (by decide)))
  refine p_isw (fun r => p_if (fun _ => ?_) (fun _ => t 5 (by decide) (by decide)))
  refine p_isw (fun r => p_if (fun _ => ?_) (fun _ => t 6 (by decide) (by decide)))
  refine p_isw (fun r => p_if (fun _ => ?_) (fun _ => t 7 (by decide) (by decide)))
  refine p_isw (fun r => p_if (fun _ => ?_) (fun _ => t 8 (by decide) (by decide)))
  refine p_isw (fun r => p_if (fun _ => ?_) (fun _ => t 9 (by decide) (by decide)))
  exact p_isw (fun r => p_if (fun _ => t (-1) (by decide) (by decide)) (fun _ => t 10 (by decide) (by decide)))
theorem pt_bound {M : Mem} {a b : Int} : pw (mX9_bound a b M) (fun q => q.2 = M) := by
  unfold mX9_bound
  refine p_some (fun _ _ => ?_)
  exact p_if (fun _ => p_ret rfl) (fun _ => p_ret rfl)
theorem pt_readVar {M : Mem} {l1 l2 : Int} : pw (mX9_readVar 126 l1 l2 M) (fun q => TK M q.2 ∧ -1 ≤ q.1 ∧ q.1 ≤ 3) := by
  have t : ∀ (s : Int) (M' : Mem), -1 ≤ s → s ≤ 3 → TK M M' → pw (mX9_readVar_59 126 s M') (fun q => TK M q.2 ∧ -1 ≤ q.1 ∧ q.1 ≤ 3) := by
    intro s M' s0 s1 h
    unfold mX9_readVar_59
    refine p_gK ?_
    refine p_call pt_token ?_
    intro r m h2
    exact p_ret ⟨h.tr h2, s0, s1⟩
  unfold mX9_readVar
  refine p_gK ?_
  refine p_call pt_varOf ?_
  rintro v m ⟨e, r0, r1⟩
  have e : m = M := e
  have r0 : -1 ≤ v := r0
  have r1 : v ≤ 3 := r1
  subst e
  dsimp only
  refine p_if (fun _ => ?_) (fun _ => ?_)
  · refine p_gK ?_
    unfold mX9_wrong
    refine p_call (P := fun q => TK m q.2 ∧ q.1 = -1) ?_ ?_
    · refine p_gF (ji := 31) rfl (fun _ _ => ?_)
      refine p_pF (ji := 35) rfl (fun M1 h1 => ?_)
      exact p_ret ⟨TK.rf.st (by omega) h1, rfl⟩
    · rintro v2 m2 ⟨h2, e2⟩
      have e2 : v2 = -1 := e2
      exact p_ret ⟨h2, by show -1 ≤ v2; omega, by show v2 ≤ 3; omega⟩
  · refine p_call pt_bound ?_
    rintro v2 m2 e2
    have e2 : m2 = m := e2
    subst e2
    dsimp only
    refine p_if (fun _ => ?_) (fun _ => ?_)
    · refine p_gF (ji := 31) rfl (fun _ _ => ?_)
      refine p_gK ?_
      refine p_call (pt_later (by decide)) ?_
      rintro v3 m3 ⟨h3, -⟩
      exact t _ _ r0 r1 h3
    · refine p_if (fun _ => t _ _ r0 r1 TK.rf) (fun _ => ?_)
      refine p_call pt_bound ?_
      rintro v4 m4 e4
      have e4 : m4 = m2 := e4
      subst e4
      dsimp only
      refine p_if (fun _ => t _ _ r0 r1 TK.rf) (fun _ => ?_)
      refine p_gF (ji := 31) rfl (fun _ _ => ?_)
      refine p_gK ?_
      refine p_call (pt_later (by decide)) ?_
      rintro v3 m3 ⟨h3, -⟩
      exact t _ _ r0 r1 h3
/-- beside these, the rows of the part p but its act -/
def PK (p : Int) (M M' : Mem) : Prop := (∀ b j : Int, ¬ (b = 126 ∧ 29 ≤ j ∧ j ≤ 37) → ¬ (157 ≤ b ∧ b ≤ 159 ∧ j = p) → mG M' b j = mG M b j) ∧ (¬ mG M 126 36 = 0 → ¬ mG M' 126 36 = 0)
theorem PK.rf {p : Int} {M : Mem} : PK p M M := ⟨fun _ _ _ _ => rfl, fun h => h⟩
theorem PK.tk {p : Int} {M M1 M2 : Mem} (h1 : PK p M M1) (h2 : TK M1 M2) : PK p M M2 := ⟨fun b j h k => (h2.1 b j h).trans (h1.1 b j h k), fun h => h2.2 (h1.2 h)⟩
theorem PK.st {p b x : Int} {M M1 M2 : Mem} (h1 : PK p M M1) (hb : 157 ≤ b ∧ b ≤ 159) (hM : M2 = mS M1 b p x) : PK p M M2 :=
  ⟨fun c j h k => (st_ne hM (fun z => k ⟨by omega, by omega, z.2⟩)).trans (h1.1 c j h k), fun h => by rw [st_ne hM (fun z => by omega)]; exact h1.2 h⟩
theorem PK.st2 {p i x : Int} {M M1 M2 : Mem} (h1 : PK p M M1) (hi : 29 ≤ i ∧ i ≤ 37 ∧ ¬ i = 36) (hM : M2 = mS M1 126 i x) : PK p M M2 :=
  ⟨fun c j h k => (st_ne hM (fun z => h ⟨z.1, by omega, by omega⟩)).trans (h1.1 c j h k), fun h => by rw [st_ne hM (fun z => hi.2.2 z.2.symm)]; exact h1.2 h⟩
theorem PK.ad {p : Int} {M M' : Mem} (h : PK p M M') (ha : AD M) : AD M' := ha.of (fun j hj => h.1 126 j (fun z => (adc_in hj).1 (by omega)) (fun z => by omega))
theorem pt_readSame {M : Mem} {p l2 : Int} (ha : AD M) : pw (mX9_readSame 126 p l2 M) (fun q => PK p M q.2) := by
  unfold mX9_readSame
  refine p_gFc (ji := 42) (r := 157) rfl (ha 42 (by decide)) ?_
  refine p_gK ?_
  refine p_call pt_readVar ?_
  rintro v m ⟨h, -, -⟩
  have h : TK M m := h
  refine p_aS (fun M1 h1 => ?_)
  have k1 : PK p M M1 := (PK.rf.tk h).st (by decide) h1
  have a1 := k1.ad ha
  refine p_gFc (ji := 42) (r := 157) rfl (a1 42 (by decide)) ?_
  refine p_aG (fun v2 _ => ?_)
  refine p_if (fun _ => p_ret k1) (fun _ => ?_)
  refine p_gFc (ji := 43) (r := 158) rfl (a1 43 (by decide)) ?_
  refine p_gFc (ji := 42) (r := 157) rfl (a1 42 (by decide)) ?_
  refine p_aG (fun v3 _ => ?_)
  refine p_call pt_bound ?_
  rintro v4 m4 e4
  have e4 : m4 = M1 := e4
  subst e4
  refine p_gK ?_
  refine p_call pt_readVar ?_
  rintro v5 m5 ⟨h5, -, -⟩
  have h5 : TK m4 m5 := h5
  refine p_aS (fun M6 h6 => ?_)
  have k6 : PK p M M6 := (k1.tk h5).st (by decide) h6
  refine p_gFc (ji := 43) (r := 158) rfl ((k6.ad ha) 43 (by decide)) ?_
  refine p_aG (fun _ _ => ?_)
  exact p_if (fun _ => p_ret k6) (fun _ => p_ret k6)
/-- .. and its act, too -/
def RK (p : Int) (M M' : Mem) : Prop := (∀ b j : Int, ¬ (b = 126 ∧ 29 ≤ j ∧ j ≤ 37) → ¬ (156 ≤ b ∧ b ≤ 159 ∧ j = p) → mG M' b j = mG M b j) ∧ (¬ mG M 126 36 = 0 → ¬ mG M' 126 36 = 0)
theorem RK.rf {p : Int} {M : Mem} : RK p M M := ⟨fun _ _ _ _ => rfl, fun h => h⟩
theorem RK.tk {p : Int} {M M1 M2 : Mem} (h1 : RK p M M1) (h2 : TK M1 M2) : RK p M M2 := ⟨fun b j h k => (h2.1 b j h).trans (h1.1 b j h k), fun h => h2.2 (h1.2 h)⟩
theorem RK.pk {p : Int} {M M1 M2 : Mem} (h1 : RK p M M1) (h2 : PK p M1 M2) : RK p M M2 := ⟨fun b j h k => (h2.1 b j h (fun z => k ⟨by omega, by omega, z.2.2⟩)).trans (h1.1 b j h k), fun h => h2.2 (h1.2 h)⟩
theorem RK.tr {p : Int} {M M1 M2 : Mem} (h1 : RK p M M1) (h2 : RK p M1 M2) : RK p M M2 := ⟨fun b j h k => (h2.1 b j h k).trans (h1.1 b j h k), fun h => h2.2 (h1.2 h)⟩
theorem RK.st {p b x : Int} {M M1 M2 : Mem} (h1 : RK p M M1) (hb : 156 ≤ b ∧ b ≤ 159) (hM : M2 = mS M1 b p x) : RK p M M2 :=
  ⟨fun c j h k => (st_ne hM (fun z => k ⟨by omega, by omega, z.2⟩)).trans (h1.1 c j h k), fun h => by rw [st_ne hM (fun z => by omega)]; exact h1.2 h⟩
theorem RK.st2 {p i x : Int} {M M1 M2 : Mem} (h1 : RK p M M1) (hi : 29 ≤ i ∧ i ≤ 37 ∧ ¬ i = 36) (hM : M2 = mS M1 126 i x) : RK p M M2 :=
  ⟨fun c j h k => (st_ne hM (fun z => h ⟨z.1, by omega, by omega⟩)).trans (h1.1 c j h k), fun h => by rw [st_ne hM (fun z => hi.2.2 z.2.symm)]; exact h1.2 h⟩
theorem RK.ad {p : Int} {M M' : Mem} (h : RK p M M') (ha : AD M) : AD M' := ha.of (fun j hj => h.1 126 j (fun z => (adc_in hj).1 (by omega)) (fun z => by omega))
/-- after readRelation -/
def RR9 (p : Int) (M : Mem) (q : Int × Mem) : Prop := RK p M q.2 ∧ (q.1 = 1 → 9 ≤ mG q.2 156 p ∧ mG q.2 156 p ≤ 12 ∧ 0 ≤ mG q.2 157 p ∧ mG q.2 157 p ≤ 3)
theorem pt_readRelation {M : Mem} {p l2 : Int} (ha : AD M) : pw (mX9_readRelation 126 p l2 M) (RR9 p M) := by
  have t236 : ∀ (s4 : Int) (M1 : Mem), RK p M M1 → (9 ≤ mG M1 156 p ∧ mG M1 156 p ≤ 12 ∧ 0 ≤ mG M1 157 p ∧ mG M1 157 p ≤ 3) → pw (mX9_readRelation_236 126 p 159 p 126 l2 s4 M1) (RR9 p M) := by
    intro s4 M1 k g
    unfold mX9_readRelation_236
    refine p_gK ?_
    refine p_call pt_readVar ?_
    rintro v m ⟨h, -, -⟩
    have h : TK M1 m := h
    refine p_aS (fun M2 h2 => ?_)
    have k2 : RK p M M2 := (k.tk h).st (by decide) h2
    have g2 : 9 ≤ mG M2 156 p ∧ mG M2 156 p ≤ 12 ∧ 0 ≤ mG M2 157 p ∧ mG M2 157 p ≤ 3 := by
      rw [st_ne h2 (fun z => by omega), st_ne h2 (fun z => by omega), h.1 _ _ (fun z => by omega), h.1 _ _ (fun z => by omega)]; exact g
    refine p_gF (ji := 44) rfl (fun _ _ => ?_)
    refine p_aG (fun _ _ => ?_)
    exact p_if (fun _ => p_ret ⟨k2, fun _ => g2⟩) (fun _ => p_ret ⟨k2, fun _ => g2⟩)
  have t173 : ∀ (l3 l5 s4 : Int) (M1 : Mem), RK p M M1 → (9 ≤ mG M1 156 p ∧ mG M1 156 p ≤ 12 ∧ 0 ≤ mG M1 157 p ∧ mG M1 157 p ≤ 3) → pw (mX9_readRelation_173 126 p l2 l3 l5 158 p 126 l2 s4 M1) (RR9 p M) := by
    intro l3 l5 s4 M1 k g
    unfold mX9_readRelation_173
    refine p_gK ?_
    refine p_call pt_readVar ?_
    rintro v m ⟨h, -, -⟩
    have h : TK M1 m := h
    refine p_aS (fun M2 h2 => ?_)
    have k2 : RK p M M2 := (k.tk h).st (by decide) h2
    have g2 : 9 ≤ mG M2 156 p ∧ mG M2 156 p ≤ 12 ∧ 0 ≤ mG M2 157 p ∧ mG M2 157 p ≤ 3 := by
      rw [st_ne h2 (fun z => by omega), st_ne h2 (fun z => by omega), h.1 _ _ (fun z => by omega), h.1 _ _ (fun z => by omega)]; exact g
    have a2 := k2.ad ha
    have t198 : pw (mX9_readRelation_198 126 p M2) (RR9 p M) := by
      unfold mX9_readRelation_198
      refine p_gF (ji := 43) rfl (fun _ _ => ?_)
      refine p_aG (fun _ _ => ?_)
      exact p_if (fun _ => p_ret ⟨k2, fun _ => g2⟩) (fun _ => p_ret ⟨k2, fun _ => g2⟩)
    refine p_gF (ji := 43) rfl (fun _ _ => ?_)
    refine p_aG (fun _ _ => ?_)
    refine p_if (fun _ => t198) (fun _ => ?_)
    refine p_gF (ji := 41) rfl (fun _ _ => ?_)
    refine p_aG (fun _ _ => ?_)
    refine p_if (fun _ => t198) (fun _ => ?_)
    refine p_gFc (ji := 44) (r := 159) rfl (a2 44 (by decide)) ?_
    refine p_if (fun _ => t236 _ _ k2 g2) (fun _ => ?_)
    refine p_gF (ji := 10) rfl (fun _ _ => ?_)
    refine p_aG (fun _ _ => ?_)
    exact t236 _ _ k2 g2
  have t126 : ∀ (l3 l5 s2 : Int) (M1 : Mem), 0 ≤ l3 → l3 ≤ 3 → 9 ≤ s2 → s2 ≤ 12 → RK p M M1 → pw (mX9_readRelation_126 126 p l2 l3 l5 156 p s2 M1) (RR9 p M) := by
    intro l3 l5 s2 M1 b0 b1 b2 b3 k
    unfold mX9_readRelation_126
    refine p_aS (fun M2 h2 => ?_)
    have k2 : RK p M M2 := k.st (by decide) h2
    refine p_gFc (ji := 42) (r := 157) rfl ((k2.ad ha) 42 (by decide)) ?_
    refine p_aS (fun M3 h3 => ?_)
    have k3 : RK p M M3 := k2.st (by decide) h3
    refine p_gK ?_
    refine p_call pt_token ?_
    intro v m h
    have h : TK M3 m := h
    have k4 : RK p M m := k3.tk h
    have g : 9 ≤ mG m 156 p ∧ mG m 156 p ≤ 12 ∧ 0 ≤ mG m 157 p ∧ mG m 157 p ≤ 3 := by
      rw [h.1 _ _ (fun z => by omega), h.1 _ _ (fun z => by omega), st_eq h3, st_ne h3 (fun z => absurd z.1 (by decide)), st_eq h2]
      exact ⟨b2, b3, b0, b1⟩
    have a4 := k4.ad ha
    refine p_gF (ji := 41) rfl (fun _ _ => ?_)
    refine p_aG (fun _ _ => ?_)
    refine p_if (fun _ => p_ret ⟨k4, fun _ => g⟩) (fun _ => ?_)
    refine p_gFc (ji := 43) (r := 158) rfl (a4 43 (by decide)) ?_
    refine p_if (fun _ => t173 _ _ _ _ k4 g) (fun _ => ?_)
    refine p_gF (ji := 9) rfl (fun _ _ => ?_)
    refine p_aG (fun _ _ => ?_)
    exact t173 _ _ _ _ k4 g
  have t90 : ∀ (l3 l4 l5 : Int) (M1 : Mem), 0 ≤ l3 → l3 ≤ 3 → (l4 = 0 ∨ mG M1 156 p = 9 ∨ mG M1 156 p = 10) → RK p M M1 → pw (mX9_readRelation_90 126 p l2 l3 l4 l5 M1) (RR9 p M) := by
    intro l3 l4 l5 M1 b0 b1 b2 k
    have a1 := k.ad ha
    unfold mX9_readRelation_90
    refine p_gFc (ji := 41) (r := 156) rfl (a1 41 (by decide)) ?_
    refine p_if (fun c => ?_) (fun c => ?_)
    · refine p_gF (ji := 10) rfl (fun _ _ => ?_)
      refine p_aG (fun _ _ => ?_)
      exact p_if (fun _ => t126 _ _ _ _ b0 b1 (by decide) (by decide) k) (fun _ => t126 _ _ _ _ b0 b1 (by decide) (by decide) k)
    · refine p_gFc (ji := 41) (r := 156) rfl (a1 41 (by decide)) ?_
      refine p_aG (fun v hv => ?_)
      have hv : mG M1 156 p = v := hv
      exact t126 _ _ _ _ b0 b1 (by omega) (by omega) k
  have t74 : ∀ (l3 l4 s0 : Int), 0 ≤ l3 → l3 ≤ 3 → (l4 = 0 ∨ mG M 156 p = 9 ∨ mG M 156 p = 10) → pw (mX9_readRelation_74 126 p l2 l3 l4 s0 M) (RR9 p M) := by
    intro l3 l4 s0 b0 b1 b2
    unfold mX9_readRelation_74
    refine p_if (fun c => ?_) (fun c => t90 _ _ _ _ b0 b1 b2 RK.rf)
    refine p_gF (ji := 31) rfl (fun _ _ => ?_)
    refine p_gK ?_
    refine p_call (pt_later (by decide)) ?_
    rintro v m ⟨h, -⟩
    have h : TK M m := h
    exact t90 _ _ _ _ b0 b1 (by rw [h.1 156 p (fun z => by omega)]; exact b2) (RK.rf.tk h)
  have t47 : ∀ (l3 s0 : Int), 0 ≤ l3 → l3 ≤ 3 → (s0 = 0 ∨ mG M 156 p = 9 ∨ mG M 156 p = 10) → pw (mX9_readRelation_47 126 p l2 l3 s0 M) (RR9 p M) := by
    intro l3 s0 b0 b1 b2
    unfold mX9_readRelation_47
    refine p_if (fun c => ?_) (fun c => ?_)
    · unfold mX9_readRelation_69; exact t74 _ _ _ b0 b1 b2
    · refine p_gF (ji := 10) rfl (fun _ _ => ?_)
      refine p_aG (fun _ _ => ?_)
      refine p_gF (ji := 9) rfl (fun _ _ => ?_)
      refine p_aG (fun _ _ => ?_)
      refine p_if (fun _ => ?_) (fun _ => t74 _ _ _ b0 b1 b2)
      unfold mX9_readRelation_69; exact t74 _ _ _ b0 b1 b2
  unfold mX9_readRelation
  refine p_gK ?_
  refine p_call pt_relOf ?_
  rintro v m ⟨e, r0, r1⟩
  have e : m = M := e
  have r0 : -1 ≤ v := r0
  have r1 : v ≤ 3 := r1
  subst e
  dsimp only
  refine p_if (fun c => ?_) (fun c => ?_)
  · refine p_gF (ji := 31) rfl (fun _ _ => ?_)
    refine p_pF (ji := 35) rfl (fun M1 h1 => ?_)
    exact p_ret ⟨RK.rf.st2 (by omega) h1, fun z => absurd z (show ¬ (0 : Int) = 1 from by decide)⟩
  · refine p_gFc (ji := 41) (r := 156) rfl (ha 41 (by decide)) ?_
    refine p_aG (fun v2 hv2 => ?_)
    have hv2 : mG m 156 p = v2 := hv2
    refine p_if (fun c2 => ?_) (fun c2 => ?_)
    · unfold mX9_readRelation_42; exact t47 _ _ (by omega) r1 (by omega)
    · refine p_gFc (ji := 41) (r := 156) rfl (ha 41 (by decide)) ?_
      refine p_aG (fun v3 hv3 => ?_)
      have hv3 : mG m 156 p = v3 := hv3
      refine p_if (fun c3 => ?_) (fun c3 => ?_)
      · unfold mX9_readRelation_42; exact t47 _ _ (by omega) r1 (by omega)
      · exact t47 _ _ (by omega) r1 (Or.inl rfl)
