/-! ===== the class's reader: what a text that it takes is like ===== -/
def BFI (M : Mem) : Prop := ¬ mG M 65 4 = 0 → ¬ mG M 3 6 = 0
def AC (M : Mem) : Prop := mG M 65 0 = 3 ∧ mG M 65 1 = 13 ∧ mG M 65 3 = 4 ∧ mG M 65 5 = 66 ∧ mG M 65 6 = 72 ∧ mG M 66 0 = 67 ∧ mG M 66 1 = 68 ∧ mG M 66 2 = 69 ∧ mG M 66 3 = 70
theorem RR.ac {n : Nat} {M : Mem} (h : RR M) (iM : I n M) : AC M :=
  ⟨h.1, h.2.1, h.2.2, rd_Reader_5 iM (a := 65) rfl, rd_Reader_6 iM (a := 65) rfl, rd_Draft_0 iM (a := 66) rfl, rd_Draft_1 iM (a := 66) rfl, rd_Draft_2 iM (a := 66) rfl, rd_Draft_3 iM (a := 66) rfl⟩
/-- beside tokens, what waits and the fault all is as it was -/
def T2 (M M' : Mem) : Prop := (∀ b j : Int, ¬ (b = 3 ∧ (j = 6 ∨ j = 7)) → ¬ (b = 65 ∧ 4 ≤ j ∧ ¬ j = 5 ∧ ¬ j = 6) → ¬ b = 72 → mG M' b j = mG M b j) ∧ (¬ mG M 3 6 = 0 → ¬ mG M' 3 6 = 0) ∧ (BFI M → BFI M')
theorem T2.rf {M : Mem} : T2 M M := ⟨fun _ _ _ _ _ => rfl, fun h => h, fun h => h⟩
theorem T2.tr {M M1 M2 : Mem} (h1 : T2 M M1) (h2 : T2 M1 M2) : T2 M M2 := ⟨fun b j x y z => (h2.1 b j x y z).trans (h1.1 b j x y z), fun h => h2.2.1 (h1.2.1 h), fun h => h2.2.2 (h1.2.2 h)⟩
theorem T2.st {M M1 M2 : Mem} {i x : Int} (h1 : T2 M M1) (hi : 7 ≤ i) (hM : M2 = mS M1 65 i x) : T2 M M2 :=
  ⟨fun b j p q r => (st_ne hM (fun z => q ⟨z.1, by omega, by omega, by omega⟩)).trans (h1.1 b j p q r), fun h => by rw [st_ne hM (fun z => absurd z.1 (by decide))]; exact h1.2.1 h, fun h => by
    unfold BFI
    rw [st_ne hM (fun z => by omega), st_ne hM (fun z => by omega)]; exact h1.2.2 h⟩
theorem T2.ac {M M' : Mem} (h : T2 M M') (ha : AC M) : AC M' := by
  obtain ⟨a0, a1, a2, a3, a4, a5, a6, a7, a8⟩ := ha
  have g : ∀ b j : Int, ¬ (b = 3 ∧ (j = 6 ∨ j = 7)) → ¬ (b = 65 ∧ 4 ≤ j ∧ ¬ j = 5 ∧ ¬ j = 6) → ¬ b = 72 → mG M' b j = mG M b j := h.1
  exact ⟨by rw [g _ _ (by omega) (by omega) (by decide)]; exact a0, by rw [g _ _ (by omega) (by omega) (by decide)]; exact a1, by rw [g _ _ (by omega) (by omega) (by decide)]; exact a2, by rw [g _ _ (by omega) (by omega) (by decide)]; exact a3, by rw [g _ _ (by omega) (by omega) (by decide)]; exact a4, by rw [g _ _ (by omega) (by omega) (by decide)]; exact a5, by rw [g _ _ (by omega) (by omega) (by decide)]; exact a6, by rw [g _ _ (by omega) (by omega) (by decide)]; exact a7, by rw [g _ _ (by omega) (by omega) (by decide)]; exact a8⟩
theorem pu_isLetter {M : Mem} {l1 : Int} : pw (mX2_isLetter 65 l1 M) (fun q => q.2 = M) := by
  unfold mX2_isLetter
  refine p_gF (ji := 2) rfl (fun _ _ => p_if (fun _ => p_ret rfl) (fun _ => ?_))
  refine p_gF (ji := 1) rfl (fun _ _ => p_aG (fun _ _ => p_if (fun _ => p_ret rfl) (fun _ => ?_)))
  exact p_gF (ji := 1) rfl (fun _ _ => p_aG (fun _ _ => p_if (fun _ => p_ret rfl) (fun _ => p_ret rfl)))
theorem pu_isDigit {M : Mem} {l1 : Int} : pw (mX2_isDigit 65 l1 M) (fun q => q.2 = M) := by
  unfold mX2_isDigit
  refine p_gF (ji := 2) rfl (fun _ _ => p_if (fun _ => p_ret rfl) (fun _ => ?_))
  refine p_gF (ji := 1) rfl (fun _ _ => p_aG (fun _ _ => p_if (fun _ => p_ret rfl) (fun _ => ?_)))
  exact p_gF (ji := 1) rfl (fun _ _ => p_aG (fun _ _ => p_if (fun _ => p_ret rfl) (fun _ => p_ret rfl)))
theorem pu_oneLetter {M : Mem} : pw (mX2_oneLetter 65 M) (fun q => q.2 = M) := by
  unfold mX2_oneLetter
  refine p_gF (ji := 8) rfl (fun _ _ => p_if (fun _ => ?_) (fun _ => p_ret rfl))
  refine p_gF (ji := 10) rfl (fun _ _ => p_gF (ji := 9) rfl (fun _ _ => p_if (fun _ => ?_) (fun _ => p_ret rfl)))
  exact p_gF (ji := 1) rfl (fun _ _ => p_gF (ji := 9) rfl (fun _ _ => p_aG (fun _ _ => p_ret rfl)))
theorem p_sLn {β : Type} {Q : β → Prop} {w : Int} {f : Int → Option β} (k : ∀ v, pw (f v) Q) : pw ((sLn w).bind f) Q := by
  unfold sLn; split
  · exact k _
  · exact p_none
theorem p_sAt {β : Type} {Q : β → Prop} {w i : Int} {f : Int → Option β} (k : ∀ v, pw (f v) Q) : pw ((sAt w i).bind f) Q := by
  unfold sAt; split
  · exact k _
  · exact p_none
theorem p_aL {β : Type} {Q : β → Prop} {M : Mem} {t : Nat} {a : Int} {f : Int → Option β} (k : ∀ v, v = ((mK M a).2 : Int) → pw (f v) Q) : pw ((aL t M a).bind f) Q := by
  unfold aL; split
  · exact k _ rfl
  · exact p_none
theorem pu_isWord {M : Mem} {w : Int} : pw (mX2_isWord 65 w M) (fun q => q.2 = M) := by
  have key : ∀ (fu : Nat) (l2 : Int), pw (mX2_isWord_28 fu 65 w l2 M) (fun q => q.2 = M) := by
    intro fu
    induction fu with
    | zero => intro l2; exact p_none
    | succ fu ih =>
      intro l2
      show pw (bX2_isWord_28 (mX2_isWord_28 fu) 65 w l2 M) _
      unfold bX2_isWord_28
      refine p_sLn (fun _ => p_if (fun _ => p_ret rfl) (fun _ => ?_))
      exact p_gF (ji := 1) rfl (fun _ _ => p_gF (ji := 9) rfl (fun _ _ => p_aG (fun _ _ => p_sAt (fun _ => p_if (fun _ => ih _) (fun _ => p_ret rfl)))))
  unfold mX2_isWord
  refine p_gF (ji := 8) rfl (fun _ _ => p_if (fun _ => ?_) (fun _ => p_ret rfl))
  exact p_gF (ji := 10) rfl (fun _ _ => p_gF (ji := 9) rfl (fun _ _ => p_sLn (fun _ => p_if (fun _ => key _ _) (fun _ => p_ret rfl))))
/-- a call that leaves the memory as it is -/
theorem p_same {β : Type} {Q : β → Prop} {M : Mem} {x : Option (Int × Mem)} {f : Int × Mem → Option β} (h : pw x (fun q => q.2 = M)) (k : ∀ r, pw (f (r, M)) Q) : pw (x.bind f) Q :=
  p_call h (fun r m e => by have e : m = M := e; subst e; exact k r)
theorem pu_advance {M : Mem} : pw (mX2_advance 65 M) (fun q => T2 M q.2) := by
  have t151 : ∀ (fu : Nat) (M1 : Mem), T2 M M1 → pw (mX2_advance_151 fu 65 M1) (fun q => T2 M q.2) := by
    intro fu
    induction fu with
    | zero => intro M1 h; exact p_none
    | succ fu ih =>
      intro M1 h
      show pw (bX2_advance_151 (mX2_advance_151 fu) 65 M1) _
      unfold bX2_advance_151
      refine p_gF (ji := 10) rfl (fun _ _ => p_gF (ji := 9) rfl (fun _ _ => p_if (fun _ => p_ret h) (fun _ => ?_)))
      refine p_gF (ji := 10) rfl (fun _ _ => p_gK (p_same pu_isDigit (fun _ => p_if (fun _ => p_ret h) (fun _ => ?_))))
      refine p_gF (ji := 11) rfl (fun _ _ => p_gF (ji := 1) rfl (fun _ _ => p_gF (ji := 10) rfl (fun _ _ => p_aG (fun _ _ => ?_))))
      refine p_pF (ji := 11) rfl (fun M2 h2 => p_gF (ji := 10) rfl (fun _ _ => p_pF (ji := 10) rfl (fun M3 h3 => ?_)))
      exact ih _ ((h.st (by omega) h2).st (by omega) h3)
  have t100 : ∀ (fu : Nat) (M1 : Mem), T2 M M1 → pw (mX2_advance_100 fu 65 M1) (fun q => T2 M q.2) := by
    intro fu
    induction fu with
    | zero => intro M1 h; exact p_none
    | succ fu ih =>
      intro M1 h
      show pw (bX2_advance_100 (mX2_advance_100 fu) 65 M1) _
      unfold bX2_advance_100
      refine p_gF (ji := 10) rfl (fun _ _ => p_gF (ji := 2) rfl (fun _ _ => p_if (fun _ => p_ret h) (fun _ => ?_)))
      refine p_gF (ji := 10) rfl (fun _ _ => p_gK (p_same pu_isLetter (fun _ => p_if (fun _ => p_ret h) (fun _ => ?_))))
      refine p_gF (ji := 10) rfl (fun _ _ => p_pF (ji := 10) rfl (fun M3 h3 => ?_))
      exact ih _ (h.st (by omega) h3)
  have t52 : ∀ M1 : Mem, T2 M M1 → pw (mX2_advance_52 65 M1) (fun q => T2 M q.2) := by
    intro M1 h
    unfold mX2_advance_52
    refine p_gF (ji := 10) rfl (fun _ _ => p_pF (ji := 9) rfl (fun M2 h2 => p_pF (ji := 11) rfl (fun M3 h3 => ?_)))
    have k3 := (h.st (by omega) h2).st (by omega) h3
    refine p_gF (ji := 10) rfl (fun _ _ => p_gF (ji := 2) rfl (fun _ _ => p_if (fun _ => ?_) (fun _ => ?_)))
    · refine p_gF (ji := 10) rfl (fun _ _ => p_gK (p_same pu_isLetter (fun _ => p_if (fun _ => ?_) (fun _ => ?_))))
      · refine p_gF (ji := 10) rfl (fun _ _ => p_gK (p_same pu_isDigit (fun _ => p_if (fun _ => ?_) (fun _ => ?_))))
        · exact p_pF (ji := 8) rfl (fun M4 h4 => p_ret (k3.st (by omega) h4))
        · exact p_pF (ji := 8) rfl (fun M4 h4 => t151 _ _ (k3.st (by omega) h4))
      · exact p_pF (ji := 8) rfl (fun M4 h4 => t100 _ _ (k3.st (by omega) h4))
    · exact p_pF (ji := 8) rfl (fun M4 h4 => p_ret (k3.st (by omega) h4))
  have t0 : ∀ (fu : Nat) (M1 : Mem), T2 M M1 → pw (mX2_advance_0 fu 65 M1) (fun q => T2 M q.2) := by
    intro fu
    induction fu with
    | zero => intro M1 h; exact p_none
    | succ fu ih =>
      intro M1 h
      show pw (bX2_advance_0 (mX2_advance_0 fu) 65 M1) _
      unfold bX2_advance_0
      have t39 : pw (mX2_advance_39 (mX2_advance_0 fu) 65 M1) (fun q => T2 M q.2) := by
        unfold mX2_advance_39
        exact p_gF (ji := 10) rfl (fun _ _ => p_pF (ji := 10) rfl (fun M3 h3 => ih _ (h.st (by omega) h3)))
      refine p_gF (ji := 10) rfl (fun _ _ => p_gF (ji := 2) rfl (fun _ _ => p_if (fun _ => t52 _ h) (fun _ => ?_)))
      refine p_gF (ji := 1) rfl (fun _ _ => p_gF (ji := 10) rfl (fun _ _ => p_aG (fun _ _ => p_if (fun _ => t39) (fun _ => ?_))))
      exact p_gF (ji := 1) rfl (fun _ _ => p_gF (ji := 10) rfl (fun _ _ => p_aG (fun _ _ => p_if (fun _ => t39) (fun _ => t52 _ h))))
  unfold mX2_advance
  exact t0 _ _ T2.rf
theorem pu_note {M : Mem} {l1 l2 : Int} (ha : AC M) (hl : ¬ l1 = 0) : pw (mX2_note 65 l1 l2 M) (fun q => T2 M q.2 ∧ ¬ mG q.2 3 6 = 0) := by
  unfold mX2_note
  refine p_gFc (ji := 0) rfl ha.1 (p_gF (ji := 6) rfl (fun v hv => p_if (fun c => ?_) (fun c => p_ret ⟨T2.rf, by show ¬ mG M 3 6 = 0; rw [hv]; exact c⟩)))
  refine p_gFc (ji := 0) rfl ha.1 (p_pF (ji := 6) rfl (fun M1 h1 => ?_))
  refine p_gFc (ji := 0) (r := 3) rfl ((st_ne h1 (fun z => absurd z.1 (by decide))).trans ha.1) (p_pF (ji := 7) rfl (fun M2 h2 => ?_))
  have e6 : mG M2 3 6 = l1 := by rw [st_ne h2 (fun z => absurd z.2 (by decide)), st_eq h1]
  refine p_ret ⟨⟨fun b j p q r => ?_, fun _ => by rw [e6]; exact hl, fun _ _ => by rw [e6]; exact hl⟩, by rw [e6]; exact hl⟩
  rw [st_ne h2 (fun z => p ⟨z.1, Or.inr z.2⟩), st_ne h1 (fun z => p ⟨z.1, Or.inl z.2⟩)]
theorem pu_refuse {M : Mem} (ha : AC M) : pw (mX2_refuse 65 M) (fun q => T2 M q.2 ∧ (BFI M → ¬ mG q.2 3 6 = 0) ∧ ¬ mG q.2 65 4 = 0) := by
  unfold mX2_refuse
  refine p_gF (ji := 4) rfl (fun v hv => p_if (fun c => ?_) (fun c => p_ret ⟨T2.rf, fun h => h (by rw [hv]; exact c), by show ¬ mG M 65 4 = 0; rw [hv]; exact c⟩))
  refine p_pZ (ji := 4) rfl (fun M0 h0 => ?_)
  refine p_gFc (ji := 0) (r := 3) rfl ((st_ne h0 (fun z => absurd z.2 (by decide))).trans ha.1) (p_pF (ji := 6) rfl (fun M1 h1 => ?_))
  refine p_gFc (ji := 0) (r := 3) rfl ((st_ne h1 (fun z => absurd z.1 (by decide))).trans ((st_ne h0 (fun z => absurd z.2 (by decide))).trans ha.1)) (p_gF (ji := 9) rfl (fun _ _ => p_pF (ji := 7) rfl (fun M2 h2 => ?_)))
  have e6 : mG M2 3 6 = 1 := by rw [st_ne h2 (fun z => absurd z.2 (by decide)), st_eq h1]
  have e4 : mG M2 65 4 = 1 := by rw [st_ne h2 (fun z => absurd z.1 (by decide)), st_ne h1 (fun z => absurd z.1 (by decide)), st_eq h0]
  have n6 : ¬ mG M2 3 6 = 0 := by rw [e6]; decide
  refine p_ret ⟨⟨fun b j p q r => ?_, fun _ => n6, fun _ _ => n6⟩, fun _ => n6, by rw [e4]; decide⟩
  rw [st_ne h2 (fun z => p ⟨z.1, Or.inr z.2⟩), st_ne h1 (fun z => p ⟨z.1, Or.inl z.2⟩), st_ne h0 (fun z => q ⟨z.1, by omega, by omega, by omega⟩)]
theorem pu_hasRelation {M : Mem} {a l1 : Int} : pw (mX3_hasRelation a l1 M) (fun q => q.2 = M ∧ ((q.1 = 0 ∧ ¬ (0 ≤ l1 ∧ l1 < mG M a 6)) ∨ (q.1 = 1 ∧ 0 ≤ l1 ∧ l1 < mG M a 6))) := by
  unfold mX3_hasRelation
  refine p_if (fun c => p_ret ⟨rfl, Or.inl ⟨rfl, by omega⟩⟩) (fun c => ?_)
  refine p_gF (ji := 6) rfl (fun v hv => p_if (fun c2 => p_ret ⟨rfl, Or.inl ⟨rfl, by omega⟩⟩) (fun c2 => p_ret ⟨rfl, Or.inr ⟨rfl, by omega, by omega⟩⟩))
theorem pu_isOfTwo {M : Mem} {a l1 : Int} : pw (mX3_isOfTwo a l1 M) (fun q => q.2 = M) := by
  unfold mX3_isOfTwo
  refine p_if (fun c => p_ret rfl) (fun c => ?_)
  refine p_gF (ji := 6) rfl (fun v hv => p_if (fun c2 => p_ret rfl) (fun c2 => ?_))
  exact p_gF (ji := 2) rfl (fun _ _ => p_aG (fun _ _ => p_if (fun c2 => p_ret rfl) (fun c2 => p_ret rfl)))
theorem pu_twice {M : Mem} {a l1 : Int} : pw (mX3_isOfOneKindTwice a l1 M) (fun q => q.2 = M) := by
  unfold mX3_isOfOneKindTwice
  refine p_if (fun c => p_ret rfl) (fun c => ?_)
  refine p_gF (ji := 6) rfl (fun v hv => p_if (fun c2 => p_ret rfl) (fun c2 => ?_))
  exact p_gF (ji := 1) rfl (fun _ _ => p_aG (fun _ _ => p_gF (ji := 2) rfl (fun _ _ => p_aG (fun _ _ => p_if (fun c2 => p_ret rfl) (fun c2 => p_ret rfl)))))
theorem pu_depth {M : Mem} {a : Int} : pw (mX2_depth a M) (fun q => q.2 = M) := by unfold mX2_depth; exact p_ret rfl
theorem pu_kindOf {M : Mem} {a : Int} : pw (mX2_kindOf a M) (fun q => q.2 = M) := by unfold mX2_kindOf; exact p_if (fun _ => p_ret rfl) (fun _ => p_ret rfl)
theorem pu_slotOf {M : Mem} {a : Int} : pw (mX2_slotOf a M) (fun q => q.2 = M) := by unfold mX2_slotOf; exact p_if (fun _ => p_ret rfl) (fun _ => p_ret rfl)
theorem pu_bind {M : Mem} {a b c d : Int} : pw (mX2_bind a b c d M) (fun q => q.2 = M) := by
  unfold mX2_bind
  exact p_same pu_depth (fun _ => p_some (fun _ _ => p_some (fun _ _ => p_ret rfl)))
theorem pu_takeNumber {M : Mem} (ha : AC M) : pw (mX2_takeNumber 65 M) (fun q => T2 M q.2) := by
  have t : ∀ M1 : Mem, T2 M M1 → pw (mX2_takeNumber_12 65 M1) (fun q => T2 M q.2) := by
    intro M1 h
    unfold mX2_takeNumber_12
    refine p_gF (ji := 4) rfl (fun _ _ => p_if (fun _ => ?_) (fun _ => p_ret h))
    exact p_gF (ji := 11) rfl (fun _ _ => p_gK (p_call pu_advance (fun r m k => p_ret (h.tr k))))
  unfold mX2_takeNumber
  refine p_gF (ji := 8) rfl (fun _ _ => p_if (fun _ => t _ T2.rf) (fun _ => p_gK (p_call (pu_refuse ha) (fun r m k => t _ k.1))))
theorem pu_takeVariable {M : Mem} (ha : AC M) : pw (mX2_takeVariable 65 M) (fun q => T2 M q.2) := by
  have t : ∀ (l : Int) (M1 : Mem), T2 M M1 → pw (mX2_takeVariable_21 65 l M1) (fun q => T2 M q.2) := by
    intro l M1 h
    unfold mX2_takeVariable_21
    refine p_gF (ji := 4) rfl (fun _ _ => p_if (fun _ => ?_) (fun _ => p_ret h))
    exact p_gK (p_call pu_advance (fun r m k => p_ret (h.tr k)))
  have t17 : ∀ l : Int, pw (mX2_takeVariable_17 65 l M) (fun q => T2 M q.2) := by
    intro l
    unfold mX2_takeVariable_17
    exact p_gK (p_call (pu_refuse ha) (fun r m k => t _ _ k.1))
  unfold mX2_takeVariable
  exact p_gK (p_same pu_oneLetter (fun _ => p_if (fun _ => t17 _) (fun _ => p_if (fun _ => t _ _ T2.rf) (fun _ => t17 _))))
theorem pu_takeKind {M : Mem} (ha : AC M) : pw (mX2_takeKind 65 M) (fun q => T2 M q.2) := by
  have t : ∀ (l : Int) (M1 : Mem), T2 M M1 → pw (mX2_takeKind_48 65 l M1) (fun q => T2 M q.2) := by
    intro l M1 h
    unfold mX2_takeKind_48
    refine p_gF (ji := 4) rfl (fun _ _ => p_if (fun _ => ?_) (fun _ => p_ret h))
    exact p_gK (p_call pu_advance (fun r m k => p_ret (h.tr k)))
  unfold mX2_takeKind
  refine p_gK (p_same pu_isWord (fun _ => p_if (fun _ => ?_) (fun _ => t _ _ T2.rf)))
  refine p_gK (p_same pu_isWord (fun _ => p_if (fun _ => ?_) (fun _ => t _ _ T2.rf)))
  refine p_gK (p_same pu_isWord (fun _ => p_if (fun _ => ?_) (fun _ => t _ _ T2.rf)))
  exact p_gK (p_call (pu_refuse ha) (fun r m k => t _ _ k.1))
theorem pu_takeRelation {M : Mem} (ha : AC M) : pw (mX2_takeRelation 65 M) (fun q => T2 M q.2 ∧ (BFI M → mG q.2 3 6 = 0 → 0 ≤ q.1 ∧ q.1 < mG M 4 6)) := by
  unfold mX2_takeRelation
  refine p_gK (p_same pu_oneLetter (fun r => ?_))
  refine p_gFc (ji := 3) rfl ha.2.2.1 (p_gK (p_call pu_hasRelation ?_))
  rintro v m ⟨e, h⟩
  have e : m = M := e
  have h : (v = 0 ∧ ¬ (0 ≤ wI (r - 114) ∧ wI (r - 114) < mG M 4 6)) ∨ (v = 1 ∧ 0 ≤ wI (r - 114) ∧ wI (r - 114) < mG M 4 6) := h
  subst e
  dsimp only
  have t : ∀ (M1 : Mem), T2 m M1 → (¬ mG M1 65 4 = 0 ∨ (0 ≤ wI (r - 114) ∧ wI (r - 114) < mG m 4 6)) → pw (mX2_takeRelation_23 65 (wI (r - 114)) M1) (fun q => T2 m q.2 ∧ (BFI m → mG q.2 3 6 = 0 → 0 ≤ q.1 ∧ q.1 < mG m 4 6)) := by
    intro M1 k hh
    unfold mX2_takeRelation_23
    refine p_gF (ji := 4) rfl (fun w hw => p_if (fun c => ?_) (fun c => ?_))
    · refine p_gK (p_call pu_advance (fun r2 m2 k2 => p_ret ⟨k.tr k2, fun _ _ => ?_⟩))
      exact hh.resolve_left (fun z => z (hw.trans c))
    · exact p_ret ⟨k, fun b z => absurd z (k.2.2 b (by rw [hw]; exact c))⟩
  refine p_if (fun c => ?_) (fun c => t _ T2.rf (Or.inr (by omega)))
  exact p_gK (p_call (pu_refuse ha) (fun r2 m2 k => t _ k.1 (Or.inl k.2.2)))
theorem pu_takeRoad {M : Mem} (ha : AC M) : pw (mX2_takeRoad 65 M) (fun q => T2 M q.2) := by
  unfold mX2_takeRoad
  refine p_gF (ji := 9) rfl (fun _ _ => p_gK (p_call (pu_takeRelation ha) ?_))
  rintro v m ⟨k, -⟩
  have k : T2 M m := k
  refine p_gF (ji := 3) rfl (fun _ _ => p_gK (p_same pu_twice (fun _ => p_if (fun _ => ?_) (fun _ => ?_))))
  · refine p_gK (p_call (pu_note (k.ac ha) (by decide)) ?_)
    rintro v2 m2 ⟨k2, -⟩
    unfold mX2_takeRoad_27
    exact p_ret (k.tr k2)
  · unfold mX2_takeRoad_27; exact p_ret k
theorem pu_takeBound {M : Mem} {l1 l2 : Int} (ha : AC M) : pw (mX2_takeBound 65 l1 l2 M) (fun q => T2 M q.2) := by
  unfold mX2_takeBound
  refine p_gF (ji := 9) rfl (fun _ _ => p_gK (p_call (pu_takeVariable ha) ?_))
  intro v m k
  have k : T2 M m := k
  have t : ∀ (x y : Int), ¬ x = 0 → ∀ z : Int, pw ((mX2_note 65 x y m).bind fun q61 => mX2_takeBound_64 z q61.2) (fun q => T2 M q.2) := by
    intro x y hx z
    refine p_call (pu_note (k.ac ha) hx) ?_
    rintro v2 m2 ⟨k2, -⟩
    unfold mX2_takeBound_64
    exact p_ret (k.tr k2)
  refine p_if (fun _ => p_ret k) (fun _ => p_some (fun b _ => p_if (fun _ => p_gK (t 2 _ (by decide) _)) (fun _ => p_if (fun _ => ?_) (fun _ => ?_))))
  · unfold mX2_takeBound_64; exact p_ret k
  · refine p_same pu_kindOf (fun _ => p_if (fun _ => ?_) (fun _ => p_gK (t 3 _ (by decide) _)))
    unfold mX2_takeBound_64; exact p_ret k
theorem pu_expectPart {M : Mem} {x : Int} (ha : AC M) : pw (mX2_expectPart 65 x M) (fun q => T2 M q.2) := by
  unfold mX2_expectPart
  refine p_gF (ji := 7) rfl (fun _ _ => p_gF (ji := 6) rfl (fun _ _ => p_aL (fun _ _ => p_if (fun _ => p_ret T2.rf) (fun _ => ?_))))
  refine p_gFc (ji := 6) rfl ha.2.2.2.2.1 (p_gF (ji := 7) rfl (fun _ _ => p_aS (fun M1 h1 => ?_)))
  have k1 : T2 M M1 := ⟨fun b j p q r => st_ne h1 (fun z => r z.1), fun h => by rw [st_ne h1 (fun z => absurd z.1 (by decide))]; exact h, fun h => by
    unfold BFI; rw [st_ne h1 (fun z => absurd z.1 (by decide)), st_ne h1 (fun z => absurd z.1 (by decide))]; exact h⟩
  exact p_gF (ji := 7) rfl (fun _ _ => p_pF (ji := 7) rfl (fun M2 h2 => p_ret (k1.st (by decide) h2)))
/-- .. beside the draft, too -/
def P2 (M M' : Mem) : Prop := (∀ b j : Int, ¬ (b = 3 ∧ (j = 6 ∨ j = 7)) → ¬ (b = 65 ∧ 4 ≤ j ∧ ¬ j = 5 ∧ ¬ j = 6) → ¬ b = 72 → ¬ (67 ≤ b ∧ b ≤ 70) → ¬ (b = 66 ∧ j = 5) → mG M' b j = mG M b j) ∧ (¬ mG M 3 6 = 0 → ¬ mG M' 3 6 = 0) ∧ (BFI M → BFI M')
theorem P2.rf {M : Mem} : P2 M M := ⟨fun _ _ _ _ _ _ _ => rfl, fun h => h, fun h => h⟩
theorem P2.tr {M M1 M2 : Mem} (h1 : P2 M M1) (h2 : P2 M1 M2) : P2 M M2 := ⟨fun b j x y z u v => (h2.1 b j x y z u v).trans (h1.1 b j x y z u v), fun h => h2.2.1 (h1.2.1 h), fun h => h2.2.2 (h1.2.2 h)⟩
theorem T2.p {M M' : Mem} (h : T2 M M') : P2 M M' := ⟨fun b j x y z _ _ => h.1 b j x y z, h.2.1, h.2.2⟩
theorem T2.np {M M' : Mem} (h : T2 M M') : mG M' 66 5 = mG M 66 5 := h.1 66 5 (by omega) (by omega) (by decide)
theorem P2.ac {M M' : Mem} (h : P2 M M') (ha : AC M) : AC M' := by
  obtain ⟨a0, a1, a2, a3, a4, a5, a6, a7, a8⟩ := ha
  have g := h.1
  exact ⟨by rw [g _ _ (by omega) (by omega) (by decide) (by omega) (by omega)]; exact a0, by rw [g _ _ (by omega) (by omega) (by decide) (by omega) (by omega)]; exact a1, by rw [g _ _ (by omega) (by omega) (by decide) (by omega) (by omega)]; exact a2, by rw [g _ _ (by omega) (by omega) (by decide) (by omega) (by omega)]; exact a3, by rw [g _ _ (by omega) (by omega) (by decide) (by omega) (by omega)]; exact a4, by rw [g _ _ (by omega) (by omega) (by decide) (by omega) (by omega)]; exact a5, by rw [g _ _ (by omega) (by omega) (by decide) (by omega) (by omega)]; exact a6, by rw [g _ _ (by omega) (by omega) (by decide) (by omega) (by omega)]; exact a7, by rw [g _ _ (by omega) (by omega) (by decide) (by omega) (by omega)]; exact a8⟩
theorem P2.ast {M M1 M2 : Mem} {b j x : Int} (h1 : P2 M M1) (hb : 67 ≤ b ∧ b ≤ 70) (hM : M2 = mS M1 b j x) : P2 M M2 :=
  ⟨fun c i p q r s t => (st_ne hM (fun z => s (by omega))).trans (h1.1 c i p q r s t), fun h => by rw [st_ne hM (fun z => by omega)]; exact h1.2.1 h, fun h => by
    unfold BFI; rw [st_ne hM (fun z => by omega), st_ne hM (fun z => by omega)]; exact h1.2.2 h⟩
theorem pu_write {M : Mem} {l1 l2 l3 l4 : Int} (ha : AC M) (hn : 0 ≤ mG M 66 5 ∧ mG M 66 5 ≤ 1000) : pw (mX5_write 66 l1 l2 l3 l4 M) (fun q => P2 M q.2 ∧ mG q.2 66 5 = mG M 66 5 + 1) := by
  have t : ∀ M1 : Mem, P2 M M1 → mG M1 66 5 = mG M 66 5 → pw (mX5_write_53 66 M1) (fun q => P2 M q.2 ∧ mG q.2 66 5 = mG M 66 5 + 1) := by
    intro M1 h e
    unfold mX5_write_53
    refine p_gFc (ji := 5) rfl e (p_pF (ji := 5) rfl (fun M2 h2 => ?_))
    have w := wI_id (x := mG M 66 5 + 1) (by omega) (by omega)
    refine p_ret ⟨⟨fun c i p q r s t => (st_ne h2 t).trans (h.1 c i p q r s t), fun z => by rw [st_ne h2 (fun y => absurd y.1 (by decide))]; exact h.2.1 z, fun z => by
      unfold BFI; rw [st_ne h2 (fun y => absurd y.1 (by decide)), st_ne h2 (fun y => absurd y.1 (by decide))]; exact h.2.2 z⟩, ?_⟩
    rw [st_eq h2, w]
  unfold mX5_write
  refine p_gF (ji := 5) rfl (fun _ _ => p_gF (ji := 0) rfl (fun _ _ => p_aL (fun _ _ => p_if (fun _ => t _ P2.rf rfl) (fun _ => ?_))))
  refine p_gFc (ji := 0) rfl ha.2.2.2.2.2.1 (p_gF (ji := 5) rfl (fun _ _ => p_aS (fun M1 h1 => ?_)))
  have k1 : P2 M M1 := P2.rf.ast (by decide) h1
  refine p_gFc (ji := 1) rfl (k1.ac ha).2.2.2.2.2.2.1 (p_gF (ji := 5) rfl (fun _ _ => p_aS (fun M2 h2 => ?_)))
  have k2 : P2 M M2 := k1.ast (by decide) h2
  refine p_gFc (ji := 2) rfl (k2.ac ha).2.2.2.2.2.2.2.1 (p_gF (ji := 5) rfl (fun _ _ => p_aS (fun M3 h3 => ?_)))
  have k3 : P2 M M3 := k2.ast (by decide) h3
  refine p_gFc (ji := 3) rfl (k3.ac ha).2.2.2.2.2.2.2.2 (p_gF (ji := 5) rfl (fun _ _ => p_aS (fun M4 h4 => ?_)))
  have k4 : P2 M M4 := k3.ast (by decide) h4
  exact t _ k4 (by rw [st_ne h4 (fun z => absurd z.1 (by decide)), st_ne h3 (fun z => absurd z.1 (by decide)), st_ne h2 (fun z => absurd z.1 (by decide)), st_ne h1 (fun z => absurd z.1 (by decide))])
/-- a part is written, or there is a fault -/
def G2 (M : Mem) (q : Int × Mem) : Prop := P2 M q.2 ∧ (BFI M → mG q.2 3 6 = 0 → mG q.2 66 5 = mG M 66 5 + 1)
theorem pu_wr {M M1 : Mem} {l1 l2 l3 l4 : Int} (h : T2 M M1) (ha : AC M) (hn : 0 ≤ mG M 66 5 ∧ mG M 66 5 ≤ 1000) : pw (mX5_write 66 l1 l2 l3 l4 M1) (G2 M) := by
  refine p_mono (pu_write (h.ac ha) (by rw [h.np]; exact hn)) ?_
  rintro q ⟨k, e⟩
  exact ⟨h.p.tr k, fun _ _ => by rw [e, h.np]⟩
theorem G2.t {M M1 M2 : Mem} {r r2 : Int} (h : G2 M (r, M1)) (k : T2 M1 M2) : G2 M (r2, M2) := by
  refine ⟨h.1.tr k.p, fun b z => ?_⟩
  have z : mG M2 3 6 = 0 := z
  show mG M2 66 5 = _
  rw [k.np]
  exact h.2 b (Decidable.byContradiction fun y => k.2.1 y z)
theorem pu_readBinder {M : Mem} {l1 l2 : Int} (ha : AC M) (hn : 0 ≤ mG M 66 5 ∧ mG M 66 5 ≤ 1000) : pw (mX2_readBinder 65 l1 l2 M) (G2 M) := by
  have t39 : ∀ (s0 : Int) (M1 : Mem), T2 M M1 → pw (mX2_readBinder_39 65 l1 l2 s0 M1) (G2 M) := by
    intro s0 M1 h
    unfold mX2_readBinder_39
    refine p_gK (p_call (pu_takeVariable (h.ac ha)) ?_)
    intro v m k
    have k2 : T2 M m := h.tr k
    refine p_gK (p_call (pu_takeKind (k2.ac ha)) ?_)
    intro v3 m3 k3
    have k3 : T2 M m3 := k2.tr k3
    refine p_gF (ji := 4) rfl (fun w hw => p_if (fun c => ?_) (fun c => p_ret ⟨k3.p, fun b z => absurd z (k3.2.2 b (fun y => c (hw.symm.trans y)))⟩))
    refine p_same pu_depth (fun _ => p_some (fun _ _ => p_gFc (ji := 5) rfl (k3.ac ha).2.2.2.1 (p_gK (p_call (pu_wr k3 ha hn) ?_))))
    intro v4 m4 g4
    refine p_same pu_bind (fun _ => p_gK (p_call (pu_expectPart (g4.1.ac ha)) ?_))
    intro v5 m5 k5
    exact p_ret (g4.t k5)
  have t31 : ∀ M1 : Mem, T2 M M1 → pw (mX2_readBinder_31 65 l1 l2 M1) (G2 M) := by
    intro M1 h
    unfold mX2_readBinder_31
    exact p_gK (p_call (pu_takeNumber (h.ac ha)) (fun r m k => t39 _ _ (h.tr k)))
  have t17 : ∀ M1 : Mem, T2 M M1 → pw (mX2_readBinder_17 65 l1 l2 M1) (G2 M) := by
    intro M1 h
    unfold mX2_readBinder_17
    refine p_gK (p_call pu_advance (fun r m k => p_if (fun _ => t31 _ (h.tr k)) (fun _ => p_if (fun _ => t31 _ (h.tr k)) (fun _ => t39 _ _ (h.tr k)))))
  unfold mX2_readBinder
  refine p_same pu_depth (fun _ => p_if (fun _ => t17 _ T2.rf) (fun _ => p_gF (ji := 9) rfl (fun _ _ => p_gK (p_call (pu_note ha (by decide)) (fun r m k => t17 _ k.1)))))
theorem pu_readJoint {M : Mem} {l1 l2 : Int} (ha : AC M) (hn : 0 ≤ mG M 66 5 ∧ mG M 66 5 ≤ 1000) : pw (mX2_readJoint 65 l1 l2 M) (G2 M) := by
  unfold mX2_readJoint
  refine p_gK (p_call pu_advance ?_)
  intro v m k
  have k : T2 M m := k
  refine p_gFc (ji := 5) rfl (k.ac ha).2.2.2.1 (p_gK (p_call (pu_wr k ha hn) ?_))
  intro v4 m4 g4
  exact p_gK (p_call (pu_expectPart (g4.1.ac ha)) (fun r m5 k5 => p_ret (g4.t k5)))
theorem pu_readSame {M : Mem} {l1 : Int} (ha : AC M) (hn : 0 ≤ mG M 66 5 ∧ mG M 66 5 ≤ 1000) : pw (mX2_readSame 65 l1 M) (G2 M) := by
  unfold mX2_readSame
  refine p_gK (p_call pu_advance ?_)
  intro v m k
  have k : T2 M m := k
  refine p_gK (p_call (pu_takeBound (k.ac ha)) ?_)
  intro v2 m2 k2
  have k2 : T2 M m2 := k.tr k2
  refine p_same pu_kindOf (fun _ => p_gK (p_call (pu_takeBound (k2.ac ha)) ?_))
  intro v3 m3 k3
  have k3 : T2 M m3 := k2.tr k3
  refine p_gFc (ji := 5) rfl (k3.ac ha).2.2.2.1 (p_same pu_slotOf (fun _ => p_same pu_slotOf (fun _ => p_gK (p_call (pu_wr k3 ha hn) (fun r m4 g4 => p_ret g4)))))
theorem pu_readReach {M : Mem} {l1 : Int} (ha : AC M) (hn : 0 ≤ mG M 66 5 ∧ mG M 66 5 ≤ 1000) : pw (mX2_readReach 65 l1 M) (G2 M) := by
  have t : ∀ (l2 s0 : Int) (M1 : Mem), T2 M M1 → pw (mX2_readReach_33 65 l1 l2 s0 M1) (G2 M) := by
    intro l2 s0 M1 k
    unfold mX2_readReach_33
    refine p_gK (p_call (pu_takeBound (k.ac ha)) ?_)
    intro v2 m2 k2
    have k2 : T2 M m2 := k.tr k2
    refine p_gK (p_call (pu_takeBound (k2.ac ha)) ?_)
    intro v3 m3 k3
    have k3 : T2 M m3 := k2.tr k3
    refine p_gFc (ji := 5) rfl (k3.ac ha).2.2.2.1 (p_same pu_slotOf (fun _ => p_same pu_slotOf (fun _ => p_gK (p_call (pu_wr k3 ha hn) (fun r m4 g4 => p_ret g4)))))
  unfold mX2_readReach
  refine p_gK (p_call pu_advance ?_)
  intro v m k
  have k : T2 M m := k
  refine p_gK (p_call (pu_takeRoad (k.ac ha)) ?_)
  intro v2 m2 k2
  have k2 : T2 M m2 := k.tr k2
  refine p_gF (ji := 3) rfl (fun _ _ => p_gK (p_same pu_twice (fun _ => p_if (fun _ => t _ _ _ k2) (fun _ => ?_))))
  exact p_gF (ji := 3) rfl (fun _ _ => p_gF (ji := 1) rfl (fun _ _ => p_aG (fun _ _ => t _ _ _ k2)))
theorem pu_readTree {M : Mem} (ha : AC M) (hn : 0 ≤ mG M 66 5 ∧ mG M 66 5 ≤ 1000) : pw (mX2_readTree 65 M) (G2 M) := by
  unfold mX2_readTree
  refine p_gK (p_call pu_advance ?_)
  intro v m k
  have k : T2 M m := k
  refine p_gFc (ji := 5) rfl (k.ac ha).2.2.2.1 (p_gK (p_call (pu_takeRoad (k.ac ha)) ?_))
  intro v2 m2 k2
  have k2 : T2 M m2 := k.tr k2
  exact p_gK (p_call (pu_wr k2 ha hn) (fun r m4 g4 => p_ret g4))
theorem pu_readFact {M : Mem} {l1 : Int} (ha : AC M) (hn : 0 ≤ mG M 66 5 ∧ mG M 66 5 ≤ 1000) : pw (mX2_readFact 65 l1 M) (G2 M) := by
  have t : ∀ (l2 l3 s0 : Int) (M1 : Mem), T2 M M1 → pw (mX2_readFact_61 65 l2 l3 s0 M1) (G2 M) := by
    intro l2 l3 s0 M1 k
    unfold mX2_readFact_61
    exact p_gFc (ji := 5) rfl (k.ac ha).2.2.2.1 (p_same pu_slotOf (fun _ => p_same pu_slotOf (fun _ => p_gK (p_call (pu_wr k ha hn) (fun r m4 g4 => p_ret g4)))))
  unfold mX2_readFact
  refine p_gK (p_call (pu_takeRelation ha) ?_)
  rintro v m ⟨k, hv⟩
  have k : T2 M m := k
  have hv : BFI M → mG m 3 6 = 0 → 0 ≤ v ∧ v < mG M 4 6 := hv
  refine p_gFc (ji := 3) rfl (k.ac ha).2.2.1 (p_gK (p_call pu_hasRelation ?_))
  rintro v2 m2 ⟨e2, h2⟩
  have e2 : m2 = m := e2
  have h2 : (v2 = 0 ∧ ¬ (0 ≤ v ∧ v < mG m 4 6)) ∨ (v2 = 1 ∧ 0 ≤ v ∧ v < mG m 4 6) := h2
  subst e2
  have e46 : mG m2 4 6 = mG M 4 6 := k.1 4 6 (by omega) (by omega) (by decide)
  dsimp only
  refine p_if (fun c => p_ret ⟨k.p, fun b z => ?_⟩) (fun c => ?_)
  · have := hv b z
    omega
  refine p_gF (ji := 3) rfl (fun _ _ => p_gF (ji := 1) rfl (fun _ _ => p_aG (fun _ _ => p_gK (p_call (pu_takeBound (k.ac ha)) ?_))))
  intro v3 m3 k3
  have k3 : T2 M m3 := k.tr k3
  refine p_gF (ji := 3) rfl (fun _ _ => p_gK (p_same pu_isOfTwo (fun _ => p_if (fun _ => t _ _ _ _ k3) (fun _ => ?_))))
  refine p_gF (ji := 3) rfl (fun _ _ => p_gF (ji := 2) rfl (fun _ _ => p_aG (fun _ _ => p_gK (p_call (pu_takeBound (k3.ac ha)) ?_))))
  intro v4 m4 k4
  exact t _ _ _ _ (k3.tr k4)
theorem pu_firstWord {M : Mem} : pw (mX2_firstWord 65 M) (fun q => q.2 = M) := by
  unfold mX2_firstWord
  refine p_gK (p_same pu_isWord (fun _ => p_if (fun _ => ?_) (fun _ => p_ret rfl)))
  refine p_gK (p_same pu_isWord (fun _ => p_if (fun _ => ?_) (fun _ => p_ret rfl)))
  refine p_gK (p_same pu_isWord (fun _ => p_if (fun _ => ?_) (fun _ => p_ret rfl)))
  refine p_gK (p_same pu_isWord (fun _ => p_if (fun _ => ?_) (fun _ => p_ret rfl)))
  refine p_gK (p_same pu_isWord (fun _ => p_if (fun _ => ?_) (fun _ => p_ret rfl)))
  refine p_gK (p_same pu_isWord (fun _ => p_if (fun _ => ?_) (fun _ => p_ret rfl)))
  refine p_gK (p_same pu_isWord (fun _ => p_if (fun _ => ?_) (fun _ => p_ret rfl)))
  refine p_gK (p_same pu_isWord (fun _ => p_if (fun _ => ?_) (fun _ => p_ret rfl)))
  refine p_gK (p_same pu_isWord (fun _ => p_if (fun _ => ?_) (fun _ => p_ret rfl)))
  refine p_gK (p_same pu_isWord (fun _ => p_if (fun _ => ?_) (fun _ => p_ret rfl)))
  refine p_gK (p_same pu_isWord (fun _ => p_if (fun _ => ?_) (fun _ => p_ret rfl)))
  refine p_gF (ji := 3) rfl (fun _ _ => p_gK (p_same pu_oneLetter (fun _ => p_gK (p_call pu_hasRelation ?_))))
  rintro v m ⟨e, -⟩
  have e : m = M := e
  subst e
  exact p_if (fun _ => p_ret rfl) (fun _ => p_ret rfl)
/-- after a part -/
def H2 (M : Mem) (q : Int × Mem) : Prop := P2 M q.2 ∧ (BFI M → mG q.2 3 6 = 0 → mG q.2 66 5 = mG M 66 5 + 1 ∧ mG M 66 5 < 40)
theorem pu_readPart {M : Mem} (ha : AC M) (hn : 0 ≤ mG M 66 5 ∧ mG M 66 5 ≤ 1000) : pw (mX2_readPart 65 M) (H2 M) := by
  have t56 : ∀ (l1 l2 : Int) (M1 : Mem), T2 M M1 → (mG M1 3 6 = 0 → mG M 66 5 < 40) → pw (mX2_readPart_56 65 l1 l2 M1) (H2 M) := by
    intro l1 l2 M1 h hl
    have a1 := h.ac ha
    have n1 : 0 ≤ mG M1 66 5 ∧ mG M1 66 5 ≤ 1000 := by rw [h.np]; exact hn
    have t : ∀ (x : Option (Int × Mem)), pw x (G2 M1) → pw (x.bind fun q => some (0, q.2)) (H2 M) := by
      intro x hx
      refine p_call hx ?_
      intro r m g
      refine p_ret ⟨h.p.tr g.1, fun b z => ?_⟩
      have z : mG m 3 6 = 0 := z
      have z1 : mG M1 3 6 = 0 := Decidable.byContradiction fun y => g.1.2.1 y z
      exact ⟨by rw [← h.np]; exact g.2 (h.2.2 b) z, hl z1⟩
    have j : ∀ l : Int, pw ((mX2_readJoint 65 l l1 M1).bind fun q137 => (gK 2 q137.2 65).bind fun _ => (mX2_expectPart 65 l1 q137.2).bind fun q142 => some (0, q142.2)) (H2 M) := by
      intro l
      refine p_call (pu_readJoint a1 n1) ?_
      intro r m g
      refine p_gK ?_
      refine p_call (pu_expectPart (g.1.ac a1)) ?_
      intro r2 m2 k2
      have g2 : G2 M1 (0, m2) := g.t k2
      refine p_ret ⟨h.p.tr g2.1, fun b z => ?_⟩
      have z : mG m2 3 6 = 0 := z
      have z1 : mG M1 3 6 = 0 := Decidable.byContradiction fun y => g2.1.2.1 y z
      exact ⟨by rw [← h.np]; exact g2.2 (h.2.2 b) z, hl z1⟩
    unfold mX2_readPart_56
    refine p_if (fun _ => p_gK (t _ (pu_readBinder a1 n1))) (fun _ => ?_)
    refine p_if (fun _ => p_gK (t _ (pu_readBinder a1 n1))) (fun _ => ?_)
    refine p_if (fun _ => p_gK (t _ (pu_readBinder a1 n1))) (fun _ => ?_)
    refine p_if (fun _ => p_gK (t _ (pu_readBinder a1 n1))) (fun _ => ?_)
    refine p_if (fun _ => p_gK (t _ (pu_readJoint a1 n1))) (fun _ => ?_)
    refine p_if (fun _ => p_gK (j _)) (fun _ => ?_)
    refine p_if (fun _ => p_gK (j _)) (fun _ => ?_)
    refine p_if (fun _ => p_gK (j _)) (fun _ => ?_)
    refine p_if (fun _ => p_gK (t _ (pu_readSame a1 n1))) (fun _ => ?_)
    refine p_if (fun _ => p_gK (t _ (pu_readReach a1 n1))) (fun _ => ?_)
    refine p_if (fun _ => p_gK (t _ (pu_readTree a1 n1))) (fun _ => ?_)
    exact p_gK (t _ (pu_readFact a1 n1))
  unfold mX2_readPart
  refine p_gF (ji := 7) rfl (fun _ _ => p_pF (ji := 7) rfl (fun M1 h1 => ?_))
  have k1 : T2 M M1 := T2.rf.st (by decide) h1
  have a1 := k1.ac ha
  refine p_gF (ji := 6) rfl (fun _ _ => p_gF (ji := 7) rfl (fun _ _ => p_aG (fun sc _ => p_gK (p_same pu_firstWord (fun w => ?_)))))
  refine p_if (fun c => ?_) (fun c => ?_)
  · refine p_gK (p_call (pu_refuse a1) ?_)
    rintro r m ⟨k, z, -⟩
    have k : T2 M1 m := k
    have z : BFI M1 → ¬ mG m 3 6 = 0 := z
    exact p_ret ⟨(k1.tr k).p, fun b y => absurd y (z (k1.2.2 b))⟩
  · refine p_gFc (ji := 5) rfl a1.2.2.2.1 (p_gFc (ji := 5) rfl k1.np (p_if (fun c2 => ?_) (fun c2 => ?_)))
    · exact t56 _ _ _ k1 (fun _ => c2)
    · refine p_gF (ji := 9) rfl (fun _ _ => p_gK (p_call (pu_note a1 (by decide)) ?_))
      rintro r m ⟨k, z⟩
      exact t56 _ _ _ (k1.tr k) (fun y => absurd y z)
