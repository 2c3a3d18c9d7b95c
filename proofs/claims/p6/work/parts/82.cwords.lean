/-! ===== the class's words ===== -/
section
variable {E : RE} {M : Mem}
theorem RE.we_spec (b : Int) (h0 : 0 ≤ b) (hn : E.n ≤ 400) : b ≤ E.we b ∧ (∀ i, b ≤ i → i < E.we b → E.let' i = true) ∧ E.let' (E.we b) = false ∧ (E.we b ≤ E.n ∨ E.we b = b) :=
  ru_spec (P := E.let') (n := E.n) (fun i hi => (RE.letT hi).1) 400 b (by omega)
theorem RE.de_spec (b : Int) (h0 : 0 ≤ b) (hn : E.n ≤ 400) : b ≤ E.de b ∧ (∀ i, b ≤ i → i < E.de b → E.dig i = true) ∧ E.dig (E.de b) = false ∧ (E.de b ≤ E.n ∨ E.de b = b) :=
  ru_spec (P := E.dig) (n := E.n) (fun i hi => (RE.digT hi).1) 400 b (by omega)
theorem RE.sk_spec (b : Int) (h0 : 0 ≤ b) (hn : E.n ≤ 400) : b ≤ E.sk b ∧ (∀ i, b ≤ i → i < E.sk b → E.blk i = true) ∧ E.blk (E.sk b) = false ∧ (E.sk b ≤ E.n ∨ E.sk b = b) :=
  ru_spec (P := E.blk) (n := E.n) (fun i hi => (RE.blkT hi).1) 400 b (by omega)
theorem RE.we_gt {b : Int} (h0 : 0 ≤ b) (hn : E.n ≤ 400) (h : E.let' b = true) : b < E.we b := by
  obtain ⟨h1, h2, h3, _⟩ := E.we_spec b h0 hn
  by_cases e : E.we b = b
  · rw [e, h] at h3; cases h3
  · omega
theorem RE.we_id {b : Int} (h0 : 0 ≤ b) (hn : E.n ≤ 400) (h : E.let' b = false) : E.we b = b :=
  ru_eq 400 b b (Int.le_refl _) (by omega) (fun i i0 i1 => absurd i1 (by omega)) h
theorem RE.wd_iff (b : Int) (L : List Int) : E.wd b = L ↔ (E.we b - b).toNat = L.length ∧ ∀ i : Nat, i < L.length → E.t (b + (i : Int)) = L.getD i 0 := by
  constructor
  · intro h
    subst h
    unfold RE.wd
    refine ⟨by simp, fun i hi => ?_⟩
    rw [List.length_map, List.length_range] at hi
    rw [List.getD_eq_getElem?_getD, List.getElem?_map, List.getElem?_range hi]
    rfl
  · intro ⟨h1, h2⟩
    unfold RE.wd
    refine List.ext_getElem (by simp [h1]) (fun i i1 i2 => ?_)
    have := h2 i i2
    rw [List.getD_eq_getElem?_getD, List.getElem?_eq_getElem i2] at this
    rw [List.getElem_map, List.getElem_range]
    exact this
theorem RE.wd_nil {b : Int} (h0 : 0 ≤ b) (hn : E.n ≤ 400) (h : E.let' b = false) : E.wd b = [] :=
  (E.wd_iff b []).mpr ⟨by rw [RE.we_id h0 hn h]; simp, fun i hi => absurd hi (Nat.not_lt_zero i)⟩
theorem p_sLnc {β : Type} {Q : β → Prop} {w r : Int} {f : Int → Option β} (h : sLn w = some r) (k : pw (f r) Q) : pw ((sLn w).bind f) Q := by rw [h]; exact k
theorem p_sAtc {β : Type} {Q : β → Prop} {w i r : Int} {f : Int → Option β} (h : sAt w i = some r) (k : pw (f r) Q) : pw ((sAt w i).bind f) Q := by rw [h]; exact k
theorem CTok.wd {b : Int} (ce : CE E M) (ct : CTok E b M) : (mG M 65 8 = 1 ∧ E.let' b = true ∧ mG M 65 10 = E.we b) ∨ (¬ mG M 65 8 = 1 ∧ E.let' b = false) := by
  obtain ⟨_, _, h⟩ := ct
  rcases h with ⟨h, e⟩ | ⟨h, e, e2⟩ | ⟨h, e, _⟩ | ⟨h, h2, _, e⟩
  · exact Or.inr ⟨by omega, decide_eq_false (by omega)⟩
  · exact Or.inl ⟨e, h, e2⟩
  · have := RE.digT h
    exact Or.inr ⟨by omega, decide_eq_false (by omega)⟩
  · exact Or.inr ⟨by omega, h2⟩
theorem q_isWord {b w : Int} {L : List Int} (ce : CE E M) (ct : CTok E b M) (hl : sLn w = some (L.length : Int)) (ha : ∀ i : Nat, i < L.length → sAt w (i : Int) = some (L.getD i 0)) (h5 : 0 < L.length ∧ L.length ≤ 5) : pw (mX2_isWord 65 w M) (fun q => (E.wd b = L ∧ q.1 = 1 ∨ ¬ E.wd b = L ∧ q.1 = 0) ∧ q.2 = M) := by
  have hn := ce.2.2.1
  have hb := ct.2.1
  have key : ∀ (fu : Nat) (k : Nat), (E.we b - b).toNat = L.length → E.we b ≤ E.n → (∀ i : Nat, i < k → E.t (b + (i : Int)) = L.getD i 0) → k ≤ L.length → pw (mX2_isWord_28 fu 65 w (k : Int) M) (fun q => (E.wd b = L ∧ q.1 = 1 ∨ ¬ E.wd b = L ∧ q.1 = 0) ∧ q.2 = M) := by
    intro fu
    induction fu with
    | zero => intro k e en hk kl; exact p_none
    | succ fu ih =>
      intro k e en hk kl
      show pw (bX2_isWord_28 (mX2_isWord_28 fu) 65 w (k : Int) M) _
      unfold bX2_isWord_28
      refine p_sLnc hl (p_if (fun c => ?_) (fun c => ?_))
      · exact p_ret ⟨Or.inl ⟨(E.wd_iff b L).mpr ⟨e, fun i hi => hk i (by omega)⟩, rfl⟩, rfl⟩
      · have kl : k < L.length := by omega
        refine p_gFc (ji := 1) rfl ce.1.2.1 (p_gFc (ji := 9) rfl ct.1 ?_)
        rw [wI_id (x := b + (k : Int)) (by omega) (by omega), wI_id (x := (k : Int) + 1) (by omega) (by omega)]
        refine p_aGc (ce.2.2.2.1 _ (by omega) (by omega)) (p_sAtc (ha k kl) (p_if (fun c2 => ?_) (fun c2 => ?_)))
        · refine ih (k + 1) e en (fun i hi => ?_) (by omega)
          by_cases z : i = k
          · rw [z]; exact c2
          · exact hk i (by omega)
        · exact p_ret ⟨Or.inr ⟨fun z => c2 (((E.wd_iff b L).mp z).2 k kl), rfl⟩, rfl⟩
  have no : (E.let' b = false ∨ ¬ (E.we b - b).toNat = L.length) → ¬ E.wd b = L := fun z y => by
    have y' := (E.wd_iff b L).mp y
    rcases z with z | z
    · rw [RE.we_id hb.1 hn.2 z] at y'; have := y'.1; simp at this; omega
    · exact z y'.1
  unfold mX2_isWord
  rcases ct.wd ce with ⟨g1, g2, g3⟩ | ⟨g1, g2⟩
  · refine p_gFc (ji := 8) rfl g1 (p_it1 rfl ?_)
    refine p_gFc (ji := 10) rfl g3 (p_gFc (ji := 9) rfl ct.1 (p_sLnc hl ?_))
    have gt := RE.we_gt hb.1 hn.2 g2
    obtain ⟨_, _, _, w4⟩ := E.we_spec b hb.1 hn.2
    have w5 : E.we b ≤ E.n := by omega
    rw [wI_id (x := E.we b - b) (by omega) (by omega)]
    refine p_if (fun c => key FU 0 (by omega) w5 (fun i hi => absurd hi (Nat.not_lt_zero i)) (by omega)) (fun c => p_ret ⟨Or.inr ⟨no (Or.inr (by omega)), rfl⟩, rfl⟩)
  · refine p_gF (ji := 8) rfl (fun v hv => p_it0 (by omega) (p_ret ⟨Or.inr ⟨no (Or.inl g2), rfl⟩, rfl⟩))
def oneL (w : List Int) : Int := match w with | [c] => c | _ => 0
theorem RE.one_iff (b c : Int) : E.wd b = [c] ↔ (E.we b - b).toNat = 1 ∧ E.t b = c := by
  rw [E.wd_iff b [c]]
  constructor
  · intro ⟨h1, h2⟩
    have := h2 0 (by simp)
    rw [show b + ((0 : Nat) : Int) = b by omega] at this
    exact ⟨h1, this⟩
  · intro ⟨h1, h2⟩
    refine ⟨h1, fun i hi => ?_⟩
    have : i = 0 := by simp at hi; exact hi
    subst this
    rw [show b + ((0 : Nat) : Int) = b by omega]; exact h2
theorem q_oneLetter {b : Int} (ce : CE E M) (ct : CTok E b M) : pw (mX2_oneLetter 65 M) (fun q => ((E.wd b = [q.1] ∧ 97 ≤ q.1 ∧ q.1 ≤ 122) ∨ (q.1 = 0 ∧ ∀ c, ¬ E.wd b = [c])) ∧ q.2 = M) := by
  have hn := ce.2.2.1
  have hb := ct.2.1
  unfold mX2_oneLetter
  rcases ct.wd ce with ⟨g1, g2, g3⟩ | ⟨g1, g2⟩
  · refine p_gFc (ji := 8) rfl g1 (p_it1 rfl ?_)
    refine p_gFc (ji := 10) rfl g3 (p_gFc (ji := 9) rfl ct.1 ?_)
    have gt := RE.we_gt hb.1 hn.2 g2
    have lt := RE.letT g2
    obtain ⟨_, _, _, w4⟩ := E.we_spec b hb.1 hn.2
    rw [wI_id (x := E.we b - b) (by omega) (by omega)]
    refine p_if (fun c => ?_) (fun c => p_ret ⟨Or.inr ⟨rfl, fun x hx => ?_⟩, rfl⟩)
    · refine p_gFc (ji := 1) rfl ce.1.2.1 (p_gFc (ji := 9) rfl ct.1 (p_aGc (ce.2.2.2.1 _ hb.1 lt.1) (p_ret ⟨Or.inl ⟨(E.one_iff b _).mpr ⟨by omega, rfl⟩, lt.2⟩, rfl⟩)))
    · have := ((E.one_iff b x).mp hx).1
      omega
  · refine p_gF (ji := 8) rfl (fun v hv => p_it0 (by omega) (p_ret ⟨Or.inr ⟨rfl, fun x hx => ?_⟩, rfl⟩))
    rw [RE.wd_nil hb.1 hn.2 g2] at hx; cases hx
end
