/-! ===== runs on the fresh memory ===== -/
def tvo (X : Int) (T : List ((Int × Int) × Int)) (a j : Int) : Option Int := match T.find? (fun e => decide (e.1.1 = a ∧ e.1.2 = j)) with | some e => some e.2 | none => if a = X then none else some (lkL 197 a j)
def TR (X lo hi : Int) (T : List ((Int × Int) × Int)) (M : Mem) : Prop := (∀ a j r, lo ≤ a → a ≤ hi → tvo X T a j = some r → mG M a j = r) ∧ ∀ b : Nat, b < 169 → mK M ((b : Int) + 1) = layL.getD b (99, 0)
def cpl (al : Int) : List Int → Int → List ((Int × Int) × Int)
  | [], _ => []
  | v :: vs, k => ((al, k), v) :: cpl al vs (k + 1)
section TR
variable {X lo hi : Int} {T : List ((Int × Int) × Int)} {M M' : Mem}
theorem TR.v {a j r : Int} (t : TR X lo hi T M) (h : tvo X T a j = some r) (hr : lo ≤ a ∧ a ≤ hi) : mG M a j = r := t.1 a j r hr.1 hr.2 h
theorem TR.l {a n : Int} (t : TR X lo hi T M) (h : ((layL.getD (a - 1).toNat (99, 0)).2 : Int) = n) (hr : 1 ≤ a ∧ a ≤ 169) : ((mK M a).2 : Int) = n := by
  have := t.2 (a - 1).toNat (by omega)
  rw [show (((a - 1).toNat : Nat) : Int) + 1 = a by omega] at this
  rw [this, h]
theorem TR.st {al il xl a i x : Int} (t : TR X lo hi T M) (hM : M' = mS M a i x) (ha : a = al) (hi' : i = il) (hx : x = xl) : TR X lo hi (((al, il), xl) :: T) M' := by
  subst ha; subst hi'; subst hx
  refine ⟨fun b j r h1 h2 h => ?_, fun b hb => (st_k hM _).trans (t.2 b hb)⟩
  unfold tvo at h
  rw [List.find?_cons] at h
  by_cases e : b = a ∧ j = i
  · obtain ⟨e1, e2⟩ := e
    subst e1; subst e2
    rw [decide_eq_true (⟨rfl, rfl⟩ : b = b ∧ j = j)] at h
    have h : some x = some r := h
    rw [st_eq hM]; exact Option.some.inj h
  · rw [st_ne hM e]
    rw [decide_eq_false (fun z : a = b ∧ i = j => e ⟨z.1.symm, z.2.symm⟩)] at h
    exact t.1 b j r h1 h2 h
theorem TR.forget (t : TR X lo hi T M) : TR X lo hi (T.filter (fun e => decide (¬ e.1.1 = X))) M := by
  refine ⟨fun b j r h1 h2 h => ?_, t.2⟩
  refine t.1 b j r h1 h2 ?_
  unfold tvo at h ⊢
  rw [List.find?_filter] at h
  by_cases e : b = X
  · exfalso
    rw [List.find?_eq_none.mpr (fun x _ z => by
      have z := of_decide_eq_true z
      exact of_decide_eq_true z.1 ((of_decide_eq_true z.2).1.trans e)), if_pos e] at h
    cases h
  · have : (fun a : (Int × Int) × Int => decide (decide (¬ a.1.1 = X) = true ∧ decide (a.1.1 = b ∧ a.1.2 = j) = true)) = (fun a => decide (a.1.1 = b ∧ a.1.2 = j)) := by
      funext x
      by_cases z : x.1.1 = b ∧ x.1.2 = j
      · rw [decide_eq_true z, decide_eq_true (show ¬ x.1.1 = X from fun y => e (z.1.symm.trans y))]; rfl
      · rw [decide_eq_false z]
        exact decide_eq_false (fun w => by cases w.2)
    rw [this] at h
    exact h
theorem TR.wX {i x : Int} (t : TR X lo hi T M) (hT : ∀ e, e ∈ T → ¬ e.1.1 = X) (hM : M' = mS M X i x) : TR X lo hi T M' := by
  refine ⟨fun b j r h1 h2 h => ?_, fun b hb => (st_k hM _).trans (t.2 b hb)⟩
  by_cases e : b = X
  · exfalso
    unfold tvo at h
    rw [List.find?_eq_none.mpr (fun x hx z => by simp at z; exact hT x hx (z.1.trans e)), if_pos e] at h
    cases h
  · rw [st_ne hM (fun z => e z.1)]; exact t.1 b j r h1 h2 h
theorem cpl_find {al : Int} : ∀ (vs : List Int) (k b j : Int), (cpl al vs k).find? (fun e => decide (e.1.1 = b ∧ e.1.2 = j)) = if b = al ∧ k ≤ j ∧ j < k + (vs.length : Int) then some ((al, j), vs.getD (j - k).toNat 0) else none := by
  intro vs
  induction vs with
  | nil => intro k b j; rw [if_neg (fun z => by have z3 := z.2.2; have z2 := z.2.1; simp only [List.length_nil] at z3; omega)]; rfl
  | cons v vs ih =>
    intro k b j
    show (((al, k), v) :: cpl al vs (k + 1)).find? _ = _
    rw [List.find?_cons]
    by_cases e : al = b ∧ k = j
    · obtain ⟨e1, e2⟩ := e
      subst e1; subst e2
      rw [decide_eq_true (⟨rfl, rfl⟩ : al = al ∧ k = k), if_pos ⟨rfl, Int.le_refl _, by simp only [List.length_cons]; omega⟩, Int.sub_self]; rfl
    · rw [decide_eq_false e]
      show (cpl al vs (k + 1)).find? _ = _
      rw [ih]
      by_cases z : b = al ∧ k + 1 ≤ j ∧ j < k + 1 + (vs.length : Int)
      · rw [if_pos z, if_pos ⟨z.1, by omega, by simp only [List.length_cons]; omega⟩, show (j - k).toNat = (j - (k + 1)).toNat + 1 by omega]; rfl
      · rw [if_neg z, if_neg (fun y => by
          obtain ⟨y1, y2, y3⟩ := y
          simp only [List.length_cons] at y3
          by_cases x : k = j
          · exact e ⟨y1.symm, x⟩
          · exact z ⟨y1, by omega, by omega⟩)]
theorem TR.cp {vs : List Int} {al a0 sp a dp n : Int} (t : TR X lo hi T M) (hM : M' = mC M a0 sp a dp n) (h1 : a = al ∧ dp = 0 ∧ sp = 0) (h2 : n = (vs.length : Int)) (h3 : lo ≤ a0 ∧ a0 ≤ hi) (h4 : ∀ m, m < vs.length → tvo X T a0 (m : Int) = some (vs.getD m 0)) : TR X lo hi (cpl al vs 0 ++ T) M' := by
  obtain ⟨e1, e2, e3⟩ := h1
  subst e1; subst e2; subst e3; subst h2
  refine ⟨fun b j r b1 b2 h => ?_, fun b hb => (cp_k hM _).trans (t.2 b hb)⟩
  unfold tvo at h
  rw [List.find?_append, cpl_find] at h
  rw [cp_g hM]
  by_cases z : b = a ∧ 0 ≤ j ∧ j < 0 + (vs.length : Int)
  · rw [if_pos z] at h ⊢
    have h : some (vs.getD (j - 0).toNat 0) = some r := h
    have := t.v (h4 (j - 0).toNat (by omega)) h3
    rw [show (((j - 0).toNat : Nat) : Int) = 0 + (j - 0) by omega] at this
    rw [this]; exact Option.some.inj h
  · rw [if_neg z] at h ⊢
    exact t.1 b j r b1 b2 h
theorem TR.of (r : RepL 197 169 M) : TR X lo hi [] M := ⟨fun a j v _ _ h => by
  unfold tvo at h
  have h : (if a = X then none else some (lkL 197 a j)) = some v := h
  by_cases e : a = X
  · rw [if_pos e] at h; cases h
  · rw [if_neg e] at h; rw [r.2.2.1 a j]; exact Option.some.inj h, r.2.1⟩
theorem TR.fr (t : TR X lo hi T M) (h : ∀ a j, lo ≤ a → a ≤ hi → mG M' a j = mG M a j) (hk : ∀ b : Nat, b < 169 → mK M' ((b : Int) + 1) = mK M ((b : Int) + 1)) : TR X lo hi T M' := ⟨fun a j r h1 h2 e => (h a j h1 h2).trans (t.1 a j r h1 h2 e), fun b hb => (hk b hb).trans (t.2 b hb)⟩
section
variable {β : Type} {Q : β → Prop} {P : Int × Mem → Prop}
theorem p_it1 {C : Prop} [Decidable C] {a b : Option β} (h : C) (k : pw a Q) : pw (if C then a else b) Q := by rw [if_pos h]; exact k
theorem p_it0 {C : Prop} [Decidable C] {a b : Option β} (h : ¬ C) (k : pw b Q) : pw (if C then a else b) Q := by rw [if_neg h]; exact k
theorem p_ifle_l {x y r : Int} {a b : Option β} {_ : Decidable (x ≤ y)} (e : x = r) (h1 : r ≤ y → pw a Q) (h2 : ¬ r ≤ y → pw b Q) : pw (if x ≤ y then a else b) Q := by subst e; exact p_if h1 h2
theorem p_ifle_r {x y r : Int} {a b : Option β} {_ : Decidable (x ≤ y)} (e : y = r) (h1 : x ≤ r → pw a Q) (h2 : ¬ x ≤ r → pw b Q) : pw (if x ≤ y then a else b) Q := by subst e; exact p_if h1 h2
theorem p_iflt_l {x y r : Int} {a b : Option β} {_ : Decidable (x < y)} (e : x = r) (h1 : r < y → pw a Q) (h2 : ¬ r < y → pw b Q) : pw (if x < y then a else b) Q := by subst e; exact p_if h1 h2
theorem p_iflt_r {x y r : Int} {a b : Option β} {_ : Decidable (x < y)} (e : y = r) (h1 : x < r → pw a Q) (h2 : ¬ x < r → pw b Q) : pw (if x < y then a else b) Q := by subst e; exact p_if h1 h2
theorem p_ifeq_l {x y r : Int} {a b : Option β} {_ : Decidable (x = y)} (e : x = r) (h1 : r = y → pw a Q) (h2 : ¬ r = y → pw b Q) : pw (if x = y then a else b) Q := by subst e; exact p_if h1 h2
theorem p_ifeq_r {x y r : Int} {a b : Option β} {_ : Decidable (x = y)} (e : y = r) (h1 : x = r → pw a Q) (h2 : ¬ x = r → pw b Q) : pw (if x = y then a else b) Q := by subst e; exact p_if h1 h2
theorem p_rc {v r : Int} (h : v = r) (k : P (r, M)) : pw (some (v, M)) P := by subst h; exact p_ret k
theorem p_bindg {x : Option (Int × Mem)} {f : Int × Mem → Option β} (h : ∀ Q2 : Int × Mem → Prop, (∀ a, pw (f a) Q → Q2 a) → pw x Q2) : pw (x.bind f) Q := by
  have := h (fun a => pw (f a) Q) (fun _ z => z)
  intro a e
  cases hx : x with
  | none => rw [hx] at e; cases e
  | some q => rw [hx] at e; exact this q hx a e
theorem p_tGc {L : List Int} {i r : Int} {f : Int → Option β} (h : L.getD i.toNat 0 = r) (k : pw (f r) Q) : pw ((tG L i).bind f) Q := by
  unfold tG; split
  · rw [h]; exact k
  · exact p_none
theorem p_dQc {x y r : Int} {f : Int → Option β} (h : idiv x y = r) (k : pw (f r) Q) : pw ((dQ x y).bind f) Q := p_dQ (fun v hv => by rw [hv, h]; exact k)
theorem p_dM {x y : Int} {f : Int → Option β} (k : ∀ v, v = irem x y → pw (f v) Q) : pw ((dM x y).bind f) Q := by
  unfold dM; split
  · exact p_none
  · exact k _ rfl
theorem p_dMc {x y r : Int} {f : Int → Option β} (h : irem x y = r) (k : pw (f r) Q) : pw ((dM x y).bind f) Q := p_dM (fun v hv => by rw [hv, h]; exact k)
theorem p_tG {L : List Int} {i : Int} {f : Int → Option β} (k : ∀ v, pw (f v) Q) : pw ((tG L i).bind f) Q := by
  unfold tG; split
  · exact k _
  · exact p_none
theorem p_val {x : Option (Int × Mem)} {r : Int} (h : pw x (fun q => q.1 = r ∧ q.2 = M)) (k : pw (some (r, M)) P) : pw x P :=
  p_mono h (fun q e => by obtain ⟨a, m⟩ := q; obtain ⟨e1, e2⟩ := e; have e1 : a = r := e1; have e2 : m = M := e2; subst e1; subst e2; exact k _ rfl)
theorem p_val2 {x : Option (Int × Mem)} {r : Int} (h : pw x (fun q => q.1 = r ∧ TR X lo hi T q.2)) (k : ∀ M', TR X lo hi T M' → pw (some (r, M')) P) : pw x P :=
  p_mono h (fun q e => by obtain ⟨a, m⟩ := q; obtain ⟨e1, e2⟩ := e; have e1 : a = r := e1; subst e1; exact k m e2 _ rfl)
end
end TR
