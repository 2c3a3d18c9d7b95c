/-! ===== what a part leaves: scopes that agree, one row more ===== -/
theorem varW_rg (w : List Int) : -1 ≤ varW w ∧ varW w ≤ 3 := by
  unfold varW
  repeat' split
  all_goals decide
theorem kindW_rg (w : List Int) : -1 ≤ kindW w ∧ kindW w ≤ 2 := by
  unfold kindW
  repeat' split
  all_goals decide
/-- the scopes agree, they are few, and there is one row more -/
def RS.ok (ws : List (Int × Int)) (ps : List Row) (S : RS) : Prop := (∀ x, x ∈ S.ws → ScR x.1 x.2) ∧ S.ws.length ≤ ws.length + 2 ∧ S.ps.length = ps.length + 1
theorem len1 (ps : List Row) (r : Row) : (ps ++ [r]).length = ps.length + 1 := by simp
theorem ok_same {ws : List (Int × Int)} {ps : List Row} {b : Int} {r : Row} (h : ∀ x, x ∈ ws → ScR x.1 x.2) : RS.ok ws ps ⟨b, ws, ps ++ [r]⟩ := ⟨h, by show ws.length ≤ _; omega, len1 ps r⟩
theorem ok_some {S : RS} {ws : List (Int × Int)} {ps : List Row} {b : Int} {r : Row} (h : ∀ x, x ∈ ws → ScR x.1 x.2) (e : some (⟨b, ws, ps ++ [r]⟩ : RS) = some S) : RS.ok ws ps S := by
  obtain rfl := Option.some.inj e
  exact ok_same h
theorem rPart_ok {E : RE} {S S' : RS} {sc bo : Int} {ws : List (Int × Int)} (hS : S.ws = (sc, bo) :: ws) (h : E.rPart S = some S') (hs : ScR sc bo) (hw : ∀ x, x ∈ ws → ScR x.1 x.2) : RS.ok ws S.ps S' := by
  obtain ⟨b, ws0, ps⟩ := S
  have hS : ws0 = (sc, bo) :: ws := hS
  subst hS
  have h : (if 40 ≤ ps.length then none else if actW (E.wd b) = -1 then E.rFact sc bo ws ps b else if actW (E.wd b) ≤ 3 then E.rBind (actW (E.wd b)) sc bo ws ps b else if actW (E.wd b) = 8 then E.rSame sc bo ws ps b else if actW (E.wd b) = 9 then E.rReach sc bo ws ps b else if actW (E.wd b) = 10 then E.rTree ws ps b else some ⟨E.sk (E.we b), if actW (E.wd b) = 4 then (sc, bo) :: ws else (sc, bo) :: (sc, bo) :: ws, ps ++ [⟨actW (E.wd b), 0, 0, 0, actW (E.wd b), 0, 0, 0⟩]⟩) = some S' := h
  show RS.ok ws ps S'
  split at h
  · cases h
  split at h
  · unfold RE.rFact at h
    dsimp only at h
    split at h
    · cases h
    · cases e : E.rv bo (E.k1 (relW E.nr (E.wd b))) (E.sk (E.we b)) with
      | none => rw [e] at h; cases h
      | some x =>
        rw [e] at h
        dsimp only [Option.bind] at h
        split at h
        · exact ok_some hw h
        · split at h
          · cases h
          · exact ok_some hw h
  split at h
  · unfold RE.rBind at h
    split at h
    · cases h
    · rename_i hd
      cases e : E.rn (actW (E.wd b)) (E.sk (E.we b)) with
      | none => rw [e] at h; cases h
      | some c =>
        rw [e] at h
        dsimp only [Option.bind] at h
        split at h
        · cases h
        · split at h
          · cases h
          · rename_i hv hk
            obtain rfl := Option.some.inj h
            have v1 := varW_rg (E.wd c.2)
            have k1 := kindW_rg (E.wd (E.sk (E.we c.2)))
            refine ⟨fun x hx => ?_, (show ws.length + 1 ≤ ws.length + 2 by omega), len1 ps _⟩
            rcases List.mem_cons.mp hx with hx | hx
            · subst hx
              exact hs.step (by omega) ⟨by omega, by omega⟩ ⟨by omega, by omega⟩
            · exact hw x hx
  split at h
  · unfold RE.rSame at h
    cases e : E.rv bo (-1) (E.sk (E.we b)) with
    | none => rw [e] at h; cases h
    | some x =>
      rw [e] at h
      dsimp only [Option.bind] at h
      split at h
      · cases h
      · exact ok_some hw h
  split at h
  · unfold RE.rReach at h
    cases e : E.rRoad (E.sk (E.we b)) with
    | none => rw [e] at h; cases h
    | some r =>
      rw [e] at h
      dsimp only [Option.bind] at h
      split at h
      · cases h
      · rename_i x hx
        dsimp only at h
        split at h
        · cases h
        · exact ok_some hw h
  split at h
  · unfold RE.rTree at h
    cases e : E.rRoad (E.sk (E.we b)) with
    | none => rw [e] at h; cases h
    | some r =>
      rw [e] at h
      exact ok_some hw h
  · obtain rfl := Option.some.inj h
    refine ⟨fun x hx => ?_, ?_, len1 ps _⟩
    · have hx : x ∈ (if actW (E.wd b) = 4 then (sc, bo) :: ws else (sc, bo) :: (sc, bo) :: ws) := hx
      have : x = (sc, bo) ∨ x ∈ ws := by
        split at hx
        · exact List.mem_cons.mp hx
        · rcases List.mem_cons.mp hx with z | z
          · exact Or.inl z
          · exact List.mem_cons.mp z
      rcases this with z | z
      · subst z; exact hs
      · exact hw x z
    · show (if actW (E.wd b) = 4 then (sc, bo) :: ws else (sc, bo) :: (sc, bo) :: ws).length ≤ _
      split
      · simp
      · simp
