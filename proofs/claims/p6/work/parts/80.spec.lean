/-! ===== texts, as both sides read them ===== -/
abbrev RE : Type := (Int → Int) × Int × Int × (Int → Int) × (Int → Int)
def RE.t (E : RE) : Int → Int := E.1
def RE.n (E : RE) : Int := E.2.1
def RE.nr (E : RE) : Int := E.2.2.1
def RE.k1 (E : RE) : Int → Int := E.2.2.2.1
def RE.k2 (E : RE) : Int → Int := E.2.2.2.2
/-- the first place from p on where P ends -/
def ru (P : Int → Bool) : Nat → Int → Int
  | 0, p => p
  | k + 1, p => if P p = true then ru P k (p + 1) else p
theorem ru_eq {P : Int → Bool} : ∀ (k : Nat) (p q : Int), p ≤ q → q - p ≤ (k : Int) → (∀ i, p ≤ i → i < q → P i = true) → P q = false → ru P k p = q := by
  intro k
  induction k with
  | zero =>
    intro p q h1 h2 h3 h4
    show p = q
    omega
  | succ k ih =>
    intro p q h1 h2 h3 h4
    show (if P p = true then ru P k (p + 1) else p) = q
    by_cases e : p = q
    · subst e
      rw [if_neg (by rw [h4]; decide)]
    · rw [if_pos (h3 p (Int.le_refl _) (by omega))]
      exact ih (p + 1) q (by omega) (by omega) (fun i i0 i1 => h3 i (by omega) i1) h4
theorem ru_spec {P : Int → Bool} {n : Int} (hn : ∀ i, P i = true → i < n) : ∀ (k : Nat) (p : Int), n - p ≤ (k : Int) → p ≤ ru P k p ∧ (∀ i, p ≤ i → i < ru P k p → P i = true) ∧ P (ru P k p) = false ∧ (ru P k p ≤ n ∨ ru P k p = p) := by
  intro k
  induction k with
  | zero =>
    intro p h
    refine ⟨Int.le_refl _, fun i i0 i1 => ?_, ?_, Or.inr rfl⟩
    · have i1 : i < p := i1
      exact absurd i1 (by omega)
    · show P p = false
      cases e : P p with
      | false => rfl
      | true => have := hn p e; exfalso; omega
  | succ k ih =>
    intro p h
    have e0 : ru P (k + 1) p = if P p = true then ru P k (p + 1) else p := rfl
    by_cases e : P p = true
    · rw [e0, if_pos e]
      obtain ⟨a1, a2, a3, a4⟩ := ih (p + 1) (by omega)
      refine ⟨by omega, fun i i0 i1 => ?_, a3, ?_⟩
      · by_cases z : i = p
        · rw [z]; exact e
        · exact a2 i (by omega) i1
      · have := hn p e
        rcases a4 with a4 | a4
        · exact Or.inl a4
        · left; omega
    · rw [e0, if_neg e]
      refine ⟨Int.le_refl _, fun i i0 i1 => absurd i1 (by omega), ?_, Or.inr rfl⟩
      cases z : P p with
      | false => rfl
      | true => exact absurd z e
section
variable (E : RE)
def RE.blk (p : Int) : Bool := decide (p < E.n ∧ (E.t p = 10 ∨ E.t p = 32))
def RE.let' (p : Int) : Bool := decide (p < E.n ∧ 97 ≤ E.t p ∧ E.t p ≤ 122)
def RE.dig (p : Int) : Bool := decide (p < E.n ∧ 48 ≤ E.t p ∧ E.t p ≤ 57)
def RE.sk (p : Int) : Int := ru E.blk 400 p
def RE.we (p : Int) : Int := ru E.let' 400 p
def RE.de (p : Int) : Int := ru E.dig 400 p
/-- the bytes of a word -/
def RE.wd (b : Int) : List Int := (List.range (E.we b - b).toNat).map (fun (i : Nat) => E.t (b + (i : Int)))
/-- the value of the digits from b, k of them -/
def RE.val (b : Int) : Nat → Int
  | 0 => 0
  | k + 1 => 10 * RE.val b k + E.t (b + (k : Int)) - 48
end
def actW (w : List Int) : Int :=
  if w = [97, 108, 108] then 0 else if w = [115, 111, 109, 101] then 1 else if w = [108, 101, 97, 115, 116] then 2 else if w = [109, 111, 115, 116] then 3 else if w = [110, 111, 116] then 4 else if w = [97, 110, 100] then 5 else if w = [111, 114] then 6 else if w = [105, 102] then 7 else if w = [115, 97, 109, 101] then 8 else if w = [114, 101, 97, 99, 104] then 9 else if w = [116, 114, 101, 101] then 10 else -1
def varW (w : List Int) : Int := if w = [120] then 0 else if w = [121] then 1 else if w = [122] then 2 else if w = [119] then 3 else -1
def kindW (w : List Int) : Int := if w = [109, 97, 110] then 0 else if w = [104, 111, 117, 115, 101] then 1 else if w = [100, 97, 121] then 2 else -1
def relW (nr : Int) (w : List Int) : Int :=
  let r : Int := if w = [114] then 0 else if w = [115] then 1 else if w = [116] then 2 else if w = [117] then 3 else -1
  if nr ≤ r then -1 else r
/-- the class's number of a variable: w x y z -/
def cv (v : Int) : Int := if v = 3 then 0 else v + 1
def bnd (bo v : Int) : Int := let k := iand (ishr bo (wI (2 * v))) 3; if k = 3 then -1 else k
def cbd (sc v : Int) : Int := iand (ishr sc (wI (4 * cv v))) 15
def slt (sc v : Int) : Int := ishr (wI (cbd sc v - 1)) 2
def bindC (sc v k s : Int) : Int := ior (ior (iand (iand sc 65535) (ixor (ishl 15 (wI (4 * v))) (-1))) (ishl (wI (wI (1 + k) + wI (4 * s))) (wI (4 * v)))) (ishl (wI (ishr sc 16 + 1)) 16)
def bindR (bo v k : Int) : Int := wI (ior (iand bo (ixor (ishl 3 (wI (2 * v))) (-1))) (ishl k (wI (2 * v))) + 256)
abbrev Row : Type := Int × Int × Int × Int × Int × Int × Int × Int
def Row.c0 (r : Row) : Int := r.1
def Row.c1 (r : Row) : Int := r.2.1
def Row.c2 (r : Row) : Int := r.2.2.1
def Row.c3 (r : Row) : Int := r.2.2.2.1
def Row.r0 (r : Row) : Int := r.2.2.2.2.1
def Row.r1 (r : Row) : Int := r.2.2.2.2.2.1
def Row.r2 (r : Row) : Int := r.2.2.2.2.2.2.1
def Row.r3 (r : Row) : Int := r.2.2.2.2.2.2.2
abbrev RS : Type := Int × List (Int × Int) × List Row
def RS.b (S : RS) : Int := S.1
def RS.ws (S : RS) : List (Int × Int) := S.2.1
def RS.ps (S : RS) : List Row := S.2.2
section
variable (E : RE)
/-- a variable that must be bound, as this kind where one is given: its number, and the next token's place -/
def RE.rv (bo kind b : Int) : Option (Int × Int) :=
  let v := varW (E.wd b)
  if v = -1 then none else if bnd bo v = -1 then none else if ¬ kind = -1 ∧ ¬ bnd bo v = kind then none else some (v, E.sk (E.we b))
def RE.rn (a b : Int) : Option (Int × Int) :=
  if a < 2 then some (0, b) else if E.dig b = true ∧ E.de b - b ≤ 4 then some (E.val b (E.de b - b).toNat, E.sk (E.de b)) else none
def RE.rBind (a sc bo : Int) (ws : List (Int × Int)) (ps : List Row) (b : Int) : Option RS :=
  if 4 ≤ ishr sc 16 then none else
  (E.rn a (E.sk (E.we b))).bind fun c =>
  let v := varW (E.wd c.2)
  if v = -1 then none else
  let b3 := E.sk (E.we c.2)
  let k := kindW (E.wd b3)
  if k = -1 then none else
  some ⟨E.sk (E.we b3), (bindC sc (cv v) k (ishr sc 16), bindR bo v k) :: ws, ps ++ [⟨a, c.1, ishr sc 16, k, a, v, k, c.1⟩]⟩
def RE.rSame (sc bo : Int) (ws : List (Int × Int)) (ps : List Row) (b : Int) : Option RS :=
  (E.rv bo (-1) (E.sk (E.we b))).bind fun x =>
  (E.rv bo (bnd bo x.1) x.2).bind fun y =>
  some ⟨y.2, ws, ps ++ [⟨8, 0, slt sc x.1, slt sc y.1, 8, x.1, y.1, 0⟩]⟩
/-- the relation of reach and tree -/
def RE.rRoad (b : Int) : Option (Int × Int) :=
  let r := relW E.nr (E.wd b)
  if r = -1 then none else if ¬ E.k2 r = E.k1 r then none else some (r, E.sk (E.we b))
def RE.rReach (sc bo : Int) (ws : List (Int × Int)) (ps : List Row) (b : Int) : Option RS :=
  (E.rRoad (E.sk (E.we b))).bind fun r =>
  (E.rv bo (E.k1 r.1) r.2).bind fun x =>
  (E.rv bo (E.k2 r.1) x.2).bind fun y =>
  some ⟨y.2, ws, ps ++ [⟨9, r.1, slt sc x.1, slt sc y.1, 9, r.1, x.1, y.1⟩]⟩
def RE.rTree (ws : List (Int × Int)) (ps : List Row) (b : Int) : Option RS :=
  (E.rRoad (E.sk (E.we b))).bind fun r => some ⟨r.2, ws, ps ++ [⟨10, r.1, 0, 0, 10, r.1, 0, 0⟩]⟩
def RE.rFact (sc bo : Int) (ws : List (Int × Int)) (ps : List Row) (b : Int) : Option RS :=
  let r := relW E.nr (E.wd b)
  if r = -1 then none else
  (E.rv bo (E.k1 r) (E.sk (E.we b))).bind fun x =>
  if E.k2 r = -1 then some ⟨x.2, ws, ps ++ [⟨11, r, slt sc x.1, 0, 11, r, x.1, 0⟩]⟩ else
  (E.rv bo (E.k2 r) x.2).bind fun y =>
  some ⟨y.2, ws, ps ++ [⟨11, r, slt sc x.1, slt sc y.1, 12, r, x.1, y.1⟩]⟩
/-- one part; none: a fault, whichever -/
def RE.rPart (S : RS) : Option RS :=
  match S.ws with
  | [] => none
  | (sc, bo) :: ws =>
    if 40 ≤ S.ps.length then none else
    let a := actW (E.wd S.b)
    if a = -1 then E.rFact sc bo ws S.ps S.b
    else if a ≤ 3 then E.rBind a sc bo ws S.ps S.b
    else if a = 8 then E.rSame sc bo ws S.ps S.b
    else if a = 9 then E.rReach sc bo ws S.ps S.b
    else if a = 10 then E.rTree ws S.ps S.b
    else some ⟨E.sk (E.we S.b), if a = 4 then (sc, bo) :: ws else (sc, bo) :: (sc, bo) :: ws, S.ps ++ [⟨a, 0, 0, 0, a, 0, 0, 0⟩]⟩
def RE.rLoop : Nat → RS → Option RS
  | 0, _ => none
  | k + 1, S => if S.ws = [] then some S else (E.rPart S).bind (RE.rLoop k)
def RE.rText : Option (List Row) := (E.rLoop 42 ⟨E.sk 0, [(0, 255)], []⟩).bind fun S => if E.n ≤ S.b then some S.ps else none
end
