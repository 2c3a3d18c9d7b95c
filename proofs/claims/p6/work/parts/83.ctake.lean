/-! ===== what the class takes from a tape ===== -/
def fst8 (nr : Int) (w : List Int) : Int := if actW w = -1 then (if relW nr w = -1 then -1 else 11) else actW w
theorem fst8_a {nr a : Int} {w : List Int} (h : actW w = a) (ha : ¬ a = -1) : fst8 nr w = a := by
  unfold fst8; rw [if_neg (by rw [h]; exact ha)]; exact h
theorem l1_ne {c d : Int} (h : ¬ c = d) : ¬ ([c] : List Int) = [d] := fun z => h (List.cons.inj z).1
theorem relW_in {nr c : Int} (hn : nr ≤ 4) (h : 0 ≤ c - 114 ∧ c - 114 < nr) : relW nr [c] = c - 114 := by
  have : c = 114 ∨ c = 115 ∨ c = 116 ∨ c = 117 := by omega
  rcases this with e | e | e | e <;> subst e
  · exact (show relW nr [114] = if nr ≤ 0 then -1 else 0 from rfl).trans (if_neg (by omega))
  · exact (show relW nr [115] = if nr ≤ 1 then -1 else 1 from rfl).trans (if_neg (by omega))
  · exact (show relW nr [116] = if nr ≤ 2 then -1 else 2 from rfl).trans (if_neg (by omega))
  · exact (show relW nr [117] = if nr ≤ 3 then -1 else 3 from rfl).trans (if_neg (by omega))
theorem relW_out {nr c : Int} (h0 : 0 ≤ nr) (h : ¬ (0 ≤ c - 114 ∧ c - 114 < nr)) : relW nr [c] = -1 := by
  by_cases e0 : c = 114
  · subst e0; exact (show relW nr [114] = if nr ≤ 0 then -1 else 0 from rfl).trans (if_pos (by omega))
  by_cases e1 : c = 115
  · subst e1; exact (show relW nr [115] = if nr ≤ 1 then -1 else 1 from rfl).trans (if_pos (by omega))
  by_cases e2 : c = 116
  · subst e2; exact (show relW nr [116] = if nr ≤ 2 then -1 else 2 from rfl).trans (if_pos (by omega))
  by_cases e3 : c = 117
  · subst e3; exact (show relW nr [117] = if nr ≤ 3 then -1 else 3 from rfl).trans (if_pos (by omega))
  unfold relW
  rw [if_neg (l1_ne e0), if_neg (l1_ne e1), if_neg (l1_ne e2), if_neg (l1_ne e3)]
  exact if_neg (by show ¬ nr ≤ -1; omega)
theorem relW_no {nr : Int} {w : List Int} (h0 : 0 ≤ nr) (h : ∀ c, ¬ w = [c]) : relW nr w = -1 := by
  unfold relW
  rw [if_neg (h _), if_neg (h _), if_neg (h _), if_neg (h _)]
  exact if_neg (by show ¬ nr ≤ -1; omega)
theorem varW_in {c : Int} (h : 119 ≤ c ∧ c ≤ 122) : ¬ varW [c] = -1 ∧ cv (varW [c]) = c - 119 ∧ 0 ≤ varW [c] ∧ varW [c] ≤ 3 := by
  have : c = 119 ∨ c = 120 ∨ c = 121 ∨ c = 122 := by omega
  rcases this with e | e | e | e <;> subst e <;> decide
theorem varW_out {c : Int} (h : ¬ (119 ≤ c ∧ c ≤ 122)) : varW [c] = -1 := by
  unfold varW
  rw [if_neg (l1_ne (by omega)), if_neg (l1_ne (by omega)), if_neg (l1_ne (by omega)), if_neg (l1_ne (by omega))]
theorem varW_no {w : List Int} (h : ∀ c, ¬ w = [c]) : varW w = -1 := by
  unfold varW
  rw [if_neg (h _), if_neg (h _), if_neg (h _), if_neg (h _)]
/-- a fault is told -/
def Z2 (M : Mem) : Prop := AC M ∧ BFI M ∧ ¬ mG M 3 6 = 0
/-- none is told; the token at b is taken -/
def C2 (E : RE) (b : Int) (M : Mem) : Prop := CE E M ∧ BFI M ∧ mG M 3 6 = 0 ∧ CTok E b M
section
variable {E : RE} {M : Mem}
theorem Z2.t {M' : Mem} (h : Z2 M) (t : T2 M M') : Z2 M' := ⟨t.ac h.1, t.2.2 h.2.1, t.2.1 h.2.2⟩
theorem C2.br {b : Int} (h : C2 E b M) : mG M 65 4 = 0 := by
  by_cases e : mG M 65 4 = 0
  · exact e
  · exact absurd h.2.2.1 (h.2.1 e)
theorem C2.ac {b : Int} (h : C2 E b M) : AC M := h.1.1
theorem AF.c2 {b b' : Int} {M' : Mem} (a : AF M M') (h : C2 E b M) (ct : CTok E b' M') : C2 E b' M' :=
  ⟨a.ce h.1, fun z => by rw [a.1 3 6 (by omega)]; exact h.2.1 (by rw [← a.1 65 4 (by omega)]; exact z), (a.1 3 6 (by omega)).trans h.2.2.1, ct⟩
theorem q_refuse (ha : AC M) (hb : BFI M) : pw (mX2_refuse 65 M) (fun q => Z2 q.2 ∧ ¬ mG q.2 65 4 = 0) :=
  p_mono (pu_refuse ha) (fun q z => ⟨⟨z.1.ac ha, z.1.2.2 hb, z.2.1 hb⟩, z.2.2⟩)
theorem q_note {a b : Int} (ha : AC M) (hb : BFI M) (h : ¬ a = 0) : pw (mX2_note 65 a b M) (fun q => Z2 q.2) :=
  p_mono (pu_note ha h) (fun q z => ⟨z.1.ac ha, z.1.2.2 hb, z.2⟩)
theorem q_adv {b e : Int} (h : C2 E b M) (h10 : mG M 65 10 = e) (he : 0 ≤ e ∧ e ≤ E.n) : pw (mX2_advance 65 M) (fun q => AF M q.2 ∧ C2 E (E.sk e) q.2) :=
  p_mono (q_advance h.1 h10 he) (fun q z => ⟨z.1, z.1.c2 h z.2⟩)
theorem p_isw8 {β : Type} {Q : β → Prop} {b w : Int} {L : List Int} {f : Int × Mem → Option β} (ce : CE E M) (ct : CTok E b M) (hl : sLn w = some (L.length : Int)) (ha : ∀ i : Nat, i < L.length → sAt w (i : Int) = some (L.getD i 0)) (h5 : 0 < L.length ∧ L.length ≤ 5) (k1 : E.wd b = L → pw (f (1, M)) Q) (k0 : ¬ E.wd b = L → pw (f (0, M)) Q) : pw ((gK 2 M 65).bind fun _ => (mX2_isWord 65 w M).bind f) Q := by
  refine p_gK (p_call (q_isWord ce ct hl ha h5) (fun r M1 h => ?_))
  obtain ⟨h, e⟩ := h
  have e : M1 = M := e
  subst e
  rcases h with ⟨h, hr⟩ | ⟨h, hr⟩
  · have hr : r = 1 := hr
    subst hr; exact k1 h
  · have hr : r = 0 := hr
    subst hr; exact k0 h
theorem q_firstWord {b : Int} (ce : CE E M) (ct : CTok E b M) : pw (mX2_firstWord 65 M) (fun q => q.1 = fst8 E.nr (E.wd b) ∧ q.2 = M) := by
  unfold mX2_firstWord
  refine p_isw8 (L := [97, 108, 108]) ce ct (by decide) (by decide +kernel) (by decide) (fun h => p_it0 (show ¬ (1 : Int) = 0 by decide) (p_ret ⟨(fst8_a (a := 0) (by rw [h]; decide) (by decide)).symm, rfl⟩)) (fun h0 => p_it1 (show (0 : Int) = 0 from rfl) ?_)
  refine p_isw8 (L := [115, 111, 109, 101]) ce ct (by decide) (by decide +kernel) (by decide) (fun h => p_it0 (show ¬ (1 : Int) = 0 by decide) (p_ret ⟨(fst8_a (a := 1) (by rw [h]; decide) (by decide)).symm, rfl⟩)) (fun h1 => p_it1 (show (0 : Int) = 0 from rfl) ?_)
  refine p_isw8 (L := [108, 101, 97, 115, 116]) ce ct (by decide) (by decide +kernel) (by decide) (fun h => p_it0 (show ¬ (1 : Int) = 0 by decide) (p_ret ⟨(fst8_a (a := 2) (by rw [h]; decide) (by decide)).symm, rfl⟩)) (fun h2 => p_it1 (show (0 : Int) = 0 from rfl) ?_)
  refine p_isw8 (L := [109, 111, 115, 116]) ce ct (by decide) (by decide +kernel) (by decide) (fun h => p_it0 (show ¬ (1 : Int) = 0 by decide) (p_ret ⟨(fst8_a (a := 3) (by rw [h]; decide) (by decide)).symm, rfl⟩)) (fun h3 => p_it1 (show (0 : Int) = 0 from rfl) ?_)
  refine p_isw8 (L := [110, 111, 116]) ce ct (by decide) (by decide +kernel) (by decide) (fun h => p_it0 (show ¬ (1 : Int) = 0 by decide) (p_ret ⟨(fst8_a (a := 4) (by rw [h]; decide) (by decide)).symm, rfl⟩)) (fun h4 => p_it1 (show (0 : Int) = 0 from rfl) ?_)
  refine p_isw8 (L := [97, 110, 100]) ce ct (by decide) (by decide +kernel) (by decide) (fun h => p_it0 (show ¬ (1 : Int) = 0 by decide) (p_ret ⟨(fst8_a (a := 5) (by rw [h]; decide) (by decide)).symm, rfl⟩)) (fun h5 => p_it1 (show (0 : Int) = 0 from rfl) ?_)
  refine p_isw8 (L := [111, 114]) ce ct (by decide) (by decide +kernel) (by decide) (fun h => p_it0 (show ¬ (1 : Int) = 0 by decide) (p_ret ⟨(fst8_a (a := 6) (by rw [h]; decide) (by decide)).symm, rfl⟩)) (fun h6 => p_it1 (show (0 : Int) = 0 from rfl) ?_)
  refine p_isw8 (L := [105, 102]) ce ct (by decide) (by decide +kernel) (by decide) (fun h => p_it0 (show ¬ (1 : Int) = 0 by decide) (p_ret ⟨(fst8_a (a := 7) (by rw [h]; decide) (by decide)).symm, rfl⟩)) (fun h7 => p_it1 (show (0 : Int) = 0 from rfl) ?_)
  refine p_isw8 (L := [115, 97, 109, 101]) ce ct (by decide) (by decide +kernel) (by decide) (fun h => p_it0 (show ¬ (1 : Int) = 0 by decide) (p_ret ⟨(fst8_a (a := 8) (by rw [h]; decide) (by decide)).symm, rfl⟩)) (fun h8 => p_it1 (show (0 : Int) = 0 from rfl) ?_)
  refine p_isw8 (L := [114, 101, 97, 99, 104]) ce ct (by decide) (by decide +kernel) (by decide) (fun h => p_it0 (show ¬ (1 : Int) = 0 by decide) (p_ret ⟨(fst8_a (a := 9) (by rw [h]; decide) (by decide)).symm, rfl⟩)) (fun h9 => p_it1 (show (0 : Int) = 0 from rfl) ?_)
  refine p_isw8 (L := [116, 114, 101, 101]) ce ct (by decide) (by decide +kernel) (by decide) (fun h => p_it0 (show ¬ (1 : Int) = 0 by decide) (p_ret ⟨(fst8_a (a := 10) (by rw [h]; decide) (by decide)).symm, rfl⟩)) (fun h10 => p_it1 (show (0 : Int) = 0 from rfl) ?_)
  have no : actW (E.wd b) = -1 := by
    unfold actW
    rw [if_neg h0, if_neg h1, if_neg h2, if_neg h3, if_neg h4, if_neg h5, if_neg h6, if_neg h7, if_neg h8, if_neg h9, if_neg h10]
  have nr := ce.2.2.2.2.2.1
  refine p_gFc (ji := 3) rfl ce.1.2.2.1 (p_gK (p_call (q_oneLetter ce ct) (fun r M1 h => ?_)))
  obtain ⟨h, e⟩ := h
  have e : M1 = M := e
  subst e
  refine p_gK (p_call pu_hasRelation (fun r2 M2 g => ?_))
  obtain ⟨e, g⟩ := g
  have e : M2 = M1 := e
  subst e
  have hr : 0 ≤ r ∧ r ≤ 122 := by
    rcases h with ⟨_, x, y⟩ | ⟨x, _⟩
    · exact ⟨by omega, y⟩
    · exact ⟨Int.le_of_eq x.symm, by have x : r = 0 := x; omega⟩
  rw [wI_id (x := r - 114) (by omega) (by omega), ce.2.2.2.2.1] at g
  unfold fst8
  rw [if_pos no]
  rcases g with ⟨g, g2⟩ | ⟨g, g2⟩
  · have g : r2 = 0 := g
    subst g
    refine p_it1 (show (0 : Int) = 0 from rfl) (p_ret ⟨?_, rfl⟩)
    rcases h with ⟨x, _⟩ | ⟨_, x⟩
    · have x : E.wd b = [r] := x
      rw [x, if_pos (relW_out nr.1 g2)]
    · rw [if_pos (relW_no nr.1 x)]
  · have g : r2 = 1 := g
    subst g
    refine p_it0 (show ¬ (1 : Int) = 0 by decide) (p_ret ⟨?_, rfl⟩)
    rcases h with ⟨x, _⟩ | ⟨x, _⟩
    · have x : E.wd b = [r] := x
      rw [x, relW_in nr.2 g2, if_neg (by omega)]
    · have x : r = 0 := x
      exact absurd g2.1 (by omega)
theorem CTok.we {b : Int} (ce : CE E M) (ct : CTok E b M) (h : ¬ E.wd b = []) : mG M 65 10 = E.we b ∧ 0 ≤ E.we b ∧ E.we b ≤ E.n := by
  have hn := ce.2.2.1
  have hb := ct.2.1
  rcases ct.wd ce with ⟨g1, g2, g3⟩ | ⟨g1, g2⟩
  · have gt := RE.we_gt hb.1 hn.2 g2
    obtain ⟨_, _, _, w4⟩ := E.we_spec b hb.1 hn.2
    exact ⟨g3, by omega, by omega⟩
  · exact absurd (RE.wd_nil hb.1 hn.2 g2) h
theorem q_takeVariable {b : Int} (h : C2 E b M) : pw (mX2_takeVariable 65 M) (fun q => (Z2 q.2 ∧ varW (E.wd b) = -1) ∨ (¬ varW (E.wd b) = -1 ∧ q.1 = cv (varW (E.wd b)) ∧ (0 ≤ varW (E.wd b) ∧ varW (E.wd b) ≤ 3) ∧ AF M q.2 ∧ C2 E (E.sk (E.we b)) q.2)) := by
  unfold mX2_takeVariable
  refine p_gK (p_call (q_oneLetter h.1 h.2.2.2) (fun r M1 g => ?_))
  obtain ⟨g, e⟩ := g
  have e : M1 = M := e
  subst e
  have vb : r < 119 ∨ 122 < r → varW (E.wd b) = -1 := fun hh => by
    rcases g with ⟨g, _⟩ | ⟨_, g⟩
    · have g : E.wd b = [r] := g
      rw [g]; exact varW_out (by omega)
    · exact varW_no g
  have bad : ∀ l, varW (E.wd b) = -1 → pw (mX2_takeVariable_17 65 l M1) (fun q => (Z2 q.2 ∧ varW (E.wd b) = -1) ∨ (¬ varW (E.wd b) = -1 ∧ q.1 = cv (varW (E.wd b)) ∧ (0 ≤ varW (E.wd b) ∧ varW (E.wd b) ≤ 3) ∧ AF M1 q.2 ∧ C2 E (E.sk (E.we b)) q.2)) := fun l vv => by
    unfold mX2_takeVariable_17
    refine p_gK (p_call (q_refuse h.ac h.2.1) (fun r M2 z => ?_))
    unfold mX2_takeVariable_21
    exact p_gF (ji := 4) rfl (fun v hv => p_it0 (fun y => z.2 (hv.trans y)) (p_ret (Or.inl ⟨z.1, vv⟩)))
  refine p_if (fun cc => bad _ (vb (Or.inl cc))) (fun c => p_if (fun c2 => ?_) (fun cc => bad _ (vb (Or.inr (by have cc : ¬ r ≤ 122 := cc; omega)))))
  have c : ¬ r < 119 := c
  have c2 : r ≤ 122 := c2
  rcases g with ⟨g, _⟩ | ⟨g, _⟩
  · have g : E.wd b = [r] := g
    obtain ⟨v1, v2, v3⟩ := varW_in (c := r) ⟨by omega, c2⟩
    obtain ⟨w1, w2⟩ := h.2.2.2.we h.1 (by rw [g]; exact fun z => by cases z)
    unfold mX2_takeVariable_21
    refine p_gFc (ji := 4) rfl h.br (p_it1 rfl (p_gK (p_call (q_adv h w1 w2) (fun r2 M2 z => p_ret (Or.inr ?_)))))
    rw [g, wI_id (x := r - 119) (by omega) (by omega)]
    exact ⟨v1, v2.symm, v3, z⟩
  · have g : r = 0 := g
    exact absurd c (by omega)
theorem q_takeKind {b : Int} (h : C2 E b M) : pw (mX2_takeKind 65 M) (fun q => (Z2 q.2 ∧ kindW (E.wd b) = -1) ∨ (¬ kindW (E.wd b) = -1 ∧ q.1 = kindW (E.wd b) ∧ (0 ≤ q.1 ∧ q.1 ≤ 2) ∧ AF M q.2 ∧ C2 E (E.sk (E.we b)) q.2)) := by
  have good : ∀ k : Int, ¬ E.wd b = [] → kindW (E.wd b) = k → (0 ≤ k ∧ k ≤ 2) → pw (mX2_takeKind_48 65 k M) (fun q => (Z2 q.2 ∧ kindW (E.wd b) = -1) ∨ (¬ kindW (E.wd b) = -1 ∧ q.1 = kindW (E.wd b) ∧ (0 ≤ q.1 ∧ q.1 ≤ 2) ∧ AF M q.2 ∧ C2 E (E.sk (E.we b)) q.2)) := fun k hw hk k0 => by
    obtain ⟨w1, w2⟩ := h.2.2.2.we h.1 hw
    unfold mX2_takeKind_48
    exact p_gFc (ji := 4) rfl h.br (p_it1 rfl (p_gK (p_call (q_adv h w1 w2) (fun r2 M2 z => p_ret (Or.inr ⟨by omega, hk.symm, k0, z⟩)))))
  unfold mX2_takeKind
  refine p_isw8 (L := [109, 97, 110]) h.1 h.2.2.2 (by decide) (by decide +kernel) (by decide) (fun g => p_it0 (show ¬ (1 : Int) = 0 by decide) (good 0 (by rw [g]; exact fun z => by cases z) (by rw [g]; decide) (by decide))) (fun g1 => p_it1 (show (0 : Int) = 0 from rfl) ?_)
  refine p_isw8 (L := [104, 111, 117, 115, 101]) h.1 h.2.2.2 (by decide) (by decide +kernel) (by decide) (fun g => p_it0 (show ¬ (1 : Int) = 0 by decide) (good 1 (by rw [g]; exact fun z => by cases z) (by rw [g]; decide) (by decide))) (fun g2 => p_it1 (show (0 : Int) = 0 from rfl) ?_)
  refine p_isw8 (L := [100, 97, 121]) h.1 h.2.2.2 (by decide) (by decide +kernel) (by decide) (fun g => p_it0 (show ¬ (1 : Int) = 0 by decide) (good 2 (by rw [g]; exact fun z => by cases z) (by rw [g]; decide) (by decide))) (fun g0 => p_it1 (show (0 : Int) = 0 from rfl) ?_)
  refine p_gK (p_call (q_refuse h.ac h.2.1) (fun r M2 z => ?_))
  unfold mX2_takeKind_48
  exact p_gF (ji := 4) rfl (fun v hv => p_it0 (fun y => z.2 (hv.trans y)) (p_ret (Or.inl ⟨z.1, by unfold kindW; rw [if_neg g1, if_neg g2, if_neg g0]⟩)))
theorem q_takeNumber {b : Int} (h : C2 E b M) : pw (mX2_takeNumber 65 M) (fun q => (Z2 q.2 ∧ ¬ E.dig b = true) ∨ (E.dig b = true ∧ AF M q.2 ∧ ((E.de b - b ≤ 4 ∧ q.1 = E.val b (E.de b - b).toNat ∧ C2 E (E.sk (E.de b)) q.2) ∨ (¬ E.de b - b ≤ 4 ∧ C2 E (b + 4) q.2 ∧ E.wd (b + 4) = [])))) := by
  have hn := h.1.2.2.1
  have hb := h.2.2.2.2.1
  obtain ⟨d1, d2, d3, d4⟩ := E.de_spec b hb.1 hn.2
  unfold mX2_takeNumber
  refine p_gF (ji := 8) rfl (fun v hv => p_if (fun c => ?_) (fun c => ?_))
  · obtain ⟨_, _, t⟩ := h.2.2.2
    have t : E.dig b = true ∧ (E.de b - b ≤ 4 → mG M 65 10 = E.de b ∧ mG M 65 11 = E.val b (E.de b - b).toNat) ∧ (¬ E.de b - b ≤ 4 → E.dig (b + 4) = true ∧ mG M 65 10 = b + 4) := by
      rcases t with ⟨_, e⟩ | ⟨_, e, _⟩ | ⟨g, _, x, y⟩ | ⟨_, _, _, e⟩
      · exfalso; omega
      · exfalso; omega
      · exact ⟨g, x, y⟩
      · exfalso; omega
    obtain ⟨g, x, y⟩ := t
    have lt := RE.digT g
    have d5 : E.de b ≤ E.n := by
      rcases d4 with d4 | d4
      · exact d4
      · omega
    unfold mX2_takeNumber_12
    refine p_gFc (ji := 4) rfl h.br (p_it1 rfl ?_)
    by_cases c4 : E.de b - b ≤ 4
    · obtain ⟨x1, x2⟩ := x c4
      exact p_gFc (ji := 11) rfl x2 (p_gK (p_call (q_adv h x1 ⟨by omega, d5⟩) (fun r2 M2 z => p_ret (Or.inr ⟨g, z.1, Or.inl ⟨c4, rfl, z.2⟩⟩))))
    · obtain ⟨y1, y2⟩ := y c4
      have l4 := RE.digT y1
      have s4 : E.sk (b + 4) = b + 4 := ru_eq 400 (b + 4) (b + 4) (Int.le_refl _) (by omega) (fun i i0 i1 => absurd i1 (by omega)) (decide_eq_false (by omega))
      refine p_gF (ji := 11) rfl (fun v2 _ => p_gK (p_call (q_adv h y2 ⟨by omega, by omega⟩) (fun r2 M2 z => p_ret (Or.inr ⟨g, z.1, Or.inr ⟨c4, ?_, ?_⟩⟩))))
      · have := z.2; rw [s4] at this; exact this
      · exact RE.wd_nil (by omega) hn.2 (decide_eq_false (by omega))
  · refine p_gK (p_call (q_refuse h.ac h.2.1) (fun r M2 z => ?_))
    unfold mX2_takeNumber_12
    have nd : ¬ E.dig b = true := fun y => by
      have := RE.digT y
      obtain ⟨_, _, t⟩ := h.2.2.2
      rcases t with ⟨e, _⟩ | ⟨e, _⟩ | ⟨_, e, _⟩ | ⟨_, _, e, _⟩
      · omega
      · have := RE.letT e; omega
      · exact c (hv.symm.trans e)
      · rw [e] at y; cases y
    exact p_gF (ji := 4) rfl (fun v hv => p_it0 (fun y => z.2 (hv.trans y)) (p_ret (Or.inl ⟨z.1, nd⟩)))
theorem q_takeRelation {b : Int} (h : C2 E b M) : pw (mX2_takeRelation 65 M) (fun q => (Z2 q.2 ∧ relW E.nr (E.wd b) = -1) ∨ (¬ relW E.nr (E.wd b) = -1 ∧ q.1 = relW E.nr (E.wd b) ∧ (0 ≤ q.1 ∧ q.1 < E.nr) ∧ AF M q.2 ∧ C2 E (E.sk (E.we b)) q.2)) := by
  have nr := h.1.2.2.2.2.2.1
  unfold mX2_takeRelation
  refine p_gK (p_call (q_oneLetter h.1 h.2.2.2) (fun r M1 g => ?_))
  obtain ⟨g, e⟩ := g
  have e : M1 = M := e
  subst e
  refine p_gFc (ji := 3) rfl h.ac.2.2.1 (p_gK (p_call pu_hasRelation (fun r2 M2 g2 => ?_)))
  obtain ⟨e, g2⟩ := g2
  have e : M2 = M1 := e
  subst e
  have hr : 0 ≤ r ∧ r ≤ 122 := by
    rcases g with ⟨_, x, y⟩ | ⟨x, _⟩
    · exact ⟨by omega, y⟩
    · exact ⟨Int.le_of_eq x.symm, by have x : r = 0 := x; omega⟩
  rw [wI_id (x := r - 114) (by omega) (by omega), h.1.2.2.2.2.1] at g2
  rcases g2 with ⟨c, g2⟩ | ⟨c, g2⟩
  · have c : r2 = 0 := c
    subst c
    refine p_it1 (show (0 : Int) = 0 from rfl) (p_gK (p_call (q_refuse h.ac h.2.1) (fun r3 M3 z => ?_)))
    unfold mX2_takeRelation_23
    have nw : relW E.nr (E.wd b) = -1 := by
      rcases g with ⟨g, _⟩ | ⟨_, g⟩
      · have g : E.wd b = [r] := g
        rw [g]; exact relW_out nr.1 g2
      · exact relW_no nr.1 g
    exact p_gF (ji := 4) rfl (fun v hv => p_it0 (fun y => z.2 (hv.trans y)) (p_ret (Or.inl ⟨z.1, nw⟩)))
  · have c : r2 = 1 := c
    subst c
    refine p_it0 (show ¬ (1 : Int) = 0 by decide) ?_
    rcases g with ⟨g, _⟩ | ⟨g, _⟩
    · have g : E.wd b = [r] := g
      obtain ⟨w1, w2⟩ := h.2.2.2.we h.1 (by rw [g]; exact fun z => by cases z)
      unfold mX2_takeRelation_23
      refine p_gFc (ji := 4) rfl h.br (p_it1 rfl (p_gK (p_call (q_adv h w1 w2) (fun r3 M3 z => p_ret (Or.inr ?_)))))
      rw [g, relW_in nr.2 g2, wI_id (x := r - 114) (by omega) (by omega)]
      exact ⟨by omega, rfl, g2, z⟩
    · have g : r = 0 := g
      exact absurd g2.1 (by omega)
end
