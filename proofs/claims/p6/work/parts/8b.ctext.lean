/-! ===== the class's text as it is kept ===== -/
/-- how many parts stand in a part -/
def ari (a : Int) : Nat := if a ≤ 4 then 1 else if a ≤ 7 then 2 else 0
theorem ari_le (a : Int) : ari a ≤ 2 := by
  unfold ari
  split
  · decide
  · split <;> decide
/-- what comes behind so many parts -/
def skp : Nat → List Row → List Row
  | 0, rs => rs
  | _ + 1, [] => []
  | n + 1, r :: rs => skp (n + ari r.c0) rs
theorem skp_nil (n : Nat) : skp n [] = [] := by cases n <;> rfl
theorem skp_zero (L : List Row) : skp 0 L = L := by cases L <;> rfl
theorem skp_len : ∀ (L : List Row) (n : Nat), (skp n L).length ≤ L.length ∧ skp n L = L.drop (L.length - (skp n L).length) := by
  intro L
  induction L with
  | nil => intro n; rw [skp_nil]; exact ⟨Nat.le_refl _, rfl⟩
  | cons r rs ih =>
    intro n
    cases n with
    | zero => rw [skp_zero]; exact ⟨Nat.le_refl _, by rw [Nat.sub_self]; rfl⟩
    | succ n =>
      obtain ⟨a, b⟩ := ih (n + ari r.c0)
      have e : skp (n + 1) (r :: rs) = skp (n + ari r.c0) rs := rfl
      rw [e]
      refine ⟨by rw [List.length_cons]; omega, ?_⟩
      rw [List.length_cons, show rs.length + 1 - (skp (n + ari r.c0) rs).length = (rs.length - (skp (n + ari r.c0) rs).length) + 1 by omega]
      exact b
theorem skp_add : ∀ (L : List Row) (m n : Nat), skp (m + n) L = skp m (skp n L) := by
  intro L
  induction L with
  | nil => intro m n; rw [skp_nil, skp_nil, skp_nil]
  | cons r rs ih =>
    intro m n
    cases n with
    | zero => rfl
    | succ n =>
      show skp (m + n + ari r.c0) rs = skp m (skp (n + ari r.c0) rs)
      rw [Nat.add_assoc]
      exact ih m _
/-- the place behind a part -/
def bhv (ps : List Row) (k : Nat) : Int := ((ps.length - (skp 1 (ps.drop k)).length : Nat) : Int)
/-- a text's cells hold these rows -/
def TT (ps : List Row) (t : Int) (M : Mem) : Prop := (ps.length ≤ 40 ∧ mG M t 0 = t + 1 ∧ mG M t 1 = t + 2 ∧ mG M t 2 = t + 3 ∧ mG M t 3 = t + 4 ∧ mG M t 4 = t + 5 ∧ mG M t 5 = (ps.length : Int)) ∧ (∀ (k : Nat) (r : Row), ps[k]? = some r → mG M (t + 1) (k : Int) = r.c0 ∧ mG M (t + 2) (k : Int) = r.c1 ∧ mG M (t + 3) (k : Int) = r.c2 ∧ mG M (t + 4) (k : Int) = r.c3) ∧ ∀ k : Nat, k < ps.length → mG M (t + 5) (k : Int) = bhv ps k
theorem TT.of {ps : List Row} {t : Int} {M M' : Mem} (h : TT ps t M) (g : ∀ b j : Int, t ≤ b → b ≤ t + 5 → mG M' b j = mG M b j) : TT ps t M' := by
  obtain ⟨⟨h0, h1, h2, h3, h4, h5, h6⟩, h7, h8⟩ := h
  refine ⟨⟨h0, (g _ _ (by omega) (by omega)).trans h1, (g _ _ (by omega) (by omega)).trans h2, (g _ _ (by omega) (by omega)).trans h3, (g _ _ (by omega) (by omega)).trans h4, (g _ _ (by omega) (by omega)).trans h5, (g _ _ (by omega) (by omega)).trans h6⟩, fun k r hr => ?_, fun k hk => (g _ _ (by omega) (by omega)).trans (h8 k hk)⟩
  obtain ⟨a, b, c, d⟩ := h7 k r hr
  exact ⟨(g _ _ (by omega) (by omega)).trans a, (g _ _ (by omega) (by omega)).trans b, (g _ _ (by omega) (by omega)).trans c, (g _ _ (by omega) (by omega)).trans d⟩
theorem pu_partsInside {a : Int} {M : Mem} (h : 0 ≤ a) : pw (mX5_partsInside a M) (fun q => q.2 = M ∧ q.1 = ((ari a : Nat) : Int)) := by
  have one : a ≤ 4 → ((ari a : Nat) : Int) = 1 := fun h => by unfold ari; rw [if_pos h]; rfl
  have two : 5 ≤ a → a ≤ 7 → ((ari a : Nat) : Int) = 2 := fun h h2 => by unfold ari; rw [if_neg (by omega), if_pos h2]; rfl
  have zer : 8 ≤ a → ((ari a : Nat) : Int) = 0 := fun h => by unfold ari; rw [if_neg (by omega), if_neg (by omega)]; rfl
  unfold mX5_partsInside
  refine p_if (fun c => p_ret ⟨rfl, (one (by omega)).symm⟩) (fun c0 => ?_)
  refine p_if (fun c => p_ret ⟨rfl, (one (by omega)).symm⟩) (fun c1 => ?_)
  refine p_if (fun c => p_ret ⟨rfl, (one (by omega)).symm⟩) (fun c2 => ?_)
  refine p_if (fun c => p_ret ⟨rfl, (one (by omega)).symm⟩) (fun c3 => ?_)
  refine p_if (fun c => p_ret ⟨rfl, (one (by omega)).symm⟩) (fun c4 => ?_)
  refine p_if (fun c => p_ret ⟨rfl, (two (by omega) (by omega)).symm⟩) (fun c5 => ?_)
  refine p_if (fun c => p_ret ⟨rfl, (two (by omega) (by omega)).symm⟩) (fun c6 => ?_)
  exact p_if (fun c => p_ret ⟨rfl, (two (by omega) (by omega)).symm⟩) (fun c7 => p_ret ⟨rfl, (zer (by omega)).symm⟩)
/-- the rows of a text are those of the draft -/
def DR (ps : List Row) (M0 : Mem) : Prop := ∀ (k : Nat) (r : Row), ps[k]? = some r → 0 ≤ r.c0 ∧ mG M0 67 (k : Int) = r.c0 ∧ mG M0 68 (k : Int) = r.c1 ∧ mG M0 69 (k : Int) = r.c2 ∧ mG M0 70 (k : Int) = r.c3
theorem TB.tt {ps : List Row} {t : Int} {M0 M : Mem} (h : TB M0 t ps.length (ps.length : Int) M) (d : DR ps M0) (h2 : ps.length ≤ 40) (hb : ∀ k : Nat, k < ps.length → mG M (t + 5) (k : Int) = bhv ps k) : TT ps t M := by
  obtain ⟨a1, a2, a3, a4, a5, a6, a7, a8⟩ := h
  refine ⟨⟨h2, ?_, ?_, ?_, ?_, ?_, a6⟩, fun k r hr => ?_, hb⟩
  · rw [a5 0 (by decide) (by decide)]; omega
  · rw [a5 1 (by decide) (by decide)]; omega
  · rw [a5 2 (by decide) (by decide)]; omega
  · rw [a5 3 (by decide) (by decide)]; omega
  · rw [a5 4 (by decide) (by decide)]; omega
  · have lt : k < ps.length := by
      by_cases y : k < ps.length
      · exact y
      · rw [List.getElem?_eq_none (by omega)] at hr; cases hr
    obtain ⟨_, d1, d2, d3, d4⟩ := d k r hr
    have e0 := a8 0 k (by decide) (by decide) (by omega) (by omega)
    have e1 := a8 1 k (by decide) (by decide) (by omega) (by omega)
    have e2 := a8 2 k (by decide) (by decide) (by omega) (by omega)
    have e3 := a8 3 k (by decide) (by decide) (by omega) (by omega)
    rw [show t + 1 + 0 = t + 1 by omega, show (67 : Int) + 0 = 67 from rfl] at e0
    rw [show t + 1 + 1 = t + 2 by omega, show (67 : Int) + 1 = 68 from rfl] at e1
    rw [show t + 1 + 2 = t + 3 by omega, show (67 : Int) + 2 = 69 from rfl] at e2
    rw [show t + 1 + 3 = t + 4 by omega, show (67 : Int) + 3 = 70 from rfl] at e3
    exact ⟨e0.trans d1, e1.trans d2, e2.trans d3, e3.trans d4⟩
theorem getE {ps : List Row} {k : Nat} (h : k < ps.length) : ∃ r, ps[k]? = some r ∧ ps.drop k = r :: ps.drop (k + 1) := ⟨ps[k], List.getElem?_eq_getElem h, List.drop_eq_getElem_cons h⟩
theorem q_findBehind {ps : List Row} {M0 M : Mem} {t : Int} (h : TB M0 t ps.length (ps.length : Int) M) (d : DR ps M0) (h2 : ps.length ≤ 40) : pw (mX5_findBehind t M) (fun q => TT ps t q.2) := by
  have key : ∀ (fu : Nat) (l1 : Int) (M : Mem), TB M0 t ps.length (ps.length : Int) M → -1 ≤ l1 → l1 < (ps.length : Int) → (∀ k : Nat, k < ps.length → l1 < (k : Int) → mG M (t + 5) (k : Int) = bhv ps k) → pw (mX5_findBehind_8 fu t l1 M) (fun q => TT ps t q.2) := by
    intro fu
    induction fu with
    | zero => intro l1 M _ _ _ _; exact p_none
    | succ fu ih =>
      intro l1 M hb b0 b1 hk
      show pw (bX5_findBehind_8 (mX5_findBehind_8 fu) t l1 M) _
      unfold bX5_findBehind_8
      refine p_if (fun c => p_ret (hb.tt d h2 (fun k hk1 => hk k hk1 (by omega)))) (fun c => ?_)
      obtain ⟨p, rfl⟩ := Int.eq_ofNat_of_zero_le (a := l1) (by omega)
      have b1 : p < ps.length := by omega
      obtain ⟨r, hr, hd⟩ := getE b1
      obtain ⟨r0, d0, _⟩ := d p r hr
      have inner : ∀ (fu2 : Nat) (i j : Nat) (l2 : Int) (M : Mem), TB M0 t ps.length (ps.length : Int) M → (∀ k : Nat, k < ps.length → (p : Int) < (k : Int) → mG M (t + 5) (k : Int) = bhv ps k) → i + j = ari r.c0 → l2 = ((ps.length - (skp i (ps.drop (p + 1))).length : Nat) : Int) → pw (mX5_findBehind_26 (mX5_findBehind_8 fu) fu2 t (p : Int) l2 (j : Int) M) (fun q => TT ps t q.2) := by
        intro fu2
        induction fu2 with
        | zero => intro i j l2 M _ _ _ _; exact p_none
        | succ fu2 ih2 =>
          intro i j l2 M hb hk hij hl2
          show pw (bX5_findBehind_26 (mX5_findBehind_8 fu) (mX5_findBehind_26 (mX5_findBehind_8 fu) fu2) t (p : Int) l2 (j : Int) M) _
          obtain ⟨a1, a2, a3, a4, a5, a6, a7, a8⟩ := id hb
          have f0 : mG M t 0 = t + 1 := by rw [a5 0 (by decide) (by decide)]; omega
          have f4 : mG M t 4 = t + 5 := by rw [a5 4 (by decide) (by decide)]; omega
          have sl := skp_len (ps.drop (p + 1)) i
          have dl : (ps.drop (p + 1)).length = ps.length - (p + 1) := List.length_drop ..
          unfold bX5_findBehind_26
          refine p_if (fun e => ?_) (fun e => ?_)
          · have j0 : j = 0 := by omega
            subst j0
            refine p_gFc (ji := 4) rfl f4 (p_aS (fun M1 h1 => ?_))
            rw [wI_id (x := (p : Int) + (-1)) (by omega) (by omega)]
            refine ih _ M1 (hb.beh ⟨by omega, by omega⟩ h1) (by omega) (by omega) (fun k k1 k2 => ?_)
            by_cases ek : k = p
            · subst ek
              rw [st_eq h1, hl2]
              unfold bhv
              rw [hd]
              show _ = ((ps.length - (skp (0 + ari r.c0) (ps.drop (k + 1))).length : Nat) : Int)
              rw [show 0 + ari r.c0 = i by omega]
            · rw [st_ne h1 (fun z => ek (by omega))]; exact hk k k1 (by omega)
          · refine p_gFc (ji := 0) rfl f0 (p_aL (fun v hv => ?_))
            have k1 : (mK M (t + 1)).2 = ps.length := congrArg Prod.snd (a4 1 (by decide) (by decide))
            rw [k1] at hv
            have al := ari_le r.c0
            have w3 := wI_id (x := (j : Int) + (-1)) (by omega) (by omega)
            obtain ⟨j, rfl⟩ : ∃ m, j = m + 1 := ⟨j - 1, by omega⟩
            have w4 : wI (((j + 1 : Nat) : Int) + (-1)) = (j : Int) := by rw [w3]; omega
            refine p_if (fun e2 => ?_) (fun e2 => ?_)
            · refine p_gFc (ji := 0) rfl f0 (p_aL (fun v2 hv2 => ?_))
              rw [k1] at hv2
              unfold mX5_findBehind_53
              rw [w4]
              refine ih2 (i + 1) j v2 M hb hk (by omega) ?_
              have en : (skp i (ps.drop (p + 1))).length = 0 := by omega
              rw [Nat.add_comm i 1, skp_add, List.eq_nil_of_length_eq_zero en, skp_nil, hv2]; rfl
            · obtain ⟨m, hm⟩ := Int.eq_ofNat_of_zero_le (a := l2) (by omega)
              refine p_gFc (ji := 4) rfl f4 (p_aG (fun v2 hv2 => ?_))
              unfold mX5_findBehind_53
              rw [w4]
              have hm2 : ps.length - (skp i (ps.drop (p + 1))).length = m := by omega
              rw [hm, hk m (by omega) (by omega)] at hv2
              refine ih2 (i + 1) j v2 M hb hk (by omega) ?_
              rw [← hv2]
              unfold bhv
              have e5 : skp i (ps.drop (p + 1)) = ps.drop m := by
                rw [sl.2, List.drop_drop]
                congr 1
                omega
              rw [Nat.add_comm i 1, skp_add, e5]
      obtain ⟨a1, a2, a3, a4, a5, a6, a7, a8⟩ := id hb
      have f0 : mG M t 0 = t + 1 := by rw [a5 0 (by decide) (by decide)]; omega
      have e0 := a8 0 p (by decide) (by decide) (by omega) (by omega)
      rw [show t + 1 + 0 = t + 1 by omega, show (67 : Int) + 0 = 67 from rfl] at e0
      refine p_gFc (ji := 0) rfl f0 (p_aGc (e0.trans d0) (p_call (pu_partsInside r0) (fun q m g => ?_)))
      obtain ⟨e, g⟩ := g
      have e : m = M := e
      have g : q = ((ari r.c0 : Nat) : Int) := g
      subst e; subst g
      dsimp only
      rw [wI_id (x := (p : Int) + 1) (by omega) (by omega)]
      refine inner FU 0 (ari r.c0) _ m hb (fun k k1 k2 => hk k k1 k2) (by omega) ?_
      rw [skp_zero, List.length_drop]
      omega
  obtain ⟨a1, a2, a3, a4, a5, a6, a7, a8⟩ := id h
  have f0 : mG M t 0 = t + 1 := by rw [a5 0 (by decide) (by decide)]; omega
  unfold mX5_findBehind
  refine p_gFc (ji := 0) rfl f0 (p_aL (fun v hv => ?_))
  have k1 : (mK M (t + 1)).2 = ps.length := congrArg Prod.snd (a4 1 (by decide) (by decide))
  rw [k1] at hv
  rw [wI_id (x := v - 1) (by omega) (by omega)]
  exact key FU _ M h (by omega) (by omega) (fun k k1 k2 => by omega)
