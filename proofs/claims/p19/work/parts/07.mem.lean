/-! ===== rows of the memory ===== -/
theorem fs_at {E : En} {M : Mem} {a : Int} {c k : Nat} (hk : k < nfl c) : ((List.range (nfl c)).map fun k => e_v E (ftag c k, mG M a k))[k]? = some (e_v E (ftag c k, mG M a k)) := by
  rw [List.getElem?_map, List.getElem?_range hk]; rfl
theorem fs_set {E : En} {M : Mem} {a x : Int} {c k : Nat} : ((List.range (nfl c)).map fun j => e_v E (ftag c j, mG M a j)).set k (e_v E (ftag c k, x)) = (List.range (nfl c)).map fun j => e_v E (ftag c j, mG (mS M a k x) a j) := by
  apply List.ext_getElem?
  intro j
  rw [List.getElem?_set]
  simp only [List.length_map, List.length_range]
  by_cases h : k = j
  · subst h
    rw [if_pos rfl]
    by_cases h2 : k < nfl c
    · rw [if_pos h2, fs_at h2]
      show some (e_v E (ftag c k, x)) = some (e_v E (ftag c k, if a = a ∧ (k : Int) = (k : Int) then x else M.2.1 a k))
      rw [if_pos ⟨rfl, rfl⟩]
    · rw [if_neg h2, List.getElem?_map, List.getElem?_eq_none (by rw [List.length_range]; omega)]
      rfl
  · rw [if_neg h, List.getElem?_map, List.getElem?_map]
    by_cases h2 : j < nfl c
    · rw [List.getElem?_range h2]
      show some (e_v E (ftag c j, M.2.1 a j)) = some (e_v E (ftag c j, if a = a ∧ (j : Int) = (k : Int) then x else M.2.1 a j))
      rw [if_neg (by omega)]
    · rw [List.getElem?_eq_none (by rw [List.length_range]; omega)]; rfl
theorem va_S.put2 {A : Nat → Prop} {H0 H H1 : Heap} {locs : List Loc} {a : Nat} {i : Nat} (hS : va_S A H0 H locs) (z : H1.size = H.size) (oq : ∀ q : Nat, q ≠ a → H1[q]? = H[q]?) (hA : A a) : va_S A H0 H1 (locs ++ [⟨a, i⟩]) := hS.put z oq hA
/-- a class that the world's cells have -/
def ClOk (c : Nat) (C : String) (T : u_T) (N : Nat) (ty : Nat → FieldType) : Prop := c < 10 ∧ vwCl[c]? = some (C, T, N) ∧ nfl c = N ∧ (∀ w ∈ u_ws C T N, w ∈ tblG) ∧ (∀ k, k < N → parseFieldDescriptor (T k).2.2.1 = some (ty k)) ∧ (∀ a, a < N → ∀ b, b < N → a ≠ b → (T a).2.1 ≠ (T b).2.1) ∧ (∀ k, k < N → (T k).1 = C) ∧ (∀ k, k < N → ftag c k = match ty k with | .int => 0 | .boolean => 0 | .byte => 0 | .long => 1 | .object _ => 2 | .array _ => 2 | _ => 3)
theorem clok_0 : ClOk 0 RX0 TX0 6 tyX0 := ⟨by decide, rfl, by decide +kernel, inX0, tyX0_ok, nmX0, by decide +kernel, by decide +kernel⟩
theorem clok_1 : ClOk 1 RX1 TX1 8 tyX1 := ⟨by decide, rfl, by decide +kernel, inX1, tyX1_ok, nmX1, by decide +kernel, by decide +kernel⟩
theorem clok_2 : ClOk 2 RX2 TX2 12 tyX2 := ⟨by decide, rfl, by decide +kernel, inX2, tyX2_ok, nmX2, by decide +kernel, by decide +kernel⟩
theorem clok_3 : ClOk 3 RX3 TX3 8 tyX3 := ⟨by decide, rfl, by decide +kernel, inX3, tyX3_ok, nmX3, by decide +kernel, by decide +kernel⟩
theorem clok_4 : ClOk 4 RX4 TX4 12 tyX4 := ⟨by decide, rfl, by decide +kernel, inX4, tyX4_ok, nmX4, by decide +kernel, by decide +kernel⟩
theorem clok_5 : ClOk 5 RX5 TX5 6 tyX5 := ⟨by decide, rfl, by decide +kernel, inX5, tyX5_ok, nmX5, by decide +kernel, by decide +kernel⟩
theorem clok_6 : ClOk 6 RX6 TX6 19 tyX6 := ⟨by decide, rfl, by decide +kernel, inX6, tyX6_ok, nmX6, by decide +kernel, by decide +kernel⟩
theorem clok_7 : ClOk 7 RX7 TX7 3 tyX7 := ⟨by decide, rfl, by decide +kernel, inX7, tyX7_ok, nmX7, by decide +kernel, by decide +kernel⟩
theorem clok_8 : ClOk 8 RX8 TX8 5 tyX8 := ⟨by decide, rfl, by decide +kernel, inX8, tyX8_ok, nmX8, by decide +kernel, by decide +kernel⟩
theorem clok_9 : ClOk 9 RX9 TX9 63 tyX9 := ⟨by decide, rfl, by decide +kernel, inX9, tyX9_ok, nmX9, by decide +kernel, by decide +kernel⟩
theorem fld_ok {E : En} {ty : FieldType} {t : Nat} {x : Int} (h : t = match ty with | .int => 0 | .boolean => 0 | .byte => 0 | .long => 1 | .object _ => 2 | .array _ => 2 | _ => 3) (hb : ty ≠ .boolean ∧ ty ≠ .byte) (h3 : t ≠ 3) : narrow ty (e_v E (t, x)) = e_v E (t, x) ∧ fits ty (e_v E (t, x)) = true := by
  have hr : ∀ r : Option Nat, (narrow (.int) (.int (Int32.ofInt x)) = .int (Int32.ofInt x)) ∧ True := fun _ => ⟨rfl, trivial⟩
  cases ty <;> first | exact absurd rfl hb.1 | exact absurd rfl hb.2 | exact absurd h h3 | (subst h; exact ⟨rfl, rfl⟩) | (subst h; show narrow _ (va_rf (e_rf E x)) = va_rf (e_rf E x) ∧ fits _ (va_rf (e_rf E x)) = true; rcases va_rf_or (e_rf E x) with z | ⟨q, z⟩ <;> rw [z] <;> exact ⟨rfl, rfl⟩)
section GM
variable {E : En} {p : Program} {l : Launch} {e : Env} {R : Room} {s : State} {m : MethodId} {args : Array Value} {below : List Frame} {meth : Method} {c : Code} {Q : State → Prop} {cc : ByteArray} {nL : Nat} {own : String} {ret : Option FieldType} {nm : String} {k n pc : Nat} {M M1 : Mem} {ls : List (Nat × V)} {st : List V}
/-- getfield -/
theorem r_get {a v : Int} {ci j idx N : Nat} {C : String} {T : u_T} {ty : Nat → FieldType} (hC : ClOk ci C T N ty) (F : Fx E p s m args meth c cc nL own ret nm) (hj : j < N) (h : gF ci j M a = some v) (hw : Cond.fieldLink own idx C (T j).2.1 (T j).2.2.1 ∈ tblG) (d : decode cc pc = .ok (.getfield idx, 3)) (kk : G E p l e R s m args below meth c nL Q k n M (pc + 3) ls ((ftag ci j, v) :: st)) : G E p l e R s m args below meth c nL Q k n M pc ls (vR a :: st) := by
  intro hls hst hM H locs lsA cells slots hR hS hl hc hs
  obtain ⟨hK, rfl⟩ := ite_so h
  obtain ⟨c1, c2, c3, c4, c5, c6, c7, c8⟩ := hC
  have h17 : (mK M a).1 < 17 := by omega
  have hat := hR.at hM h17
  rw [cellOf_obj hK c1] at hat
  have hP : va_P E.1 vwCl [(eB E + (a - 1).toNat, cellOf E M a)] H := fun k q hq => by
    match k, hq with
    | 0, hq => cases hq; exact hR.at hM h17
  have hv : vok (ftag ci j, mG M a j) := by
    have := hM.1 a j
    unfold mT at this
    rw [hK, if_pos c1] at this
    exact this
  have hh := kk hls (vst1 hv (vtl hst)) hM H locs lsA cells slots hR hS hl hc hs
  rw [List.map_cons, e_v_R (hM.2.1 a h17).1]
  refine va_get (v := e_v E (ftag ci j, mG M a j)) F.1 F.2.1 F.2.2.2.2.1 c4 F.2.2.2.1 F.2.2.2.2.2.1 hP 0 (fs := (List.range (nfl ci)).map fun k => e_v E (ftag ci k, mG M a k)) (by rw [cellOf_obj hK c1]; rfl) c2 j hj (F.2.2.2.2.1 _ hw) (fun x hx => by rw [c7 j hj] at hx; exact hx) (fs_at (by omega)) d ?_
  exact hh
/-- putfield -/
theorem r_put {a x : Int} {ci j idx N : Nat} {C : String} {T : u_T} {ty : Nat → FieldType} (hC : ClOk ci C T N ty) (F : Fx E p s m args meth c cc nL own ret nm) (hj : j < N) (hf : (T j).2.2.2 = false) (ht : ty j ≠ .boolean ∧ ty j ≠ .byte) (h3 : ftag ci j ≠ 3) (h : pF ci j M a x = some M1) (hw : Cond.fieldLink own idx C (T j).2.1 (T j).2.2.1 ∈ tblG) (d : decode cc pc = .ok (.putfield idx, 3)) (kk : G E p l e R s m args below meth c nL Q k n M1 (pc + 3) ls st) : G E p l e R s m args below meth c nL Q k n M pc ls ((ftag ci j, x) :: vR a :: st) := by
  intro hls hst hM H locs lsA cells slots hR hS hl hc hs
  obtain ⟨c1, c2, c3, c4, c5, c6, c7, c8⟩ := hC
  obtain ⟨hK, rfl⟩ := ite_so h
  have h17 : (mK M a).1 < 17 := by omega
  have hat := hR.at hM h17
  have hP : va_P E.1 vwCl [(eB E + (a - 1).toNat, cellOf E M a)] H := fun k q hq => by
    match k, hq with
    | 0, hq => cases hq; exact hR.at hM h17
  have hA : AE E (eB E + (a - 1).toNat) := Nat.le_add_right _ _
  have hvx : vok (ftag ci j, x) := vhd hst
  have hM1 : MOK (mS M a j x) := hM.upd (by omega) (by unfold mT; rw [hK, if_pos c1]; exact hvx)
  rw [List.map_cons, List.map_cons, e_v_R (hM.2.1 a h17).1]
  obtain ⟨hnar, hfit⟩ : narrow (ty j) (e_v E (ftag ci j, x)) = e_v E (ftag ci j, x) ∧ fits (ty j) (e_v E (ftag ci j, x)) = true := by
    have h8 := c8 j hj
    exact fld_ok h8 ht h3
  have hap := va_apart (own := own) F.2.2.2.2.1 c4 ty c5 c6 F.2.2.2.2.2.1 c2
  obtain ⟨r, h1, cell, q1, q2, q3, q4⟩ := by rw [cellOf_obj hK c1] at hat; exact hat
  have hr : r = (C, T, N) := Option.some.inj (h1.symm.trans c2)
  subst hr
  obtain ⟨hSl, hfc, kC, hkC, hkind⟩ := F.2.2.2.2.2.1.1 ci _ c2
  obtain ⟨cf, kf, fi, f, hi9, hsl⟩ := hSl j hj
  have hlay := F.2.2.2.2.1 _ (c4 _ (u_in_lay hj))
  unfold u_lay at hlay
  rw [if_neg (by rw [hf]; decide)] at hlay
  have hst9 := (u_facts hfc hkC (u_lays F.2.2.2.2.1 c4 hj) hi9).1
  have h6 := u_store hfc hkC hkind hlay hi9 (c5 j hj) hnar hfit
  refine W.putK F.1 F.2.1 (f := f) ⟨F.2.2.2.1, F.2.2.2.2.1 _ hw, ⟨_, _, _, by rw [c7 j hj] at hi9; exact hi9⟩, hst9⟩ (by rw [q2]; exact h6) q1 q3 (by rw [hsl]; exact k2_hasslot (q4 j hj)) rfl rfl d fun H' e1 e2 e3 => ?_
  rw [hsl] at e1 ⊢
  have hP1 : va_at E.1 vwCl (eB E + (a - 1).toNat, cellOf E (mS M a j x) a) H' := by
    rw [cellOf_obj (M := mS M a j x) hK c1]
    have t1 : t_OB (eB E + (a - 1).toNat) (E.1.1 ci) N (E.1.2 ci) H' (updV (vp_V ((List.range (nfl ci)).map fun k => e_v E (ftag ci k, mG M a k))) j (e_v E (ftag ci j, x))) := ⟨_, e1, q2, q3, t_set q4 hap hj (e_v E (ftag ci j, x))⟩
    refine ⟨(C, T, N), c2, t1.to (fun i _ => ?_)⟩
    rw [← fs_set]
    exact vp_updV_set (by rw [List.length_map, List.length_range]; omega) (e_v E (ftag ci j, x)) i
  have hR1 : Rep E (mS M a j x) H' := hR.upd hM h17 rfl rfl (fun b hb i => by show (if b = a ∧ i = (j : Int) then x else M.2.1 b i) = _; rw [if_neg (fun z => hb z.1)]) e2 e3 hP1
  exact kk hls (vtl (vtl hst)) hM1 H' _ lsA cells slots hR1 (hS.put e2 e3 hA) hl hc hs
/-- putfield -/
theorem r_putF {a x : Int} {ci j idx N : Nat} {C : String} {T : u_T} {ty : Nat → FieldType} (hC : ClOk ci C T N ty) (F : Fx E p s m args meth c cc nL own ret nm) (hj : j < N) (hi : nm = "<init>") (ho : own = C) (hf : (T j).2.2.2 = true) (ht : ty j ≠ .boolean ∧ ty j ≠ .byte) (h3 : ftag ci j ≠ 3) (h : pF ci j M a x = some M1) (hw : Cond.fieldLink own idx C (T j).2.1 (T j).2.2.1 ∈ tblG) (d : decode cc pc = .ok (.putfield idx, 3)) (kk : G E p l e R s m args below meth c nL Q k n M1 (pc + 3) ls st) : G E p l e R s m args below meth c nL Q k n M pc ls ((ftag ci j, x) :: vR a :: st) := by
  intro hls hst hM H locs lsA cells slots hR hS hl hc hs
  obtain ⟨c1, c2, c3, c4, c5, c6, c7, c8⟩ := hC
  obtain ⟨hK, rfl⟩ := ite_so h
  have h17 : (mK M a).1 < 17 := by omega
  have hat := hR.at hM h17
  have hP : va_P E.1 vwCl [(eB E + (a - 1).toNat, cellOf E M a)] H := fun k q hq => by
    match k, hq with
    | 0, hq => cases hq; exact hR.at hM h17
  have hA : AE E (eB E + (a - 1).toNat) := Nat.le_add_right _ _
  have hvx : vok (ftag ci j, x) := vhd hst
  have hM1 : MOK (mS M a j x) := hM.upd (by omega) (by unfold mT; rw [hK, if_pos c1]; exact hvx)
  rw [List.map_cons, List.map_cons, e_v_R (hM.2.1 a h17).1]
  obtain ⟨hnar, hfit⟩ : narrow (ty j) (e_v E (ftag ci j, x)) = e_v E (ftag ci j, x) ∧ fits (ty j) (e_v E (ftag ci j, x)) = true := by
    have h8 := c8 j hj
    exact fld_ok h8 ht h3
  have hap := va_apart (own := own) F.2.2.2.2.1 c4 ty c5 c6 F.2.2.2.2.2.1 c2
  obtain ⟨r, h1, cell, q1, q2, q3, q4⟩ := by rw [cellOf_obj hK c1] at hat; exact hat
  have hr : r = (C, T, N) := Option.some.inj (h1.symm.trans c2)
  subst hr
  obtain ⟨hSl, hfc, kC, hkC, hkind⟩ := F.2.2.2.2.2.1.1 ci _ c2
  obtain ⟨cf, kf, fi, f, hi9, hsl⟩ := hSl j hj
  have hlay := F.2.2.2.2.1 _ (c4 _ (u_in_lay hj))
  unfold u_lay at hlay
  rw [if_pos hf] at hlay
  have hst9 := (u_facts hfc hkC (u_lays F.2.2.2.2.1 c4 hj) hi9).1
  have hcf : m.cls = cf := by
    obtain ⟨_, _, c', _, _, _, -, -, hf', -, -, -, hown2, -⟩ := Cond.laysFinal_spec hlay
    have e1 : c' = cf := by have := hi9.symm.trans hf'; simp at this; exact this.1.symm
    rw [c7 j hj, ← ho] at hown2
    rw [← e1]; exact Option.some.inj (F.2.2.2.1.symm.trans hown2)
  have h6 := u_fits hfc hkC hkind (Or.inr hlay) hi9 (c5 j hj) hnar hfit
  refine W.putFinK F.1 F.2.1 F.2.2.2.1 (F.2.2.2.2.1 _ hw) (by rw [c7 j hj] at hi9; exact hi9) hst9 hcf (F.2.2.2.2.2.2.2.2.2.2.trans hi) (by rw [q2]; exact h6) q1 q3 (by rw [hsl]; exact k2_hasslot (q4 j hj)) rfl rfl d fun H' e1 e2 e3 => ?_
  rw [hsl] at e1 ⊢
  have hP1 : va_at E.1 vwCl (eB E + (a - 1).toNat, cellOf E (mS M a j x) a) H' := by
    rw [cellOf_obj (M := mS M a j x) hK c1]
    have t1 : t_OB (eB E + (a - 1).toNat) (E.1.1 ci) N (E.1.2 ci) H' (updV (vp_V ((List.range (nfl ci)).map fun k => e_v E (ftag ci k, mG M a k))) j (e_v E (ftag ci j, x))) := ⟨_, e1, q2, q3, t_set q4 hap hj (e_v E (ftag ci j, x))⟩
    refine ⟨(C, T, N), c2, t1.to (fun i _ => ?_)⟩
    rw [← fs_set]
    exact vp_updV_set (by rw [List.length_map, List.length_range]; omega) (e_v E (ftag ci j, x)) i
  have hR1 : Rep E (mS M a j x) H' := hR.upd hM h17 rfl rfl (fun b hb i => by show (if b = a ∧ i = (j : Int) then x else M.2.1 b i) = _; rw [if_neg (fun z => hb z.1)]) e2 e3 hP1
  exact kk hls (vtl (vtl hst)) hM1 H' _ lsA cells slots hR1 (hS.put e2 e3 hA) hl hc hs
/-- putfield -/
theorem r_putZ {a x : Int} {ci j idx N : Nat} {C : String} {T : u_T} {ty : Nat → FieldType} (hC : ClOk ci C T N ty) (F : Fx E p s m args meth c cc nL own ret nm) (hj : j < N) (hf : (T j).2.2.2 = false) (ht : ty j = .boolean) (h : pZ ci j M a x = some M1) (hw : Cond.fieldLink own idx C (T j).2.1 (T j).2.2.1 ∈ tblG) (d : decode cc pc = .ok (.putfield idx, 3)) (kk : G E p l e R s m args below meth c nL Q k n M1 (pc + 3) ls st) : G E p l e R s m args below meth c nL Q k n M pc ls ((ftag ci j, x) :: vR a :: st) := by
  intro hls hst hM H locs lsA cells slots hR hS hl hc hs
  obtain ⟨c1, c2, c3, c4, c5, c6, c7, c8⟩ := hC
  obtain ⟨⟨hK, hx01⟩, rfl⟩ := ite_so h
  have h17 : (mK M a).1 < 17 := by omega
  have hat := hR.at hM h17
  have hP : va_P E.1 vwCl [(eB E + (a - 1).toNat, cellOf E M a)] H := fun k q hq => by
    match k, hq with
    | 0, hq => cases hq; exact hR.at hM h17
  have hA : AE E (eB E + (a - 1).toNat) := Nat.le_add_right _ _
  have hvx : vok (ftag ci j, x) := vhd hst
  have hM1 : MOK (mS M a j x) := hM.upd (by omega) (by unfold mT; rw [hK, if_pos c1]; exact hvx)
  rw [List.map_cons, List.map_cons, e_v_R (hM.2.1 a h17).1]
  obtain ⟨hnar, hfit⟩ : narrow (ty j) (e_v E (ftag ci j, x)) = e_v E (ftag ci j, x) ∧ fits (ty j) (e_v E (ftag ci j, x)) = true := by
    have h8 := c8 j hj
    rw [ht] at h8 ⊢; rw [h8]; rcases hx01 with z | z <;> subst z <;> exact ⟨rfl, rfl⟩
  have hap := va_apart (own := own) F.2.2.2.2.1 c4 ty c5 c6 F.2.2.2.2.2.1 c2
  obtain ⟨r, h1, cell, q1, q2, q3, q4⟩ := by rw [cellOf_obj hK c1] at hat; exact hat
  have hr : r = (C, T, N) := Option.some.inj (h1.symm.trans c2)
  subst hr
  obtain ⟨hSl, hfc, kC, hkC, hkind⟩ := F.2.2.2.2.2.1.1 ci _ c2
  obtain ⟨cf, kf, fi, f, hi9, hsl⟩ := hSl j hj
  have hlay := F.2.2.2.2.1 _ (c4 _ (u_in_lay hj))
  unfold u_lay at hlay
  rw [if_neg (by rw [hf]; decide)] at hlay
  have hst9 := (u_facts hfc hkC (u_lays F.2.2.2.2.1 c4 hj) hi9).1
  have h6 := u_store hfc hkC hkind hlay hi9 (c5 j hj) hnar hfit
  refine W.putK F.1 F.2.1 (f := f) ⟨F.2.2.2.1, F.2.2.2.2.1 _ hw, ⟨_, _, _, by rw [c7 j hj] at hi9; exact hi9⟩, hst9⟩ (by rw [q2]; exact h6) q1 q3 (by rw [hsl]; exact k2_hasslot (q4 j hj)) rfl rfl d fun H' e1 e2 e3 => ?_
  rw [hsl] at e1 ⊢
  have hP1 : va_at E.1 vwCl (eB E + (a - 1).toNat, cellOf E (mS M a j x) a) H' := by
    rw [cellOf_obj (M := mS M a j x) hK c1]
    have t1 : t_OB (eB E + (a - 1).toNat) (E.1.1 ci) N (E.1.2 ci) H' (updV (vp_V ((List.range (nfl ci)).map fun k => e_v E (ftag ci k, mG M a k))) j (e_v E (ftag ci j, x))) := ⟨_, e1, q2, q3, t_set q4 hap hj (e_v E (ftag ci j, x))⟩
    refine ⟨(C, T, N), c2, t1.to (fun i _ => ?_)⟩
    rw [← fs_set]
    exact vp_updV_set (by rw [List.length_map, List.length_range]; omega) (e_v E (ftag ci j, x)) i
  have hR1 : Rep E (mS M a j x) H' := hR.upd hM h17 rfl rfl (fun b hb i => by show (if b = a ∧ i = (j : Int) then x else M.2.1 b i) = _; rw [if_neg (fun z => hb z.1)]) e2 e3 hP1
  exact kk hls (vtl (vtl hst)) hM1 H' _ lsA cells slots hR1 (hS.put e2 e3 hA) hl hc hs
end GM
